theorem dX10_init_0 : decode cX10_init 0 = .ok (.aload_n 0, 1) := by decide +kernel
theorem dX10_init_1 : decode cX10_init 1 = .ok (.invokespecial 3, 3) := by decide +kernel
theorem dX10_init_4 : decode cX10_init 4 = .ok (.aload_n 0, 1) := by decide +kernel
theorem dX10_init_5 : decode cX10_init 5 = .ok (.sipush 240, 3) := by decide +kernel
theorem dX10_init_8 : decode cX10_init 8 = .ok (.newarray .byte, 2) := by decide +kernel
theorem dX10_init_10 : decode cX10_init 10 = .ok (.putfield 9, 3) := by decide +kernel
theorem dX10_init_13 : decode cX10_init 13 = .ok (.aload_n 0, 1) := by decide +kernel
theorem dX10_init_14 : decode cX10_init 14 = .ok (.iconst 4, 1) := by decide +kernel
theorem dX10_init_15 : decode cX10_init 15 = .ok (.newarray .int, 2) := by decide +kernel
theorem dX10_init_17 : decode cX10_init 17 = .ok (.putfield 13, 3) := by decide +kernel
theorem dX10_init_20 : decode cX10_init 20 = .ok (.aload_n 0, 1) := by decide +kernel
theorem dX10_init_21 : decode cX10_init 21 = .ok (.iconst 4, 1) := by decide +kernel
theorem dX10_init_22 : decode cX10_init 22 = .ok (.newarray .int, 2) := by decide +kernel
theorem dX10_init_24 : decode cX10_init 24 = .ok (.putfield 17, 3) := by decide +kernel
theorem dX10_init_27 : decode cX10_init 27 = .ok (.aload_n 0, 1) := by decide +kernel
theorem dX10_init_28 : decode cX10_init 28 = .ok (.iconst 4, 1) := by decide +kernel
theorem dX10_init_29 : decode cX10_init 29 = .ok (.newarray .int, 2) := by decide +kernel
theorem dX10_init_31 : decode cX10_init 31 = .ok (.putfield 20, 3) := by decide +kernel
theorem dX10_init_34 : decode cX10_init 34 = .ok (.aload_n 0, 1) := by decide +kernel
theorem dX10_init_35 : decode cX10_init 35 = .ok (.sipush 400, 3) := by decide +kernel
theorem dX10_init_38 : decode cX10_init 38 = .ok (.newarray .int, 2) := by decide +kernel
theorem dX10_init_40 : decode cX10_init 40 = .ok (.putfield 23, 3) := by decide +kernel
theorem dX10_init_43 : decode cX10_init 43 = .ok (.aload_n 0, 1) := by decide +kernel
theorem dX10_init_44 : decode cX10_init 44 = .ok (.iconst 5, 1) := by decide +kernel
theorem dX10_init_45 : decode cX10_init 45 = .ok (.newarray .int, 2) := by decide +kernel
theorem dX10_init_47 : decode cX10_init 47 = .ok (.putfield 26, 3) := by decide +kernel
theorem dX10_init_50 : decode cX10_init 50 = .ok (.aload_n 0, 1) := by decide +kernel
theorem dX10_init_51 : decode cX10_init 51 = .ok (.sipush 1554, 3) := by decide +kernel
theorem dX10_init_54 : decode cX10_init 54 = .ok (.newarray .int, 2) := by decide +kernel
theorem dX10_init_56 : decode cX10_init 56 = .ok (.putfield 29, 3) := by decide +kernel
theorem dX10_init_59 : decode cX10_init 59 = .ok (.aload_n 0, 1) := by decide +kernel
theorem dX10_init_60 : decode cX10_init 60 = .ok (.sipush 1554, 3) := by decide +kernel
theorem dX10_init_63 : decode cX10_init 63 = .ok (.newarray .int, 2) := by decide +kernel
theorem dX10_init_65 : decode cX10_init 65 = .ok (.putfield 32, 3) := by decide +kernel
theorem dX10_init_68 : decode cX10_init 68 = .ok (.aload_n 0, 1) := by decide +kernel
theorem dX10_init_69 : decode cX10_init 69 = .ok (.sipush 1554, 3) := by decide +kernel
theorem dX10_init_72 : decode cX10_init 72 = .ok (.newarray .int, 2) := by decide +kernel
theorem dX10_init_74 : decode cX10_init 74 = .ok (.putfield 35, 3) := by decide +kernel
theorem dX10_init_77 : decode cX10_init 77 = .ok (.aload_n 0, 1) := by decide +kernel
theorem dX10_init_78 : decode cX10_init 78 = .ok (.sipush 1554, 3) := by decide +kernel
theorem dX10_init_81 : decode cX10_init 81 = .ok (.newarray .int, 2) := by decide +kernel
theorem dX10_init_83 : decode cX10_init 83 = .ok (.putfield 38, 3) := by decide +kernel
theorem dX10_init_86 : decode cX10_init 86 = .ok (.aload_n 0, 1) := by decide +kernel
theorem dX10_init_87 : decode cX10_init 87 = .ok (.ldc 41, 2) := by decide +kernel
theorem dX10_init_89 : decode cX10_init 89 = .ok (.newarray .int, 2) := by decide +kernel
theorem dX10_init_91 : decode cX10_init 91 = .ok (.putfield 42, 3) := by decide +kernel
theorem dX10_init_94 : decode cX10_init 94 = .ok (.aload_n 0, 1) := by decide +kernel
theorem dX10_init_95 : decode cX10_init 95 = .ok (.bipush 80, 2) := by decide +kernel
theorem dX10_init_97 : decode cX10_init 97 = .ok (.newarray .boolean, 2) := by decide +kernel
theorem dX10_init_99 : decode cX10_init 99 = .ok (.putfield 45, 3) := by decide +kernel
theorem dX10_init_102 : decode cX10_init 102 = .ok (.aload_n 0, 1) := by decide +kernel
theorem dX10_init_103 : decode cX10_init 103 = .ok (.bipush 80, 2) := by decide +kernel
theorem dX10_init_105 : decode cX10_init 105 = .ok (.newarray .int, 2) := by decide +kernel
theorem dX10_init_107 : decode cX10_init 107 = .ok (.putfield 49, 3) := by decide +kernel
theorem dX10_init_110 : decode cX10_init 110 = .ok (.aload_n 0, 1) := by decide +kernel
theorem dX10_init_111 : decode cX10_init 111 = .ok (.bipush 80, 2) := by decide +kernel
theorem dX10_init_113 : decode cX10_init 113 = .ok (.newarray .int, 2) := by decide +kernel
theorem dX10_init_115 : decode cX10_init 115 = .ok (.putfield 52, 3) := by decide +kernel
theorem dX10_init_118 : decode cX10_init 118 = .ok (.aload_n 0, 1) := by decide +kernel
theorem dX10_init_119 : decode cX10_init 119 = .ok (.sipush 1554, 3) := by decide +kernel
theorem dX10_init_122 : decode cX10_init 122 = .ok (.newarray .int, 2) := by decide +kernel
theorem dX10_init_124 : decode cX10_init 124 = .ok (.putfield 55, 3) := by decide +kernel
theorem dX10_init_127 : decode cX10_init 127 = .ok (.aload_n 0, 1) := by decide +kernel
theorem dX10_init_128 : decode cX10_init 128 = .ok (.bipush 80, 2) := by decide +kernel
theorem dX10_init_130 : decode cX10_init 130 = .ok (.newarray .int, 2) := by decide +kernel
theorem dX10_init_132 : decode cX10_init 132 = .ok (.putfield 58, 3) := by decide +kernel
theorem dX10_init_135 : decode cX10_init 135 = .ok (.aload_n 0, 1) := by decide +kernel
theorem dX10_init_136 : decode cX10_init 136 = .ok (.bipush 80, 2) := by decide +kernel
theorem dX10_init_138 : decode cX10_init 138 = .ok (.newarray .int, 2) := by decide +kernel
theorem dX10_init_140 : decode cX10_init 140 = .ok (.putfield 61, 3) := by decide +kernel
theorem dX10_init_143 : decode cX10_init 143 = .ok (.aload_n 0, 1) := by decide +kernel
theorem dX10_init_144 : decode cX10_init 144 = .ok (.bipush 80, 2) := by decide +kernel
theorem dX10_init_146 : decode cX10_init 146 = .ok (.newarray .int, 2) := by decide +kernel
theorem dX10_init_148 : decode cX10_init 148 = .ok (.putfield 64, 3) := by decide +kernel
theorem dX10_init_151 : decode cX10_init 151 = .ok (.aload_n 0, 1) := by decide +kernel
theorem dX10_init_152 : decode cX10_init 152 = .ok (.bipush 80, 2) := by decide +kernel
theorem dX10_init_154 : decode cX10_init 154 = .ok (.newarray .int, 2) := by decide +kernel
theorem dX10_init_156 : decode cX10_init 156 = .ok (.putfield 67, 3) := by decide +kernel
theorem dX10_init_159 : decode cX10_init 159 = .ok (.aload_n 0, 1) := by decide +kernel
theorem dX10_init_160 : decode cX10_init 160 = .ok (.bipush 80, 2) := by decide +kernel
theorem dX10_init_162 : decode cX10_init 162 = .ok (.newarray .int, 2) := by decide +kernel
theorem dX10_init_164 : decode cX10_init 164 = .ok (.putfield 70, 3) := by decide +kernel
theorem dX10_init_167 : decode cX10_init 167 = .ok (.return_, 1) := by decide +kernel
theorem dX10_thrown_0 : decode cX10_thrown 0 = .ok (.aload_n 0, 1) := by decide +kernel
theorem dX10_thrown_1 : decode cX10_thrown 1 = .ok (.getfield 73, 3) := by decide +kernel
theorem dX10_thrown_4 : decode cX10_thrown 4 = .ok (.ireturn, 1) := by decide +kernel
theorem dX10_isIn_0 : decode cX10_isIn 0 = .ok (.lload_n 0, 1) := by decide +kernel
theorem dX10_isIn_1 : decode cX10_isIn 1 = .ok (.lload_n 2, 1) := by decide +kernel
theorem dX10_isIn_2 : decode cX10_isIn 2 = .ok (.lcmp, 1) := by decide +kernel
theorem dX10_isIn_3 : decode cX10_isIn 3 = .ok (.ifCond .lt 14, 3) := by decide +kernel
theorem dX10_isIn_6 : decode cX10_isIn 6 = .ok (.lload_n 0, 1) := by decide +kernel
theorem dX10_isIn_7 : decode cX10_isIn 7 = .ok (.lload 4, 2) := by decide +kernel
theorem dX10_isIn_9 : decode cX10_isIn 9 = .ok (.lcmp, 1) := by decide +kernel
theorem dX10_isIn_10 : decode cX10_isIn 10 = .ok (.ifCond .gt 7, 3) := by decide +kernel
theorem dX10_isIn_13 : decode cX10_isIn 13 = .ok (.iconst 1, 1) := by decide +kernel
theorem dX10_isIn_14 : decode cX10_isIn 14 = .ok (.goto 4, 3) := by decide +kernel
theorem dX10_isIn_17 : decode cX10_isIn 17 = .ok (.iconst 0, 1) := by decide +kernel
theorem dX10_isIn_18 : decode cX10_isIn 18 = .ok (.ireturn, 1) := by decide +kernel
theorem dX10_bytesOf_0 : decode cX10_bytesOf 0 = .ok (.iconst 0, 1) := by decide +kernel
theorem dX10_bytesOf_1 : decode cX10_bytesOf 1 = .ok (.istore_n 1, 1) := by decide +kernel
theorem dX10_bytesOf_2 : decode cX10_bytesOf 2 = .ok (.iconst 0, 1) := by decide +kernel
theorem dX10_bytesOf_3 : decode cX10_bytesOf 3 = .ok (.istore_n 2, 1) := by decide +kernel
theorem dX10_bytesOf_4 : decode cX10_bytesOf 4 = .ok (.iload_n 2, 1) := by decide +kernel
theorem dX10_bytesOf_5 : decode cX10_bytesOf 5 = .ok (.iconst 4, 1) := by decide +kernel
theorem dX10_bytesOf_6 : decode cX10_bytesOf 6 = .ok (.if_icmp .ge 30, 3) := by decide +kernel
theorem dX10_bytesOf_9 : decode cX10_bytesOf 9 = .ok (.iload_n 1, 1) := by decide +kernel
theorem dX10_bytesOf_10 : decode cX10_bytesOf 10 = .ok (.iload_n 0, 1) := by decide +kernel
theorem dX10_bytesOf_11 : decode cX10_bytesOf 11 = .ok (.bipush 8, 2) := by decide +kernel
theorem dX10_bytesOf_13 : decode cX10_bytesOf 13 = .ok (.iload_n 2, 1) := by decide +kernel
theorem dX10_bytesOf_14 : decode cX10_bytesOf 14 = .ok (.imul, 1) := by decide +kernel
theorem dX10_bytesOf_15 : decode cX10_bytesOf 15 = .ok (.ishr, 1) := by decide +kernel
theorem dX10_bytesOf_16 : decode cX10_bytesOf 16 = .ok (.sipush 255, 3) := by decide +kernel
theorem dX10_bytesOf_19 : decode cX10_bytesOf 19 = .ok (.iand, 1) := by decide +kernel
theorem dX10_bytesOf_20 : decode cX10_bytesOf 20 = .ok (.ifCond .ne 7, 3) := by decide +kernel
theorem dX10_bytesOf_23 : decode cX10_bytesOf 23 = .ok (.iconst 0, 1) := by decide +kernel
theorem dX10_bytesOf_24 : decode cX10_bytesOf 24 = .ok (.goto 4, 3) := by decide +kernel
theorem dX10_bytesOf_27 : decode cX10_bytesOf 27 = .ok (.iconst 1, 1) := by decide +kernel
theorem dX10_bytesOf_28 : decode cX10_bytesOf 28 = .ok (.iadd, 1) := by decide +kernel
theorem dX10_bytesOf_29 : decode cX10_bytesOf 29 = .ok (.istore_n 1, 1) := by decide +kernel
theorem dX10_bytesOf_30 : decode cX10_bytesOf 30 = .ok (.iinc 2 1, 3) := by decide +kernel
theorem dX10_bytesOf_33 : decode cX10_bytesOf 33 = .ok (.goto (-29), 3) := by decide +kernel
theorem dX10_bytesOf_36 : decode cX10_bytesOf 36 = .ok (.iload_n 1, 1) := by decide +kernel
theorem dX10_bytesOf_37 : decode cX10_bytesOf 37 = .ok (.ireturn, 1) := by decide +kernel
theorem dX10_brings_0 : decode cX10_brings 0 = .ok (.bipush 24, 2) := by decide +kernel
theorem dX10_brings_2 : decode cX10_brings 2 = .ok (.istore_n 2, 1) := by decide +kernel
theorem dX10_brings_3 : decode cX10_brings 3 = .ok (.iload_n 2, 1) := by decide +kernel
theorem dX10_brings_4 : decode cX10_brings 4 = .ok (.ifCond .lt 45, 3) := by decide +kernel
theorem dX10_brings_7 : decode cX10_brings 7 = .ok (.iload_n 1, 1) := by decide +kernel
theorem dX10_brings_8 : decode cX10_brings 8 = .ok (.iload_n 2, 1) := by decide +kernel
theorem dX10_brings_9 : decode cX10_brings 9 = .ok (.ishr, 1) := by decide +kernel
theorem dX10_brings_10 : decode cX10_brings 10 = .ok (.sipush 255, 3) := by decide +kernel
theorem dX10_brings_13 : decode cX10_brings 13 = .ok (.iand, 1) := by decide +kernel
theorem dX10_brings_14 : decode cX10_brings 14 = .ok (.istore_n 3, 1) := by decide +kernel
theorem dX10_brings_15 : decode cX10_brings 15 = .ok (.iload_n 3, 1) := by decide +kernel
theorem dX10_brings_16 : decode cX10_brings 16 = .ok (.ifCond .ne 6, 3) := by decide +kernel
theorem dX10_brings_19 : decode cX10_brings 19 = .ok (.goto 24, 3) := by decide +kernel
theorem dX10_brings_22 : decode cX10_brings 22 = .ok (.aload_n 0, 1) := by decide +kernel
theorem dX10_brings_23 : decode cX10_brings 23 = .ok (.getfield 9, 3) := by decide +kernel
theorem dX10_brings_26 : decode cX10_brings 26 = .ok (.aload_n 0, 1) := by decide +kernel
theorem dX10_brings_27 : decode cX10_brings 27 = .ok (.getfield 77, 3) := by decide +kernel
theorem dX10_brings_30 : decode cX10_brings 30 = .ok (.iload_n 3, 1) := by decide +kernel
theorem dX10_brings_31 : decode cX10_brings 31 = .ok (.i2b, 1) := by decide +kernel
theorem dX10_brings_32 : decode cX10_brings 32 = .ok (.bastore, 1) := by decide +kernel
theorem dX10_brings_33 : decode cX10_brings 33 = .ok (.aload_n 0, 1) := by decide +kernel
theorem dX10_brings_34 : decode cX10_brings 34 = .ok (.dup, 1) := by decide +kernel
theorem dX10_brings_35 : decode cX10_brings 35 = .ok (.getfield 77, 3) := by decide +kernel
theorem dX10_brings_38 : decode cX10_brings 38 = .ok (.iconst 1, 1) := by decide +kernel
theorem dX10_brings_39 : decode cX10_brings 39 = .ok (.iadd, 1) := by decide +kernel
theorem dX10_brings_40 : decode cX10_brings 40 = .ok (.putfield 77, 3) := by decide +kernel
theorem dX10_brings_43 : decode cX10_brings 43 = .ok (.iinc 2 (-8), 3) := by decide +kernel
theorem dX10_brings_46 : decode cX10_brings 46 = .ok (.goto (-43), 3) := by decide +kernel
theorem dX10_brings_49 : decode cX10_brings 49 = .ok (.return_, 1) := by decide +kernel
theorem dX10_feed_0 : decode cX10_feed 0 = .ok (.aload_n 0, 1) := by decide +kernel
theorem dX10_feed_1 : decode cX10_feed 1 = .ok (.iconst 0, 1) := by decide +kernel
theorem dX10_feed_2 : decode cX10_feed 2 = .ok (.putfield 73, 3) := by decide +kernel
theorem dX10_feed_5 : decode cX10_feed 5 = .ok (.aload_n 0, 1) := by decide +kernel
theorem dX10_feed_6 : decode cX10_feed 6 = .ok (.getfield 77, 3) := by decide +kernel
theorem dX10_feed_9 : decode cX10_feed 9 = .ok (.iload_n 1, 1) := by decide +kernel
theorem dX10_feed_10 : decode cX10_feed 10 = .ok (.invokestatic 80, 3) := by decide +kernel
theorem dX10_feed_13 : decode cX10_feed 13 = .ok (.iadd, 1) := by decide +kernel
theorem dX10_feed_14 : decode cX10_feed 14 = .ok (.iload_n 2, 1) := by decide +kernel
theorem dX10_feed_15 : decode cX10_feed 15 = .ok (.invokestatic 80, 3) := by decide +kernel
theorem dX10_feed_18 : decode cX10_feed 18 = .ok (.iadd, 1) := by decide +kernel
theorem dX10_feed_19 : decode cX10_feed 19 = .ok (.iload_n 3, 1) := by decide +kernel
theorem dX10_feed_20 : decode cX10_feed 20 = .ok (.invokestatic 80, 3) := by decide +kernel
theorem dX10_feed_23 : decode cX10_feed 23 = .ok (.iadd, 1) := by decide +kernel
theorem dX10_feed_24 : decode cX10_feed 24 = .ok (.iload 4, 2) := by decide +kernel
theorem dX10_feed_26 : decode cX10_feed 26 = .ok (.invokestatic 80, 3) := by decide +kernel
theorem dX10_feed_29 : decode cX10_feed 29 = .ok (.iadd, 1) := by decide +kernel
theorem dX10_feed_30 : decode cX10_feed 30 = .ok (.iload 5, 2) := by decide +kernel
theorem dX10_feed_32 : decode cX10_feed 32 = .ok (.invokestatic 80, 3) := by decide +kernel
theorem dX10_feed_35 : decode cX10_feed 35 = .ok (.iadd, 1) := by decide +kernel
theorem dX10_feed_36 : decode cX10_feed 36 = .ok (.sipush 240, 3) := by decide +kernel
theorem dX10_feed_39 : decode cX10_feed 39 = .ok (.if_icmp .le 5, 3) := by decide +kernel
theorem dX10_feed_42 : decode cX10_feed 42 = .ok (.iconst (-1), 1) := by decide +kernel
theorem dX10_feed_43 : decode cX10_feed 43 = .ok (.ireturn, 1) := by decide +kernel
theorem dX10_feed_44 : decode cX10_feed 44 = .ok (.aload_n 0, 1) := by decide +kernel
theorem dX10_feed_45 : decode cX10_feed 45 = .ok (.iload_n 1, 1) := by decide +kernel
theorem dX10_feed_46 : decode cX10_feed 46 = .ok (.invokevirtual 84, 3) := by decide +kernel
theorem dX10_feed_49 : decode cX10_feed 49 = .ok (.aload_n 0, 1) := by decide +kernel
theorem dX10_feed_50 : decode cX10_feed 50 = .ok (.iload_n 2, 1) := by decide +kernel
theorem dX10_feed_51 : decode cX10_feed 51 = .ok (.invokevirtual 84, 3) := by decide +kernel
theorem dX10_feed_54 : decode cX10_feed 54 = .ok (.aload_n 0, 1) := by decide +kernel
theorem dX10_feed_55 : decode cX10_feed 55 = .ok (.iload_n 3, 1) := by decide +kernel
theorem dX10_feed_56 : decode cX10_feed 56 = .ok (.invokevirtual 84, 3) := by decide +kernel
theorem dX10_feed_59 : decode cX10_feed 59 = .ok (.aload_n 0, 1) := by decide +kernel
theorem dX10_feed_60 : decode cX10_feed 60 = .ok (.iload 4, 2) := by decide +kernel
theorem dX10_feed_62 : decode cX10_feed 62 = .ok (.invokevirtual 84, 3) := by decide +kernel
theorem dX10_feed_65 : decode cX10_feed 65 = .ok (.aload_n 0, 1) := by decide +kernel
theorem dX10_feed_66 : decode cX10_feed 66 = .ok (.iload 5, 2) := by decide +kernel
theorem dX10_feed_68 : decode cX10_feed 68 = .ok (.invokevirtual 84, 3) := by decide +kernel
theorem dX10_feed_71 : decode cX10_feed 71 = .ok (.aload_n 0, 1) := by decide +kernel
theorem dX10_feed_72 : decode cX10_feed 72 = .ok (.getfield 77, 3) := by decide +kernel
theorem dX10_feed_75 : decode cX10_feed 75 = .ok (.ireturn, 1) := by decide +kernel
theorem dX10_end_0 : decode cX10_end 0 = .ok (.aload_n 0, 1) := by decide +kernel
theorem dX10_end_1 : decode cX10_end 1 = .ok (.iconst 0, 1) := by decide +kernel
theorem dX10_end_2 : decode cX10_end 2 = .ok (.putfield 73, 3) := by decide +kernel
theorem dX10_end_5 : decode cX10_end 5 = .ok (.iload_n 1, 1) := by decide +kernel
theorem dX10_end_6 : decode cX10_end 6 = .ok (.ifCond .lt 11, 3) := by decide +kernel
theorem dX10_end_9 : decode cX10_end 9 = .ok (.iload_n 1, 1) := by decide +kernel
theorem dX10_end_10 : decode cX10_end 10 = .ok (.aload_n 0, 1) := by decide +kernel
theorem dX10_end_11 : decode cX10_end 11 = .ok (.getfield 77, 3) := by decide +kernel
theorem dX10_end_14 : decode cX10_end 14 = .ok (.if_icmp .le 5, 3) := by decide +kernel
theorem dX10_end_17 : decode cX10_end 17 = .ok (.iconst 0, 1) := by decide +kernel
theorem dX10_end_18 : decode cX10_end 18 = .ok (.ireturn, 1) := by decide +kernel
theorem dX10_end_19 : decode cX10_end 19 = .ok (.aload_n 0, 1) := by decide +kernel
theorem dX10_end_20 : decode cX10_end 20 = .ok (.iload_n 1, 1) := by decide +kernel
theorem dX10_end_21 : decode cX10_end 21 = .ok (.putfield 77, 3) := by decide +kernel
theorem dX10_end_24 : decode cX10_end 24 = .ok (.iconst 1, 1) := by decide +kernel
theorem dX10_end_25 : decode cX10_end 25 = .ok (.ireturn, 1) := by decide +kernel
theorem dX10_here_0 : decode cX10_here 0 = .ok (.aload_n 0, 1) := by decide +kernel
theorem dX10_here_1 : decode cX10_here 1 = .ok (.getfield 88, 3) := by decide +kernel
theorem dX10_here_4 : decode cX10_here 4 = .ok (.aload_n 0, 1) := by decide +kernel
theorem dX10_here_5 : decode cX10_here 5 = .ok (.getfield 77, 3) := by decide +kernel
theorem dX10_here_8 : decode cX10_here 8 = .ok (.if_icmp .ge 19, 3) := by decide +kernel
theorem dX10_here_11 : decode cX10_here 11 = .ok (.aload_n 0, 1) := by decide +kernel
theorem dX10_here_12 : decode cX10_here 12 = .ok (.getfield 9, 3) := by decide +kernel
theorem dX10_here_15 : decode cX10_here 15 = .ok (.aload_n 0, 1) := by decide +kernel
theorem dX10_here_16 : decode cX10_here 16 = .ok (.getfield 88, 3) := by decide +kernel
theorem dX10_here_19 : decode cX10_here 19 = .ok (.baload, 1) := by decide +kernel
theorem dX10_here_20 : decode cX10_here 20 = .ok (.sipush 255, 3) := by decide +kernel
theorem dX10_here_23 : decode cX10_here 23 = .ok (.iand, 1) := by decide +kernel
theorem dX10_here_24 : decode cX10_here 24 = .ok (.goto 4, 3) := by decide +kernel
theorem dX10_here_27 : decode cX10_here 27 = .ok (.iconst (-1), 1) := by decide +kernel
theorem dX10_here_28 : decode cX10_here 28 = .ok (.ireturn, 1) := by decide +kernel
theorem dX10_look_0 : decode cX10_look 0 = .ok (.aload_n 0, 1) := by decide +kernel
theorem dX10_look_1 : decode cX10_look 1 = .ok (.invokevirtual 91, 3) := by decide +kernel
theorem dX10_look_4 : decode cX10_look 4 = .ok (.bipush 32, 2) := by decide +kernel
theorem dX10_look_6 : decode cX10_look 6 = .ok (.if_icmp .ne 16, 3) := by decide +kernel
theorem dX10_look_9 : decode cX10_look 9 = .ok (.aload_n 0, 1) := by decide +kernel
theorem dX10_look_10 : decode cX10_look 10 = .ok (.dup, 1) := by decide +kernel
theorem dX10_look_11 : decode cX10_look 11 = .ok (.getfield 88, 3) := by decide +kernel
theorem dX10_look_14 : decode cX10_look 14 = .ok (.iconst 1, 1) := by decide +kernel
theorem dX10_look_15 : decode cX10_look 15 = .ok (.iadd, 1) := by decide +kernel
theorem dX10_look_16 : decode cX10_look 16 = .ok (.putfield 88, 3) := by decide +kernel
theorem dX10_look_19 : decode cX10_look 19 = .ok (.goto (-19), 3) := by decide +kernel
theorem dX10_look_22 : decode cX10_look 22 = .ok (.aload_n 0, 1) := by decide +kernel
theorem dX10_look_23 : decode cX10_look 23 = .ok (.invokevirtual 91, 3) := by decide +kernel
theorem dX10_look_26 : decode cX10_look 26 = .ok (.ireturn, 1) := by decide +kernel
theorem dX10_fails_0 : decode cX10_fails 0 = .ok (.aload_n 0, 1) := by decide +kernel
theorem dX10_fails_1 : decode cX10_fails 1 = .ok (.getfield 95, 3) := by decide +kernel
theorem dX10_fails_4 : decode cX10_fails 4 = .ok (.iconst (-1), 1) := by decide +kernel
theorem dX10_fails_5 : decode cX10_fails 5 = .ok (.if_icmp .ne 11, 3) := by decide +kernel
theorem dX10_fails_8 : decode cX10_fails 8 = .ok (.aload_n 0, 1) := by decide +kernel
theorem dX10_fails_9 : decode cX10_fails 9 = .ok (.aload_n 0, 1) := by decide +kernel
theorem dX10_fails_10 : decode cX10_fails 10 = .ok (.getfield 88, 3) := by decide +kernel
theorem dX10_fails_13 : decode cX10_fails 13 = .ok (.putfield 95, 3) := by decide +kernel
theorem dX10_fails_16 : decode cX10_fails 16 = .ok (.return_, 1) := by decide +kernel
theorem dX10_isDigit_0 : decode cX10_isDigit 0 = .ok (.aload_n 0, 1) := by decide +kernel
theorem dX10_isDigit_1 : decode cX10_isDigit 1 = .ok (.invokevirtual 91, 3) := by decide +kernel
theorem dX10_isDigit_4 : decode cX10_isDigit 4 = .ok (.bipush 48, 2) := by decide +kernel
theorem dX10_isDigit_6 : decode cX10_isDigit 6 = .ok (.if_icmp .lt 16, 3) := by decide +kernel
theorem dX10_isDigit_9 : decode cX10_isDigit 9 = .ok (.aload_n 0, 1) := by decide +kernel
theorem dX10_isDigit_10 : decode cX10_isDigit 10 = .ok (.invokevirtual 91, 3) := by decide +kernel
theorem dX10_isDigit_13 : decode cX10_isDigit 13 = .ok (.bipush 57, 2) := by decide +kernel
theorem dX10_isDigit_15 : decode cX10_isDigit 15 = .ok (.if_icmp .gt 7, 3) := by decide +kernel
theorem dX10_isDigit_18 : decode cX10_isDigit 18 = .ok (.iconst 1, 1) := by decide +kernel
theorem dX10_isDigit_19 : decode cX10_isDigit 19 = .ok (.goto 4, 3) := by decide +kernel
theorem dX10_isDigit_22 : decode cX10_isDigit 22 = .ok (.iconst 0, 1) := by decide +kernel
theorem dX10_isDigit_23 : decode cX10_isDigit 23 = .ok (.ireturn, 1) := by decide +kernel
theorem dX10_digit_0 : decode cX10_digit 0 = .ok (.aload_n 0, 1) := by decide +kernel
theorem dX10_digit_1 : decode cX10_digit 1 = .ok (.invokevirtual 98, 3) := by decide +kernel
theorem dX10_digit_4 : decode cX10_digit 4 = .ok (.istore_n 1, 1) := by decide +kernel
theorem dX10_digit_5 : decode cX10_digit 5 = .ok (.aload_n 0, 1) := by decide +kernel
theorem dX10_digit_6 : decode cX10_digit 6 = .ok (.getfield 95, 3) := by decide +kernel
theorem dX10_digit_9 : decode cX10_digit 9 = .ok (.iconst (-1), 1) := by decide +kernel
theorem dX10_digit_10 : decode cX10_digit 10 = .ok (.if_icmp .ne 10, 3) := by decide +kernel
theorem dX10_digit_13 : decode cX10_digit 13 = .ok (.aload_n 0, 1) := by decide +kernel
theorem dX10_digit_14 : decode cX10_digit 14 = .ok (.invokevirtual 101, 3) := by decide +kernel
theorem dX10_digit_17 : decode cX10_digit 17 = .ok (.ifCond .ne 9, 3) := by decide +kernel
theorem dX10_digit_20 : decode cX10_digit 20 = .ok (.aload_n 0, 1) := by decide +kernel
theorem dX10_digit_21 : decode cX10_digit 21 = .ok (.invokevirtual 105, 3) := by decide +kernel
theorem dX10_digit_24 : decode cX10_digit 24 = .ok (.iconst 0, 1) := by decide +kernel
theorem dX10_digit_25 : decode cX10_digit 25 = .ok (.ireturn, 1) := by decide +kernel
theorem dX10_digit_26 : decode cX10_digit 26 = .ok (.aload_n 0, 1) := by decide +kernel
theorem dX10_digit_27 : decode cX10_digit 27 = .ok (.dup, 1) := by decide +kernel
theorem dX10_digit_28 : decode cX10_digit 28 = .ok (.getfield 88, 3) := by decide +kernel
theorem dX10_digit_31 : decode cX10_digit 31 = .ok (.iconst 1, 1) := by decide +kernel
theorem dX10_digit_32 : decode cX10_digit 32 = .ok (.iadd, 1) := by decide +kernel
theorem dX10_digit_33 : decode cX10_digit 33 = .ok (.putfield 88, 3) := by decide +kernel
theorem dX10_digit_36 : decode cX10_digit 36 = .ok (.iload_n 1, 1) := by decide +kernel
theorem dX10_digit_37 : decode cX10_digit 37 = .ok (.bipush 48, 2) := by decide +kernel
theorem dX10_digit_39 : decode cX10_digit 39 = .ok (.isub, 1) := by decide +kernel
theorem dX10_digit_40 : decode cX10_digit 40 = .ok (.ireturn, 1) := by decide +kernel
theorem dX10_number_0 : decode cX10_number 0 = .ok (.aload_n 0, 1) := by decide +kernel
theorem dX10_number_1 : decode cX10_number 1 = .ok (.invokevirtual 108, 3) := by decide +kernel
theorem dX10_number_4 : decode cX10_number 4 = .ok (.istore_n 1, 1) := by decide +kernel
theorem dX10_number_5 : decode cX10_number 5 = .ok (.iconst 1, 1) := by decide +kernel
theorem dX10_number_6 : decode cX10_number 6 = .ok (.istore_n 2, 1) := by decide +kernel
theorem dX10_number_7 : decode cX10_number 7 = .ok (.iload_n 2, 1) := by decide +kernel
theorem dX10_number_8 : decode cX10_number 8 = .ok (.iconst 3, 1) := by decide +kernel
theorem dX10_number_9 : decode cX10_number 9 = .ok (.if_icmp .ge 34, 3) := by decide +kernel
theorem dX10_number_12 : decode cX10_number 12 = .ok (.aload_n 0, 1) := by decide +kernel
theorem dX10_number_13 : decode cX10_number 13 = .ok (.getfield 95, 3) := by decide +kernel
theorem dX10_number_16 : decode cX10_number 16 = .ok (.iconst (-1), 1) := by decide +kernel
theorem dX10_number_17 : decode cX10_number 17 = .ok (.if_icmp .ne 26, 3) := by decide +kernel
theorem dX10_number_20 : decode cX10_number 20 = .ok (.aload_n 0, 1) := by decide +kernel
theorem dX10_number_21 : decode cX10_number 21 = .ok (.invokevirtual 101, 3) := by decide +kernel
theorem dX10_number_24 : decode cX10_number 24 = .ok (.ifCond .eq 19, 3) := by decide +kernel
theorem dX10_number_27 : decode cX10_number 27 = .ok (.bipush 10, 2) := by decide +kernel
theorem dX10_number_29 : decode cX10_number 29 = .ok (.iload_n 1, 1) := by decide +kernel
theorem dX10_number_30 : decode cX10_number 30 = .ok (.imul, 1) := by decide +kernel
theorem dX10_number_31 : decode cX10_number 31 = .ok (.aload_n 0, 1) := by decide +kernel
theorem dX10_number_32 : decode cX10_number 32 = .ok (.invokevirtual 108, 3) := by decide +kernel
theorem dX10_number_35 : decode cX10_number 35 = .ok (.iadd, 1) := by decide +kernel
theorem dX10_number_36 : decode cX10_number 36 = .ok (.istore_n 1, 1) := by decide +kernel
theorem dX10_number_37 : decode cX10_number 37 = .ok (.iinc 2 1, 3) := by decide +kernel
theorem dX10_number_40 : decode cX10_number 40 = .ok (.goto (-33), 3) := by decide +kernel
theorem dX10_number_43 : decode cX10_number 43 = .ok (.aload_n 0, 1) := by decide +kernel
theorem dX10_number_44 : decode cX10_number 44 = .ok (.getfield 95, 3) := by decide +kernel
theorem dX10_number_47 : decode cX10_number 47 = .ok (.iconst (-1), 1) := by decide +kernel
theorem dX10_number_48 : decode cX10_number 48 = .ok (.if_icmp .ne 14, 3) := by decide +kernel
theorem dX10_number_51 : decode cX10_number 51 = .ok (.aload_n 0, 1) := by decide +kernel
theorem dX10_number_52 : decode cX10_number 52 = .ok (.invokevirtual 101, 3) := by decide +kernel
theorem dX10_number_55 : decode cX10_number 55 = .ok (.ifCond .eq 7, 3) := by decide +kernel
theorem dX10_number_58 : decode cX10_number 58 = .ok (.aload_n 0, 1) := by decide +kernel
theorem dX10_number_59 : decode cX10_number 59 = .ok (.invokevirtual 105, 3) := by decide +kernel
theorem dX10_number_62 : decode cX10_number 62 = .ok (.iload_n 1, 1) := by decide +kernel
theorem dX10_number_63 : decode cX10_number 63 = .ok (.ireturn, 1) := by decide +kernel
theorem dX10_spotOf_0 : decode cX10_spotOf 0 = .ok (.iconst 0, 1) := by decide +kernel
theorem dX10_spotOf_1 : decode cX10_spotOf 1 = .ok (.istore_n 2, 1) := by decide +kernel
theorem dX10_spotOf_2 : decode cX10_spotOf 2 = .ok (.iload_n 2, 1) := by decide +kernel
theorem dX10_spotOf_3 : decode cX10_spotOf 3 = .ok (.aload_n 0, 1) := by decide +kernel
theorem dX10_spotOf_4 : decode cX10_spotOf 4 = .ok (.invokevirtual 111, 3) := by decide +kernel
theorem dX10_spotOf_7 : decode cX10_spotOf 7 = .ok (.if_icmp .ge 20, 3) := by decide +kernel
theorem dX10_spotOf_10 : decode cX10_spotOf 10 = .ok (.aload_n 0, 1) := by decide +kernel
theorem dX10_spotOf_11 : decode cX10_spotOf 11 = .ok (.iload_n 2, 1) := by decide +kernel
theorem dX10_spotOf_12 : decode cX10_spotOf 12 = .ok (.invokevirtual 115, 3) := by decide +kernel
theorem dX10_spotOf_15 : decode cX10_spotOf 15 = .ok (.iload_n 1, 1) := by decide +kernel
theorem dX10_spotOf_16 : decode cX10_spotOf 16 = .ok (.if_icmp .ne 5, 3) := by decide +kernel
theorem dX10_spotOf_19 : decode cX10_spotOf 19 = .ok (.iload_n 2, 1) := by decide +kernel
theorem dX10_spotOf_20 : decode cX10_spotOf 20 = .ok (.ireturn, 1) := by decide +kernel
theorem dX10_spotOf_21 : decode cX10_spotOf 21 = .ok (.iinc 2 1, 3) := by decide +kernel
theorem dX10_spotOf_24 : decode cX10_spotOf 24 = .ok (.goto (-22), 3) := by decide +kernel
theorem dX10_spotOf_27 : decode cX10_spotOf 27 = .ok (.iconst (-1), 1) := by decide +kernel
theorem dX10_spotOf_28 : decode cX10_spotOf 28 = .ok (.ireturn, 1) := by decide +kernel
theorem dX10_leastOf_0 : decode cX10_leastOf 0 = .ok (.iload_n 0, 1) := by decide +kernel
theorem dX10_leastOf_1 : decode cX10_leastOf 1 = .ok (.ifCond .ne 8, 3) := by decide +kernel
theorem dX10_leastOf_4 : decode cX10_leastOf 4 = .ok (.bipush 8, 2) := by decide +kernel
theorem dX10_leastOf_6 : decode cX10_leastOf 6 = .ok (.goto 23, 3) := by decide +kernel
theorem dX10_leastOf_9 : decode cX10_leastOf 9 = .ok (.iload_n 0, 1) := by decide +kernel
theorem dX10_leastOf_10 : decode cX10_leastOf 10 = .ok (.iconst 1, 1) := by decide +kernel
theorem dX10_leastOf_11 : decode cX10_leastOf 11 = .ok (.if_icmp .ne 7, 3) := by decide +kernel
theorem dX10_leastOf_14 : decode cX10_leastOf 14 = .ok (.iconst 4, 1) := by decide +kernel
theorem dX10_leastOf_15 : decode cX10_leastOf 15 = .ok (.goto 14, 3) := by decide +kernel
theorem dX10_leastOf_18 : decode cX10_leastOf 18 = .ok (.iload_n 0, 1) := by decide +kernel
theorem dX10_leastOf_19 : decode cX10_leastOf 19 = .ok (.iconst 2, 1) := by decide +kernel
theorem dX10_leastOf_20 : decode cX10_leastOf 20 = .ok (.if_icmp .ne 8, 3) := by decide +kernel
theorem dX10_leastOf_23 : decode cX10_leastOf 23 = .ok (.bipush 16, 2) := by decide +kernel
theorem dX10_leastOf_25 : decode cX10_leastOf 25 = .ok (.goto 4, 3) := by decide +kernel
theorem dX10_leastOf_28 : decode cX10_leastOf 28 = .ok (.iconst 1, 1) := by decide +kernel
theorem dX10_leastOf_29 : decode cX10_leastOf 29 = .ok (.ireturn, 1) := by decide +kernel
theorem dX10_mostOf_0 : decode cX10_mostOf 0 = .ok (.iload_n 0, 1) := by decide +kernel
theorem dX10_mostOf_1 : decode cX10_mostOf 1 = .ok (.ifCond .ne 8, 3) := by decide +kernel
theorem dX10_mostOf_4 : decode cX10_mostOf 4 = .ok (.bipush 64, 2) := by decide +kernel
theorem dX10_mostOf_6 : decode cX10_mostOf 6 = .ok (.goto 25, 3) := by decide +kernel
theorem dX10_mostOf_9 : decode cX10_mostOf 9 = .ok (.iload_n 0, 1) := by decide +kernel
theorem dX10_mostOf_10 : decode cX10_mostOf 10 = .ok (.iconst 1, 1) := by decide +kernel
theorem dX10_mostOf_11 : decode cX10_mostOf 11 = .ok (.if_icmp .ne 8, 3) := by decide +kernel
theorem dX10_mostOf_14 : decode cX10_mostOf 14 = .ok (.bipush 32, 2) := by decide +kernel
theorem dX10_mostOf_16 : decode cX10_mostOf 16 = .ok (.goto 15, 3) := by decide +kernel
theorem dX10_mostOf_19 : decode cX10_mostOf 19 = .ok (.iload_n 0, 1) := by decide +kernel
theorem dX10_mostOf_20 : decode cX10_mostOf 20 = .ok (.iconst 2, 1) := by decide +kernel
theorem dX10_mostOf_21 : decode cX10_mostOf 21 = .ok (.if_icmp .ne 9, 3) := by decide +kernel
theorem dX10_mostOf_24 : decode cX10_mostOf 24 = .ok (.sipush 128, 3) := by decide +kernel
theorem dX10_mostOf_27 : decode cX10_mostOf 27 = .ok (.goto 4, 3) := by decide +kernel
theorem dX10_mostOf_30 : decode cX10_mostOf 30 = .ok (.iconst 5, 1) := by decide +kernel
theorem dX10_mostOf_31 : decode cX10_mostOf 31 = .ok (.ireturn, 1) := by decide +kernel
theorem dX10_readHeap_0 : decode cX10_readHeap 0 = .ok (.aload_n 0, 1) := by decide +kernel
theorem dX10_readHeap_1 : decode cX10_readHeap 1 = .ok (.getfield 13, 3) := by decide +kernel
theorem dX10_readHeap_4 : decode cX10_readHeap 4 = .ok (.iconst 0, 1) := by decide +kernel
theorem dX10_readHeap_5 : decode cX10_readHeap 5 = .ok (.bipush 24, 2) := by decide +kernel
theorem dX10_readHeap_7 : decode cX10_readHeap 7 = .ok (.iastore, 1) := by decide +kernel
theorem dX10_readHeap_8 : decode cX10_readHeap 8 = .ok (.aload_n 0, 1) := by decide +kernel
theorem dX10_readHeap_9 : decode cX10_readHeap 9 = .ok (.getfield 13, 3) := by decide +kernel
theorem dX10_readHeap_12 : decode cX10_readHeap 12 = .ok (.iconst 1, 1) := by decide +kernel
theorem dX10_readHeap_13 : decode cX10_readHeap 13 = .ok (.bipush 8, 2) := by decide +kernel
theorem dX10_readHeap_15 : decode cX10_readHeap 15 = .ok (.iastore, 1) := by decide +kernel
theorem dX10_readHeap_16 : decode cX10_readHeap 16 = .ok (.aload_n 0, 1) := by decide +kernel
theorem dX10_readHeap_17 : decode cX10_readHeap 17 = .ok (.getfield 13, 3) := by decide +kernel
theorem dX10_readHeap_20 : decode cX10_readHeap 20 = .ok (.iconst 2, 1) := by decide +kernel
theorem dX10_readHeap_21 : decode cX10_readHeap 21 = .ok (.bipush 48, 2) := by decide +kernel
theorem dX10_readHeap_23 : decode cX10_readHeap 23 = .ok (.iastore, 1) := by decide +kernel
theorem dX10_readHeap_24 : decode cX10_readHeap 24 = .ok (.aload_n 0, 1) := by decide +kernel
theorem dX10_readHeap_25 : decode cX10_readHeap 25 = .ok (.getfield 13, 3) := by decide +kernel
theorem dX10_readHeap_28 : decode cX10_readHeap 28 = .ok (.iconst 3, 1) := by decide +kernel
theorem dX10_readHeap_29 : decode cX10_readHeap 29 = .ok (.iconst 2, 1) := by decide +kernel
theorem dX10_readHeap_30 : decode cX10_readHeap 30 = .ok (.iastore, 1) := by decide +kernel
theorem dX10_readHeap_31 : decode cX10_readHeap 31 = .ok (.aload_n 0, 1) := by decide +kernel
theorem dX10_readHeap_32 : decode cX10_readHeap 32 = .ok (.invokevirtual 98, 3) := by decide +kernel
theorem dX10_readHeap_35 : decode cX10_readHeap 35 = .ok (.bipush 104, 2) := by decide +kernel
theorem dX10_readHeap_37 : decode cX10_readHeap 37 = .ok (.if_icmp .eq 8, 3) := by decide +kernel
theorem dX10_readHeap_40 : decode cX10_readHeap 40 = .ok (.aload_n 0, 1) := by decide +kernel
theorem dX10_readHeap_41 : decode cX10_readHeap 41 = .ok (.invokevirtual 105, 3) := by decide +kernel
theorem dX10_readHeap_44 : decode cX10_readHeap 44 = .ok (.return_, 1) := by decide +kernel
theorem dX10_readHeap_45 : decode cX10_readHeap 45 = .ok (.aload_n 0, 1) := by decide +kernel
theorem dX10_readHeap_46 : decode cX10_readHeap 46 = .ok (.dup, 1) := by decide +kernel
theorem dX10_readHeap_47 : decode cX10_readHeap 47 = .ok (.getfield 88, 3) := by decide +kernel
theorem dX10_readHeap_50 : decode cX10_readHeap 50 = .ok (.iconst 1, 1) := by decide +kernel
theorem dX10_readHeap_51 : decode cX10_readHeap 51 = .ok (.iadd, 1) := by decide +kernel
theorem dX10_readHeap_52 : decode cX10_readHeap 52 = .ok (.putfield 88, 3) := by decide +kernel
theorem dX10_readHeap_55 : decode cX10_readHeap 55 = .ok (.iconst 0, 1) := by decide +kernel
theorem dX10_readHeap_56 : decode cX10_readHeap 56 = .ok (.istore_n 1, 1) := by decide +kernel
theorem dX10_readHeap_57 : decode cX10_readHeap 57 = .ok (.ldc 119, 2) := by decide +kernel
theorem dX10_readHeap_59 : decode cX10_readHeap 59 = .ok (.aload_n 0, 1) := by decide +kernel
theorem dX10_readHeap_60 : decode cX10_readHeap 60 = .ok (.invokevirtual 98, 3) := by decide +kernel
theorem dX10_readHeap_63 : decode cX10_readHeap 63 = .ok (.invokestatic 121, 3) := by decide +kernel
theorem dX10_readHeap_66 : decode cX10_readHeap 66 = .ok (.istore_n 2, 1) := by decide +kernel
theorem dX10_readHeap_67 : decode cX10_readHeap 67 = .ok (.iload_n 2, 1) := by decide +kernel
theorem dX10_readHeap_68 : decode cX10_readHeap 68 = .ok (.iconst (-1), 1) := by decide +kernel
theorem dX10_readHeap_69 : decode cX10_readHeap 69 = .ok (.if_icmp .eq 103, 3) := by decide +kernel
theorem dX10_readHeap_72 : decode cX10_readHeap 72 = .ok (.iload_n 1, 1) := by decide +kernel
theorem dX10_readHeap_73 : decode cX10_readHeap 73 = .ok (.iload_n 2, 1) := by decide +kernel
theorem dX10_readHeap_74 : decode cX10_readHeap 74 = .ok (.ishr, 1) := by decide +kernel
theorem dX10_readHeap_75 : decode cX10_readHeap 75 = .ok (.iconst 1, 1) := by decide +kernel
theorem dX10_readHeap_76 : decode cX10_readHeap 76 = .ok (.iand, 1) := by decide +kernel
theorem dX10_readHeap_77 : decode cX10_readHeap 77 = .ok (.iconst 1, 1) := by decide +kernel
theorem dX10_readHeap_78 : decode cX10_readHeap 78 = .ok (.if_icmp .ne 8, 3) := by decide +kernel
theorem dX10_readHeap_81 : decode cX10_readHeap 81 = .ok (.aload_n 0, 1) := by decide +kernel
theorem dX10_readHeap_82 : decode cX10_readHeap 82 = .ok (.invokevirtual 105, 3) := by decide +kernel
theorem dX10_readHeap_85 : decode cX10_readHeap 85 = .ok (.return_, 1) := by decide +kernel
theorem dX10_readHeap_86 : decode cX10_readHeap 86 = .ok (.iload_n 1, 1) := by decide +kernel
theorem dX10_readHeap_87 : decode cX10_readHeap 87 = .ok (.iconst 1, 1) := by decide +kernel
theorem dX10_readHeap_88 : decode cX10_readHeap 88 = .ok (.iload_n 2, 1) := by decide +kernel
theorem dX10_readHeap_89 : decode cX10_readHeap 89 = .ok (.ishl, 1) := by decide +kernel
theorem dX10_readHeap_90 : decode cX10_readHeap 90 = .ok (.ior, 1) := by decide +kernel
theorem dX10_readHeap_91 : decode cX10_readHeap 91 = .ok (.istore_n 1, 1) := by decide +kernel
theorem dX10_readHeap_92 : decode cX10_readHeap 92 = .ok (.aload_n 0, 1) := by decide +kernel
theorem dX10_readHeap_93 : decode cX10_readHeap 93 = .ok (.dup, 1) := by decide +kernel
theorem dX10_readHeap_94 : decode cX10_readHeap 94 = .ok (.getfield 88, 3) := by decide +kernel
theorem dX10_readHeap_97 : decode cX10_readHeap 97 = .ok (.iconst 1, 1) := by decide +kernel
theorem dX10_readHeap_98 : decode cX10_readHeap 98 = .ok (.iadd, 1) := by decide +kernel
theorem dX10_readHeap_99 : decode cX10_readHeap 99 = .ok (.putfield 88, 3) := by decide +kernel
theorem dX10_readHeap_102 : decode cX10_readHeap 102 = .ok (.aload_n 0, 1) := by decide +kernel
theorem dX10_readHeap_103 : decode cX10_readHeap 103 = .ok (.getfield 13, 3) := by decide +kernel
theorem dX10_readHeap_106 : decode cX10_readHeap 106 = .ok (.iload_n 2, 1) := by decide +kernel
theorem dX10_readHeap_107 : decode cX10_readHeap 107 = .ok (.aload_n 0, 1) := by decide +kernel
theorem dX10_readHeap_108 : decode cX10_readHeap 108 = .ok (.invokevirtual 125, 3) := by decide +kernel
theorem dX10_readHeap_111 : decode cX10_readHeap 111 = .ok (.iastore, 1) := by decide +kernel
theorem dX10_readHeap_112 : decode cX10_readHeap 112 = .ok (.aload_n 0, 1) := by decide +kernel
theorem dX10_readHeap_113 : decode cX10_readHeap 113 = .ok (.getfield 95, 3) := by decide +kernel
theorem dX10_readHeap_116 : decode cX10_readHeap 116 = .ok (.iconst (-1), 1) := by decide +kernel
theorem dX10_readHeap_117 : decode cX10_readHeap 117 = .ok (.if_icmp .eq 4, 3) := by decide +kernel
theorem dX10_readHeap_120 : decode cX10_readHeap 120 = .ok (.return_, 1) := by decide +kernel
theorem dX10_readHeap_121 : decode cX10_readHeap 121 = .ok (.aload_n 0, 1) := by decide +kernel
theorem dX10_readHeap_122 : decode cX10_readHeap 122 = .ok (.getfield 13, 3) := by decide +kernel
theorem dX10_readHeap_125 : decode cX10_readHeap 125 = .ok (.iload_n 2, 1) := by decide +kernel
theorem dX10_readHeap_126 : decode cX10_readHeap 126 = .ok (.iaload, 1) := by decide +kernel
theorem dX10_readHeap_127 : decode cX10_readHeap 127 = .ok (.i2l, 1) := by decide +kernel
theorem dX10_readHeap_128 : decode cX10_readHeap 128 = .ok (.iload_n 2, 1) := by decide +kernel
theorem dX10_readHeap_129 : decode cX10_readHeap 129 = .ok (.invokestatic 128, 3) := by decide +kernel
theorem dX10_readHeap_132 : decode cX10_readHeap 132 = .ok (.i2l, 1) := by decide +kernel
theorem dX10_readHeap_133 : decode cX10_readHeap 133 = .ok (.iload_n 2, 1) := by decide +kernel
theorem dX10_readHeap_134 : decode cX10_readHeap 134 = .ok (.invokestatic 131, 3) := by decide +kernel
theorem dX10_readHeap_137 : decode cX10_readHeap 137 = .ok (.i2l, 1) := by decide +kernel
theorem dX10_readHeap_138 : decode cX10_readHeap 138 = .ok (.invokestatic 134, 3) := by decide +kernel
theorem dX10_readHeap_141 : decode cX10_readHeap 141 = .ok (.ifCond .ne 18, 3) := by decide +kernel
theorem dX10_readHeap_144 : decode cX10_readHeap 144 = .ok (.aload_n 0, 1) := by decide +kernel
theorem dX10_readHeap_145 : decode cX10_readHeap 145 = .ok (.dup, 1) := by decide +kernel
theorem dX10_readHeap_146 : decode cX10_readHeap 146 = .ok (.getfield 88, 3) := by decide +kernel
theorem dX10_readHeap_149 : decode cX10_readHeap 149 = .ok (.iconst 1, 1) := by decide +kernel
theorem dX10_readHeap_150 : decode cX10_readHeap 150 = .ok (.isub, 1) := by decide +kernel
theorem dX10_readHeap_151 : decode cX10_readHeap 151 = .ok (.putfield 88, 3) := by decide +kernel
theorem dX10_readHeap_154 : decode cX10_readHeap 154 = .ok (.aload_n 0, 1) := by decide +kernel
theorem dX10_readHeap_155 : decode cX10_readHeap 155 = .ok (.invokevirtual 105, 3) := by decide +kernel
theorem dX10_readHeap_158 : decode cX10_readHeap 158 = .ok (.return_, 1) := by decide +kernel
theorem dX10_readHeap_159 : decode cX10_readHeap 159 = .ok (.ldc 119, 2) := by decide +kernel
theorem dX10_readHeap_161 : decode cX10_readHeap 161 = .ok (.aload_n 0, 1) := by decide +kernel
theorem dX10_readHeap_162 : decode cX10_readHeap 162 = .ok (.invokevirtual 98, 3) := by decide +kernel
theorem dX10_readHeap_165 : decode cX10_readHeap 165 = .ok (.invokestatic 121, 3) := by decide +kernel
theorem dX10_readHeap_168 : decode cX10_readHeap 168 = .ok (.istore_n 2, 1) := by decide +kernel
theorem dX10_readHeap_169 : decode cX10_readHeap 169 = .ok (.goto (-102), 3) := by decide +kernel
theorem dX10_readHeap_172 : decode cX10_readHeap 172 = .ok (.aload_n 0, 1) := by decide +kernel
theorem dX10_readHeap_173 : decode cX10_readHeap 173 = .ok (.invokevirtual 98, 3) := by decide +kernel
theorem dX10_readHeap_176 : decode cX10_readHeap 176 = .ok (.iconst (-1), 1) := by decide +kernel
theorem dX10_readHeap_177 : decode cX10_readHeap 177 = .ok (.if_icmp .eq 7, 3) := by decide +kernel
theorem dX10_readHeap_180 : decode cX10_readHeap 180 = .ok (.aload_n 0, 1) := by decide +kernel
theorem dX10_readHeap_181 : decode cX10_readHeap 181 = .ok (.invokevirtual 105, 3) := by decide +kernel
theorem dX10_readHeap_184 : decode cX10_readHeap 184 = .ok (.return_, 1) := by decide +kernel
theorem dX10_numbersOf_0 : decode cX10_numbersOf 0 = .ok (.iload_n 0, 1) := by decide +kernel
theorem dX10_numbersOf_1 : decode cX10_numbersOf 1 = .ok (.tableswitch 45 0 5 #[39, 41, 41, 45, 43, 43], 39) := by decide +kernel
theorem dX10_numbersOf_40 : decode cX10_numbersOf 40 = .ok (.iconst 4, 1) := by decide +kernel
theorem dX10_numbersOf_41 : decode cX10_numbersOf 41 = .ok (.ireturn, 1) := by decide +kernel
theorem dX10_numbersOf_42 : decode cX10_numbersOf 42 = .ok (.iconst 3, 1) := by decide +kernel
theorem dX10_numbersOf_43 : decode cX10_numbersOf 43 = .ok (.ireturn, 1) := by decide +kernel
theorem dX10_numbersOf_44 : decode cX10_numbersOf 44 = .ok (.iconst 0, 1) := by decide +kernel
theorem dX10_numbersOf_45 : decode cX10_numbersOf 45 = .ok (.ireturn, 1) := by decide +kernel
theorem dX10_numbersOf_46 : decode cX10_numbersOf 46 = .ok (.iconst 1, 1) := by decide +kernel
theorem dX10_numbersOf_47 : decode cX10_numbersOf 47 = .ok (.ireturn, 1) := by decide +kernel
theorem dX10_readStep_0 : decode cX10_readStep 0 = .ok (.iconst 5, 1) := by decide +kernel
theorem dX10_readStep_1 : decode cX10_readStep 1 = .ok (.bipush 64, 2) := by decide +kernel
theorem dX10_readStep_3 : decode cX10_readStep 3 = .ok (.iload_n 1, 1) := by decide +kernel
theorem dX10_readStep_4 : decode cX10_readStep 4 = .ok (.iadd, 1) := by decide +kernel
theorem dX10_readStep_5 : decode cX10_readStep 5 = .ok (.imul, 1) := by decide +kernel
theorem dX10_readStep_6 : decode cX10_readStep 6 = .ok (.istore_n 2, 1) := by decide +kernel
theorem dX10_readStep_7 : decode cX10_readStep 7 = .ok (.ldc 138, 2) := by decide +kernel
theorem dX10_readStep_9 : decode cX10_readStep 9 = .ok (.aload_n 0, 1) := by decide +kernel
theorem dX10_readStep_10 : decode cX10_readStep 10 = .ok (.invokevirtual 98, 3) := by decide +kernel
theorem dX10_readStep_13 : decode cX10_readStep 13 = .ok (.invokestatic 121, 3) := by decide +kernel
theorem dX10_readStep_16 : decode cX10_readStep 16 = .ok (.istore_n 3, 1) := by decide +kernel
theorem dX10_readStep_17 : decode cX10_readStep 17 = .ok (.iload_n 3, 1) := by decide +kernel
theorem dX10_readStep_18 : decode cX10_readStep 18 = .ok (.iconst (-1), 1) := by decide +kernel
theorem dX10_readStep_19 : decode cX10_readStep 19 = .ok (.if_icmp .ne 8, 3) := by decide +kernel
theorem dX10_readStep_22 : decode cX10_readStep 22 = .ok (.aload_n 0, 1) := by decide +kernel
theorem dX10_readStep_23 : decode cX10_readStep 23 = .ok (.invokevirtual 105, 3) := by decide +kernel
theorem dX10_readStep_26 : decode cX10_readStep 26 = .ok (.return_, 1) := by decide +kernel
theorem dX10_readStep_27 : decode cX10_readStep 27 = .ok (.aload_n 0, 1) := by decide +kernel
theorem dX10_readStep_28 : decode cX10_readStep 28 = .ok (.dup, 1) := by decide +kernel
theorem dX10_readStep_29 : decode cX10_readStep 29 = .ok (.getfield 88, 3) := by decide +kernel
theorem dX10_readStep_32 : decode cX10_readStep 32 = .ok (.iconst 1, 1) := by decide +kernel
theorem dX10_readStep_33 : decode cX10_readStep 33 = .ok (.iadd, 1) := by decide +kernel
theorem dX10_readStep_34 : decode cX10_readStep 34 = .ok (.putfield 88, 3) := by decide +kernel
theorem dX10_readStep_37 : decode cX10_readStep 37 = .ok (.aload_n 0, 1) := by decide +kernel
theorem dX10_readStep_38 : decode cX10_readStep 38 = .ok (.getfield 23, 3) := by decide +kernel
theorem dX10_readStep_41 : decode cX10_readStep 41 = .ok (.iload_n 2, 1) := by decide +kernel
theorem dX10_readStep_42 : decode cX10_readStep 42 = .ok (.iload_n 3, 1) := by decide +kernel
theorem dX10_readStep_43 : decode cX10_readStep 43 = .ok (.iastore, 1) := by decide +kernel
theorem dX10_readStep_44 : decode cX10_readStep 44 = .ok (.iconst 0, 1) := by decide +kernel
theorem dX10_readStep_45 : decode cX10_readStep 45 = .ok (.istore 4, 2) := by decide +kernel
theorem dX10_readStep_47 : decode cX10_readStep 47 = .ok (.iload 4, 2) := by decide +kernel
theorem dX10_readStep_49 : decode cX10_readStep 49 = .ok (.iconst 4, 1) := by decide +kernel
theorem dX10_readStep_50 : decode cX10_readStep 50 = .ok (.if_icmp .ge 90, 3) := by decide +kernel
theorem dX10_readStep_53 : decode cX10_readStep 53 = .ok (.aload_n 0, 1) := by decide +kernel
theorem dX10_readStep_54 : decode cX10_readStep 54 = .ok (.getfield 23, 3) := by decide +kernel
theorem dX10_readStep_57 : decode cX10_readStep 57 = .ok (.iload_n 2, 1) := by decide +kernel
theorem dX10_readStep_58 : decode cX10_readStep 58 = .ok (.iconst 1, 1) := by decide +kernel
theorem dX10_readStep_59 : decode cX10_readStep 59 = .ok (.iadd, 1) := by decide +kernel
theorem dX10_readStep_60 : decode cX10_readStep 60 = .ok (.iload 4, 2) := by decide +kernel
theorem dX10_readStep_62 : decode cX10_readStep 62 = .ok (.iadd, 1) := by decide +kernel
theorem dX10_readStep_63 : decode cX10_readStep 63 = .ok (.iconst (-1), 1) := by decide +kernel
theorem dX10_readStep_64 : decode cX10_readStep 64 = .ok (.iastore, 1) := by decide +kernel
theorem dX10_readStep_65 : decode cX10_readStep 65 = .ok (.iload 4, 2) := by decide +kernel
theorem dX10_readStep_67 : decode cX10_readStep 67 = .ok (.iload_n 3, 1) := by decide +kernel
theorem dX10_readStep_68 : decode cX10_readStep 68 = .ok (.invokestatic 140, 3) := by decide +kernel
theorem dX10_readStep_71 : decode cX10_readStep 71 = .ok (.if_icmp .ge 63, 3) := by decide +kernel
theorem dX10_readStep_74 : decode cX10_readStep 74 = .ok (.aload_n 0, 1) := by decide +kernel
theorem dX10_readStep_75 : decode cX10_readStep 75 = .ok (.getfield 95, 3) := by decide +kernel
theorem dX10_readStep_78 : decode cX10_readStep 78 = .ok (.iconst (-1), 1) := by decide +kernel
theorem dX10_readStep_79 : decode cX10_readStep 79 = .ok (.if_icmp .eq 6, 3) := by decide +kernel
theorem dX10_readStep_82 : decode cX10_readStep 82 = .ok (.goto 52, 3) := by decide +kernel
theorem dX10_readStep_85 : decode cX10_readStep 85 = .ok (.iload 4, 2) := by decide +kernel
theorem dX10_readStep_87 : decode cX10_readStep 87 = .ok (.ifCond .le 17, 3) := by decide +kernel
theorem dX10_readStep_90 : decode cX10_readStep 90 = .ok (.aload_n 0, 1) := by decide +kernel
theorem dX10_readStep_91 : decode cX10_readStep 91 = .ok (.invokevirtual 98, 3) := by decide +kernel
theorem dX10_readStep_94 : decode cX10_readStep 94 = .ok (.bipush 44, 2) := by decide +kernel
theorem dX10_readStep_96 : decode cX10_readStep 96 = .ok (.if_icmp .eq 8, 3) := by decide +kernel
theorem dX10_readStep_99 : decode cX10_readStep 99 = .ok (.aload_n 0, 1) := by decide +kernel
theorem dX10_readStep_100 : decode cX10_readStep 100 = .ok (.invokevirtual 105, 3) := by decide +kernel
theorem dX10_readStep_103 : decode cX10_readStep 103 = .ok (.return_, 1) := by decide +kernel
theorem dX10_readStep_104 : decode cX10_readStep 104 = .ok (.iload 4, 2) := by decide +kernel
theorem dX10_readStep_106 : decode cX10_readStep 106 = .ok (.ifCond .le 13, 3) := by decide +kernel
theorem dX10_readStep_109 : decode cX10_readStep 109 = .ok (.aload_n 0, 1) := by decide +kernel
theorem dX10_readStep_110 : decode cX10_readStep 110 = .ok (.dup, 1) := by decide +kernel
theorem dX10_readStep_111 : decode cX10_readStep 111 = .ok (.getfield 88, 3) := by decide +kernel
theorem dX10_readStep_114 : decode cX10_readStep 114 = .ok (.iconst 1, 1) := by decide +kernel
theorem dX10_readStep_115 : decode cX10_readStep 115 = .ok (.iadd, 1) := by decide +kernel
theorem dX10_readStep_116 : decode cX10_readStep 116 = .ok (.putfield 88, 3) := by decide +kernel
theorem dX10_readStep_119 : decode cX10_readStep 119 = .ok (.aload_n 0, 1) := by decide +kernel
theorem dX10_readStep_120 : decode cX10_readStep 120 = .ok (.getfield 23, 3) := by decide +kernel
theorem dX10_readStep_123 : decode cX10_readStep 123 = .ok (.iload_n 2, 1) := by decide +kernel
theorem dX10_readStep_124 : decode cX10_readStep 124 = .ok (.iconst 1, 1) := by decide +kernel
theorem dX10_readStep_125 : decode cX10_readStep 125 = .ok (.iadd, 1) := by decide +kernel
theorem dX10_readStep_126 : decode cX10_readStep 126 = .ok (.iload 4, 2) := by decide +kernel
theorem dX10_readStep_128 : decode cX10_readStep 128 = .ok (.iadd, 1) := by decide +kernel
theorem dX10_readStep_129 : decode cX10_readStep 129 = .ok (.aload_n 0, 1) := by decide +kernel
theorem dX10_readStep_130 : decode cX10_readStep 130 = .ok (.invokevirtual 125, 3) := by decide +kernel
theorem dX10_readStep_133 : decode cX10_readStep 133 = .ok (.iastore, 1) := by decide +kernel
theorem dX10_readStep_134 : decode cX10_readStep 134 = .ok (.iinc 4 1, 3) := by decide +kernel
theorem dX10_readStep_137 : decode cX10_readStep 137 = .ok (.goto (-90), 3) := by decide +kernel
theorem dX10_readStep_140 : decode cX10_readStep 140 = .ok (.return_, 1) := by decide +kernel
theorem dX10_readScript_0 : decode cX10_readScript 0 = .ok (.iconst 0, 1) := by decide +kernel
theorem dX10_readScript_1 : decode cX10_readScript 1 = .ok (.istore_n 1, 1) := by decide +kernel
theorem dX10_readScript_2 : decode cX10_readScript 2 = .ok (.iconst 1, 1) := by decide +kernel
theorem dX10_readScript_3 : decode cX10_readScript 3 = .ok (.istore_n 2, 1) := by decide +kernel
theorem dX10_readScript_4 : decode cX10_readScript 4 = .ok (.iload_n 2, 1) := by decide +kernel
theorem dX10_readScript_5 : decode cX10_readScript 5 = .ok (.ifCond .eq 67, 3) := by decide +kernel
theorem dX10_readScript_8 : decode cX10_readScript 8 = .ok (.aload_n 0, 1) := by decide +kernel
theorem dX10_readScript_9 : decode cX10_readScript 9 = .ok (.iload_n 1, 1) := by decide +kernel
theorem dX10_readScript_10 : decode cX10_readScript 10 = .ok (.invokevirtual 143, 3) := by decide +kernel
theorem dX10_readScript_13 : decode cX10_readScript 13 = .ok (.aload_n 0, 1) := by decide +kernel
theorem dX10_readScript_14 : decode cX10_readScript 14 = .ok (.getfield 95, 3) := by decide +kernel
theorem dX10_readScript_17 : decode cX10_readScript 17 = .ok (.iconst (-1), 1) := by decide +kernel
theorem dX10_readScript_18 : decode cX10_readScript 18 = .ok (.if_icmp .eq 4, 3) := by decide +kernel
theorem dX10_readScript_21 : decode cX10_readScript 21 = .ok (.return_, 1) := by decide +kernel
theorem dX10_readScript_22 : decode cX10_readScript 22 = .ok (.iinc 1 1, 3) := by decide +kernel
theorem dX10_readScript_25 : decode cX10_readScript 25 = .ok (.aload_n 0, 1) := by decide +kernel
theorem dX10_readScript_26 : decode cX10_readScript 26 = .ok (.invokevirtual 98, 3) := by decide +kernel
theorem dX10_readScript_29 : decode cX10_readScript 29 = .ok (.bipush 59, 2) := by decide +kernel
theorem dX10_readScript_31 : decode cX10_readScript 31 = .ok (.if_icmp .ne 7, 3) := by decide +kernel
theorem dX10_readScript_34 : decode cX10_readScript 34 = .ok (.iconst 1, 1) := by decide +kernel
theorem dX10_readScript_35 : decode cX10_readScript 35 = .ok (.goto 4, 3) := by decide +kernel
theorem dX10_readScript_38 : decode cX10_readScript 38 = .ok (.iconst 0, 1) := by decide +kernel
theorem dX10_readScript_39 : decode cX10_readScript 39 = .ok (.istore_n 2, 1) := by decide +kernel
theorem dX10_readScript_40 : decode cX10_readScript 40 = .ok (.iload_n 2, 1) := by decide +kernel
theorem dX10_readScript_41 : decode cX10_readScript 41 = .ok (.ifCond .eq 14, 3) := by decide +kernel
theorem dX10_readScript_44 : decode cX10_readScript 44 = .ok (.iload_n 1, 1) := by decide +kernel
theorem dX10_readScript_45 : decode cX10_readScript 45 = .ok (.bipush 16, 2) := by decide +kernel
theorem dX10_readScript_47 : decode cX10_readScript 47 = .ok (.if_icmp .ne 8, 3) := by decide +kernel
theorem dX10_readScript_50 : decode cX10_readScript 50 = .ok (.aload_n 0, 1) := by decide +kernel
theorem dX10_readScript_51 : decode cX10_readScript 51 = .ok (.invokevirtual 105, 3) := by decide +kernel
theorem dX10_readScript_54 : decode cX10_readScript 54 = .ok (.return_, 1) := by decide +kernel
theorem dX10_readScript_55 : decode cX10_readScript 55 = .ok (.iload_n 2, 1) := by decide +kernel
theorem dX10_readScript_56 : decode cX10_readScript 56 = .ok (.ifCond .eq (-52), 3) := by decide +kernel
theorem dX10_readScript_59 : decode cX10_readScript 59 = .ok (.aload_n 0, 1) := by decide +kernel
theorem dX10_readScript_60 : decode cX10_readScript 60 = .ok (.dup, 1) := by decide +kernel
theorem dX10_readScript_61 : decode cX10_readScript 61 = .ok (.getfield 88, 3) := by decide +kernel
theorem dX10_readScript_64 : decode cX10_readScript 64 = .ok (.iconst 1, 1) := by decide +kernel
theorem dX10_readScript_65 : decode cX10_readScript 65 = .ok (.iadd, 1) := by decide +kernel
theorem dX10_readScript_66 : decode cX10_readScript 66 = .ok (.putfield 88, 3) := by decide +kernel
theorem dX10_readScript_69 : decode cX10_readScript 69 = .ok (.goto (-65), 3) := by decide +kernel
theorem dX10_readScript_72 : decode cX10_readScript 72 = .ok (.aload_n 0, 1) := by decide +kernel
theorem dX10_readScript_73 : decode cX10_readScript 73 = .ok (.getfield 26, 3) := by decide +kernel
theorem dX10_readScript_76 : decode cX10_readScript 76 = .ok (.iconst 4, 1) := by decide +kernel
theorem dX10_readScript_77 : decode cX10_readScript 77 = .ok (.iload_n 1, 1) := by decide +kernel
theorem dX10_readScript_78 : decode cX10_readScript 78 = .ok (.iastore, 1) := by decide +kernel
theorem dX10_readScript_79 : decode cX10_readScript 79 = .ok (.aload_n 0, 1) := by decide +kernel
theorem dX10_readScript_80 : decode cX10_readScript 80 = .ok (.invokevirtual 98, 3) := by decide +kernel
theorem dX10_readScript_83 : decode cX10_readScript 83 = .ok (.iconst (-1), 1) := by decide +kernel
theorem dX10_readScript_84 : decode cX10_readScript 84 = .ok (.if_icmp .eq 7, 3) := by decide +kernel
theorem dX10_readScript_87 : decode cX10_readScript 87 = .ok (.aload_n 0, 1) := by decide +kernel
theorem dX10_readScript_88 : decode cX10_readScript 88 = .ok (.invokevirtual 105, 3) := by decide +kernel
theorem dX10_readScript_91 : decode cX10_readScript 91 = .ok (.return_, 1) := by decide +kernel
theorem dX10_fault_0 : decode cX10_fault 0 = .ok (.aload_n 0, 1) := by decide +kernel
theorem dX10_fault_1 : decode cX10_fault 1 = .ok (.iconst 0, 1) := by decide +kernel
theorem dX10_fault_2 : decode cX10_fault 2 = .ok (.putfield 73, 3) := by decide +kernel
theorem dX10_fault_5 : decode cX10_fault 5 = .ok (.iload_n 1, 1) := by decide +kernel
theorem dX10_fault_6 : decode cX10_fault 6 = .ok (.i2l, 1) := by decide +kernel
theorem dX10_fault_7 : decode cX10_fault 7 = .ok (.lconst 0, 1) := by decide +kernel
theorem dX10_fault_8 : decode cX10_fault 8 = .ok (.lconst 1, 1) := by decide +kernel
theorem dX10_fault_9 : decode cX10_fault 9 = .ok (.invokestatic 134, 3) := by decide +kernel
theorem dX10_fault_12 : decode cX10_fault 12 = .ok (.ifCond .ne 6, 3) := by decide +kernel
theorem dX10_fault_15 : decode cX10_fault 15 = .ok (.bipush (-2), 2) := by decide +kernel
theorem dX10_fault_17 : decode cX10_fault 17 = .ok (.ireturn, 1) := by decide +kernel
theorem dX10_fault_18 : decode cX10_fault 18 = .ok (.aload_n 0, 1) := by decide +kernel
theorem dX10_fault_19 : decode cX10_fault 19 = .ok (.iconst 0, 1) := by decide +kernel
theorem dX10_fault_20 : decode cX10_fault 20 = .ok (.putfield 88, 3) := by decide +kernel
theorem dX10_fault_23 : decode cX10_fault 23 = .ok (.aload_n 0, 1) := by decide +kernel
theorem dX10_fault_24 : decode cX10_fault 24 = .ok (.iconst (-1), 1) := by decide +kernel
theorem dX10_fault_25 : decode cX10_fault 25 = .ok (.putfield 95, 3) := by decide +kernel
theorem dX10_fault_28 : decode cX10_fault 28 = .ok (.iload_n 1, 1) := by decide +kernel
theorem dX10_fault_29 : decode cX10_fault 29 = .ok (.ifCond .ne 10, 3) := by decide +kernel
theorem dX10_fault_32 : decode cX10_fault 32 = .ok (.aload_n 0, 1) := by decide +kernel
theorem dX10_fault_33 : decode cX10_fault 33 = .ok (.invokevirtual 146, 3) := by decide +kernel
theorem dX10_fault_36 : decode cX10_fault 36 = .ok (.goto 7, 3) := by decide +kernel
theorem dX10_fault_39 : decode cX10_fault 39 = .ok (.aload_n 0, 1) := by decide +kernel
theorem dX10_fault_40 : decode cX10_fault 40 = .ok (.invokevirtual 149, 3) := by decide +kernel
theorem dX10_fault_43 : decode cX10_fault 43 = .ok (.aload_n 0, 1) := by decide +kernel
theorem dX10_fault_44 : decode cX10_fault 44 = .ok (.getfield 95, 3) := by decide +kernel
theorem dX10_fault_47 : decode cX10_fault 47 = .ok (.ireturn, 1) := by decide +kernel
theorem dX10_text_0 : decode cX10_text 0 = .ok (.aload_n 0, 1) := by decide +kernel
theorem dX10_text_1 : decode cX10_text 1 = .ok (.iconst 0, 1) := by decide +kernel
theorem dX10_text_2 : decode cX10_text 2 = .ok (.putfield 73, 3) := by decide +kernel
theorem dX10_text_5 : decode cX10_text 5 = .ok (.iload_n 1, 1) := by decide +kernel
theorem dX10_text_6 : decode cX10_text 6 = .ok (.i2l, 1) := by decide +kernel
theorem dX10_text_7 : decode cX10_text 7 = .ok (.lconst 0, 1) := by decide +kernel
theorem dX10_text_8 : decode cX10_text 8 = .ok (.lconst 1, 1) := by decide +kernel
theorem dX10_text_9 : decode cX10_text 9 = .ok (.invokestatic 134, 3) := by decide +kernel
theorem dX10_text_12 : decode cX10_text 12 = .ok (.ifCond .eq 25, 3) := by decide +kernel
theorem dX10_text_15 : decode cX10_text 15 = .ok (.iload_n 1, 1) := by decide +kernel
theorem dX10_text_16 : decode cX10_text 16 = .ok (.iconst 1, 1) := by decide +kernel
theorem dX10_text_17 : decode cX10_text 17 = .ok (.if_icmp .ne 11, 3) := by decide +kernel
theorem dX10_text_20 : decode cX10_text 20 = .ok (.aload_n 0, 1) := by decide +kernel
theorem dX10_text_21 : decode cX10_text 21 = .ok (.getfield 152, 3) := by decide +kernel
theorem dX10_text_24 : decode cX10_text 24 = .ok (.iconst 4, 1) := by decide +kernel
theorem dX10_text_25 : decode cX10_text 25 = .ok (.if_icmp .eq 12, 3) := by decide +kernel
theorem dX10_text_28 : decode cX10_text 28 = .ok (.aload_n 0, 1) := by decide +kernel
theorem dX10_text_29 : decode cX10_text 29 = .ok (.iload_n 1, 1) := by decide +kernel
theorem dX10_text_30 : decode cX10_text 30 = .ok (.invokevirtual 155, 3) := by decide +kernel
theorem dX10_text_33 : decode cX10_text 33 = .ok (.iconst (-1), 1) := by decide +kernel
theorem dX10_text_34 : decode cX10_text 34 = .ok (.if_icmp .eq 5, 3) := by decide +kernel
theorem dX10_text_37 : decode cX10_text 37 = .ok (.iconst (-1), 1) := by decide +kernel
theorem dX10_text_38 : decode cX10_text 38 = .ok (.ireturn, 1) := by decide +kernel
theorem dX10_text_39 : decode cX10_text 39 = .ok (.aload_n 0, 1) := by decide +kernel
theorem dX10_text_40 : decode cX10_text 40 = .ok (.iconst 0, 1) := by decide +kernel
theorem dX10_text_41 : decode cX10_text 41 = .ok (.putfield 77, 3) := by decide +kernel
theorem dX10_text_44 : decode cX10_text 44 = .ok (.iload_n 1, 1) := by decide +kernel
theorem dX10_text_45 : decode cX10_text 45 = .ok (.iconst 1, 1) := by decide +kernel
theorem dX10_text_46 : decode cX10_text 46 = .ok (.if_icmp .ne 74, 3) := by decide +kernel
theorem dX10_text_49 : decode cX10_text 49 = .ok (.bipush 80, 2) := by decide +kernel
theorem dX10_text_51 : decode cX10_text 51 = .ok (.istore_n 2, 1) := by decide +kernel
theorem dX10_text_52 : decode cX10_text 52 = .ok (.iconst 0, 1) := by decide +kernel
theorem dX10_text_53 : decode cX10_text 53 = .ok (.istore_n 3, 1) := by decide +kernel
theorem dX10_text_54 : decode cX10_text 54 = .ok (.iload_n 3, 1) := by decide +kernel
theorem dX10_text_55 : decode cX10_text 55 = .ok (.iload_n 2, 1) := by decide +kernel
theorem dX10_text_56 : decode cX10_text 56 = .ok (.if_icmp .ge 32, 3) := by decide +kernel
theorem dX10_text_59 : decode cX10_text 59 = .ok (.aload_n 0, 1) := by decide +kernel
theorem dX10_text_60 : decode cX10_text 60 = .ok (.getfield 23, 3) := by decide +kernel
theorem dX10_text_63 : decode cX10_text 63 = .ok (.iload_n 2, 1) := by decide +kernel
theorem dX10_text_64 : decode cX10_text 64 = .ok (.aload_n 0, 1) := by decide +kernel
theorem dX10_text_65 : decode cX10_text 65 = .ok (.getfield 152, 3) := by decide +kernel
theorem dX10_text_68 : decode cX10_text 68 = .ok (.imul, 1) := by decide +kernel
theorem dX10_text_69 : decode cX10_text 69 = .ok (.iload_n 3, 1) := by decide +kernel
theorem dX10_text_70 : decode cX10_text 70 = .ok (.iadd, 1) := by decide +kernel
theorem dX10_text_71 : decode cX10_text 71 = .ok (.aload_n 0, 1) := by decide +kernel
theorem dX10_text_72 : decode cX10_text 72 = .ok (.getfield 23, 3) := by decide +kernel
theorem dX10_text_75 : decode cX10_text 75 = .ok (.iload_n 2, 1) := by decide +kernel
theorem dX10_text_76 : decode cX10_text 76 = .ok (.iconst 4, 1) := by decide +kernel
theorem dX10_text_77 : decode cX10_text 77 = .ok (.imul, 1) := by decide +kernel
theorem dX10_text_78 : decode cX10_text 78 = .ok (.iload_n 3, 1) := by decide +kernel
theorem dX10_text_79 : decode cX10_text 79 = .ok (.iadd, 1) := by decide +kernel
theorem dX10_text_80 : decode cX10_text 80 = .ok (.iaload, 1) := by decide +kernel
theorem dX10_text_81 : decode cX10_text 81 = .ok (.iastore, 1) := by decide +kernel
theorem dX10_text_82 : decode cX10_text 82 = .ok (.iinc 3 1, 3) := by decide +kernel
theorem dX10_text_85 : decode cX10_text 85 = .ok (.goto (-31), 3) := by decide +kernel
theorem dX10_text_88 : decode cX10_text 88 = .ok (.aload_n 0, 1) := by decide +kernel
theorem dX10_text_89 : decode cX10_text 89 = .ok (.getfield 26, 3) := by decide +kernel
theorem dX10_text_92 : decode cX10_text 92 = .ok (.aload_n 0, 1) := by decide +kernel
theorem dX10_text_93 : decode cX10_text 93 = .ok (.getfield 152, 3) := by decide +kernel
theorem dX10_text_96 : decode cX10_text 96 = .ok (.aload_n 0, 1) := by decide +kernel
theorem dX10_text_97 : decode cX10_text 97 = .ok (.getfield 26, 3) := by decide +kernel
theorem dX10_text_100 : decode cX10_text 100 = .ok (.iconst 4, 1) := by decide +kernel
theorem dX10_text_101 : decode cX10_text 101 = .ok (.iaload, 1) := by decide +kernel
theorem dX10_text_102 : decode cX10_text 102 = .ok (.iastore, 1) := by decide +kernel
theorem dX10_text_103 : decode cX10_text 103 = .ok (.aload_n 0, 1) := by decide +kernel
theorem dX10_text_104 : decode cX10_text 104 = .ok (.dup, 1) := by decide +kernel
theorem dX10_text_105 : decode cX10_text 105 = .ok (.getfield 152, 3) := by decide +kernel
theorem dX10_text_108 : decode cX10_text 108 = .ok (.iconst 1, 1) := by decide +kernel
theorem dX10_text_109 : decode cX10_text 109 = .ok (.iadd, 1) := by decide +kernel
theorem dX10_text_110 : decode cX10_text 110 = .ok (.putfield 152, 3) := by decide +kernel
theorem dX10_text_113 : decode cX10_text 113 = .ok (.aload_n 0, 1) := by decide +kernel
theorem dX10_text_114 : decode cX10_text 114 = .ok (.getfield 152, 3) := by decide +kernel
theorem dX10_text_117 : decode cX10_text 117 = .ok (.iconst 1, 1) := by decide +kernel
theorem dX10_text_118 : decode cX10_text 118 = .ok (.isub, 1) := by decide +kernel
theorem dX10_text_119 : decode cX10_text 119 = .ok (.ireturn, 1) := by decide +kernel
theorem dX10_text_120 : decode cX10_text 120 = .ok (.iconst 0, 1) := by decide +kernel
theorem dX10_text_121 : decode cX10_text 121 = .ok (.istore_n 2, 1) := by decide +kernel
theorem dX10_text_122 : decode cX10_text 122 = .ok (.iload_n 2, 1) := by decide +kernel
theorem dX10_text_123 : decode cX10_text 123 = .ok (.iconst 4, 1) := by decide +kernel
theorem dX10_text_124 : decode cX10_text 124 = .ok (.if_icmp .ge 21, 3) := by decide +kernel
theorem dX10_text_127 : decode cX10_text 127 = .ok (.aload_n 0, 1) := by decide +kernel
theorem dX10_text_128 : decode cX10_text 128 = .ok (.getfield 17, 3) := by decide +kernel
theorem dX10_text_131 : decode cX10_text 131 = .ok (.iload_n 2, 1) := by decide +kernel
theorem dX10_text_132 : decode cX10_text 132 = .ok (.aload_n 0, 1) := by decide +kernel
theorem dX10_text_133 : decode cX10_text 133 = .ok (.getfield 13, 3) := by decide +kernel
theorem dX10_text_136 : decode cX10_text 136 = .ok (.iload_n 2, 1) := by decide +kernel
theorem dX10_text_137 : decode cX10_text 137 = .ok (.iaload, 1) := by decide +kernel
theorem dX10_text_138 : decode cX10_text 138 = .ok (.iastore, 1) := by decide +kernel
theorem dX10_text_139 : decode cX10_text 139 = .ok (.iinc 2 1, 3) := by decide +kernel
theorem dX10_text_142 : decode cX10_text 142 = .ok (.goto (-20), 3) := by decide +kernel
theorem dX10_text_145 : decode cX10_text 145 = .ok (.iconst 0, 1) := by decide +kernel
theorem dX10_text_146 : decode cX10_text 146 = .ok (.istore_n 2, 1) := by decide +kernel
theorem dX10_text_147 : decode cX10_text 147 = .ok (.iload_n 2, 1) := by decide +kernel
theorem dX10_text_148 : decode cX10_text 148 = .ok (.sipush 1554, 3) := by decide +kernel
theorem dX10_text_151 : decode cX10_text 151 = .ok (.if_icmp .ge 16, 3) := by decide +kernel
theorem dX10_text_154 : decode cX10_text 154 = .ok (.aload_n 0, 1) := by decide +kernel
theorem dX10_text_155 : decode cX10_text 155 = .ok (.getfield 29, 3) := by decide +kernel
theorem dX10_text_158 : decode cX10_text 158 = .ok (.iload_n 2, 1) := by decide +kernel
theorem dX10_text_159 : decode cX10_text 159 = .ok (.iconst 0, 1) := by decide +kernel
theorem dX10_text_160 : decode cX10_text 160 = .ok (.iastore, 1) := by decide +kernel
theorem dX10_text_161 : decode cX10_text 161 = .ok (.iinc 2 1, 3) := by decide +kernel
theorem dX10_text_164 : decode cX10_text 164 = .ok (.goto (-17), 3) := by decide +kernel
theorem dX10_text_167 : decode cX10_text 167 = .ok (.aload_n 0, 1) := by decide +kernel
theorem dX10_text_168 : decode cX10_text 168 = .ok (.iconst 1, 1) := by decide +kernel
theorem dX10_text_169 : decode cX10_text 169 = .ok (.putfield 157, 3) := by decide +kernel
theorem dX10_text_172 : decode cX10_text 172 = .ok (.aload_n 0, 1) := by decide +kernel
theorem dX10_text_173 : decode cX10_text 173 = .ok (.iconst 0, 1) := by decide +kernel
theorem dX10_text_174 : decode cX10_text 174 = .ok (.putfield 161, 3) := by decide +kernel
theorem dX10_text_177 : decode cX10_text 177 = .ok (.aload_n 0, 1) := by decide +kernel
theorem dX10_text_178 : decode cX10_text 178 = .ok (.iconst 0, 1) := by decide +kernel
theorem dX10_text_179 : decode cX10_text 179 = .ok (.putfield 164, 3) := by decide +kernel
theorem dX10_text_182 : decode cX10_text 182 = .ok (.aload_n 0, 1) := by decide +kernel
theorem dX10_text_183 : decode cX10_text 183 = .ok (.getfield 17, 3) := by decide +kernel
theorem dX10_text_186 : decode cX10_text 186 = .ok (.iconst 0, 1) := by decide +kernel
theorem dX10_text_187 : decode cX10_text 187 = .ok (.iaload, 1) := by decide +kernel
theorem dX10_text_188 : decode cX10_text 188 = .ok (.iconst 2, 1) := by decide +kernel
theorem dX10_text_189 : decode cX10_text 189 = .ok (.aload_n 0, 1) := by decide +kernel
theorem dX10_text_190 : decode cX10_text 190 = .ok (.getfield 17, 3) := by decide +kernel
theorem dX10_text_193 : decode cX10_text 193 = .ok (.iconst 1, 1) := by decide +kernel
theorem dX10_text_194 : decode cX10_text 194 = .ok (.iaload, 1) := by decide +kernel
theorem dX10_text_195 : decode cX10_text 195 = .ok (.imul, 1) := by decide +kernel
theorem dX10_text_196 : decode cX10_text 196 = .ok (.iadd, 1) := by decide +kernel
theorem dX10_text_197 : decode cX10_text 197 = .ok (.aload_n 0, 1) := by decide +kernel
theorem dX10_text_198 : decode cX10_text 198 = .ok (.getfield 17, 3) := by decide +kernel
theorem dX10_text_201 : decode cX10_text 201 = .ok (.iconst 2, 1) := by decide +kernel
theorem dX10_text_202 : decode cX10_text 202 = .ok (.iaload, 1) := by decide +kernel
theorem dX10_text_203 : decode cX10_text 203 = .ok (.iadd, 1) := by decide +kernel
theorem dX10_text_204 : decode cX10_text 204 = .ok (.ireturn, 1) := by decide +kernel
theorem dX10_copyRow_0 : decode cX10_copyRow 0 = .ok (.iconst 0, 1) := by decide +kernel
theorem dX10_copyRow_1 : decode cX10_copyRow 1 = .ok (.istore 4, 2) := by decide +kernel
theorem dX10_copyRow_3 : decode cX10_copyRow 3 = .ok (.iload 4, 2) := by decide +kernel
theorem dX10_copyRow_5 : decode cX10_copyRow 5 = .ok (.sipush 1554, 3) := by decide +kernel
theorem dX10_copyRow_8 : decode cX10_copyRow 8 = .ok (.if_icmp .ge 21, 3) := by decide +kernel
theorem dX10_copyRow_11 : decode cX10_copyRow 11 = .ok (.aload_n 2, 1) := by decide +kernel
theorem dX10_copyRow_12 : decode cX10_copyRow 12 = .ok (.iload_n 3, 1) := by decide +kernel
theorem dX10_copyRow_13 : decode cX10_copyRow 13 = .ok (.iload 4, 2) := by decide +kernel
theorem dX10_copyRow_15 : decode cX10_copyRow 15 = .ok (.iadd, 1) := by decide +kernel
theorem dX10_copyRow_16 : decode cX10_copyRow 16 = .ok (.aload_n 0, 1) := by decide +kernel
theorem dX10_copyRow_17 : decode cX10_copyRow 17 = .ok (.iload_n 1, 1) := by decide +kernel
theorem dX10_copyRow_18 : decode cX10_copyRow 18 = .ok (.iload 4, 2) := by decide +kernel
theorem dX10_copyRow_20 : decode cX10_copyRow 20 = .ok (.iadd, 1) := by decide +kernel
theorem dX10_copyRow_21 : decode cX10_copyRow 21 = .ok (.iaload, 1) := by decide +kernel
theorem dX10_copyRow_22 : decode cX10_copyRow 22 = .ok (.iastore, 1) := by decide +kernel
theorem dX10_copyRow_23 : decode cX10_copyRow 23 = .ok (.iinc 4 1, 3) := by decide +kernel
theorem dX10_copyRow_26 : decode cX10_copyRow 26 = .ok (.goto (-23), 3) := by decide +kernel
theorem dX10_copyRow_29 : decode cX10_copyRow 29 = .ok (.return_, 1) := by decide +kernel
theorem dX10_cell_0 : decode cX10_cell 0 = .ok (.iconst 1, 1) := by decide +kernel
theorem dX10_cell_1 : decode cX10_cell 1 = .ok (.bipush 11, 2) := by decide +kernel
theorem dX10_cell_3 : decode cX10_cell 3 = .ok (.iload_n 0, 1) := by decide +kernel
theorem dX10_cell_4 : decode cX10_cell 4 = .ok (.imul, 1) := by decide +kernel
theorem dX10_cell_5 : decode cX10_cell 5 = .ok (.iadd, 1) := by decide +kernel
theorem dX10_cell_6 : decode cX10_cell 6 = .ok (.iload_n 1, 1) := by decide +kernel
theorem dX10_cell_7 : decode cX10_cell 7 = .ok (.iadd, 1) := by decide +kernel
theorem dX10_cell_8 : decode cX10_cell 8 = .ok (.ireturn, 1) := by decide +kernel
theorem dX10_of_0 : decode cX10_of 0 = .ok (.aload_n 0, 1) := by decide +kernel
theorem dX10_of_1 : decode cX10_of 1 = .ok (.iconst 1, 1) := by decide +kernel
theorem dX10_of_2 : decode cX10_of 2 = .ok (.bipush 11, 2) := by decide +kernel
theorem dX10_of_4 : decode cX10_of 4 = .ok (.iload_n 1, 1) := by decide +kernel
theorem dX10_of_5 : decode cX10_of 5 = .ok (.imul, 1) := by decide +kernel
theorem dX10_of_6 : decode cX10_of 6 = .ok (.iadd, 1) := by decide +kernel
theorem dX10_of_7 : decode cX10_of 7 = .ok (.iload_n 2, 1) := by decide +kernel
theorem dX10_of_8 : decode cX10_of 8 = .ok (.iadd, 1) := by decide +kernel
theorem dX10_of_9 : decode cX10_of 9 = .ok (.iaload, 1) := by decide +kernel
theorem dX10_of_10 : decode cX10_of 10 = .ok (.ireturn, 1) := by decide +kernel
theorem dX10_spotOf__0 : decode cX10_spotOf_ 0 = .ok (.iload_n 1, 1) := by decide +kernel
theorem dX10_spotOf__1 : decode cX10_spotOf_ 1 = .ok (.ifCond .ne 5, 3) := by decide +kernel
theorem dX10_spotOf__4 : decode cX10_spotOf_ 4 = .ok (.iconst (-1), 1) := by decide +kernel
theorem dX10_spotOf__5 : decode cX10_spotOf_ 5 = .ok (.ireturn, 1) := by decide +kernel
theorem dX10_spotOf__6 : decode cX10_spotOf_ 6 = .ok (.iconst 0, 1) := by decide +kernel
theorem dX10_spotOf__7 : decode cX10_spotOf_ 7 = .ok (.istore_n 2, 1) := by decide +kernel
theorem dX10_spotOf__8 : decode cX10_spotOf_ 8 = .ok (.iload_n 2, 1) := by decide +kernel
theorem dX10_spotOf__9 : decode cX10_spotOf_ 9 = .ok (.aload_n 0, 1) := by decide +kernel
theorem dX10_spotOf__10 : decode cX10_spotOf_ 10 = .ok (.iconst 0, 1) := by decide +kernel
theorem dX10_spotOf__11 : decode cX10_spotOf_ 11 = .ok (.iaload, 1) := by decide +kernel
theorem dX10_spotOf__12 : decode cX10_spotOf_ 12 = .ok (.if_icmp .ge 21, 3) := by decide +kernel
theorem dX10_spotOf__15 : decode cX10_spotOf_ 15 = .ok (.aload_n 0, 1) := by decide +kernel
theorem dX10_spotOf__16 : decode cX10_spotOf_ 16 = .ok (.iload_n 2, 1) := by decide +kernel
theorem dX10_spotOf__17 : decode cX10_spotOf_ 17 = .ok (.iconst 0, 1) := by decide +kernel
theorem dX10_spotOf__18 : decode cX10_spotOf_ 18 = .ok (.invokestatic 167, 3) := by decide +kernel
theorem dX10_spotOf__21 : decode cX10_spotOf_ 21 = .ok (.iload_n 1, 1) := by decide +kernel
theorem dX10_spotOf__22 : decode cX10_spotOf_ 22 = .ok (.if_icmp .ne 5, 3) := by decide +kernel
theorem dX10_spotOf__25 : decode cX10_spotOf_ 25 = .ok (.iload_n 2, 1) := by decide +kernel
theorem dX10_spotOf__26 : decode cX10_spotOf_ 26 = .ok (.ireturn, 1) := by decide +kernel
theorem dX10_spotOf__27 : decode cX10_spotOf_ 27 = .ok (.iinc 2 1, 3) := by decide +kernel
theorem dX10_spotOf__30 : decode cX10_spotOf_ 30 = .ok (.goto (-22), 3) := by decide +kernel
theorem dX10_spotOf__33 : decode cX10_spotOf_ 33 = .ok (.iconst (-1), 1) := by decide +kernel
theorem dX10_spotOf__34 : decode cX10_spotOf_ 34 = .ok (.ireturn, 1) := by decide +kernel
theorem dX10_sizeOf_0 : decode cX10_sizeOf 0 = .ok (.iconst 3, 1) := by decide +kernel
theorem dX10_sizeOf_1 : decode cX10_sizeOf 1 = .ok (.aload_n 0, 1) := by decide +kernel
theorem dX10_sizeOf_2 : decode cX10_sizeOf 2 = .ok (.iload_n 1, 1) := by decide +kernel
theorem dX10_sizeOf_3 : decode cX10_sizeOf 3 = .ok (.iconst 2, 1) := by decide +kernel
theorem dX10_sizeOf_4 : decode cX10_sizeOf 4 = .ok (.invokestatic 167, 3) := by decide +kernel
theorem dX10_sizeOf_7 : decode cX10_sizeOf 7 = .ok (.iadd, 1) := by decide +kernel
theorem dX10_sizeOf_8 : decode cX10_sizeOf 8 = .ok (.ireturn, 1) := by decide +kernel
theorem dX10_cellsIn_0 : decode cX10_cellsIn 0 = .ok (.iconst 0, 1) := by decide +kernel
theorem dX10_cellsIn_1 : decode cX10_cellsIn 1 = .ok (.istore_n 2, 1) := by decide +kernel
theorem dX10_cellsIn_2 : decode cX10_cellsIn 2 = .ok (.iconst 0, 1) := by decide +kernel
theorem dX10_cellsIn_3 : decode cX10_cellsIn 3 = .ok (.istore_n 3, 1) := by decide +kernel
theorem dX10_cellsIn_4 : decode cX10_cellsIn 4 = .ok (.iload_n 3, 1) := by decide +kernel
theorem dX10_cellsIn_5 : decode cX10_cellsIn 5 = .ok (.aload_n 0, 1) := by decide +kernel
theorem dX10_cellsIn_6 : decode cX10_cellsIn 6 = .ok (.iconst 0, 1) := by decide +kernel
theorem dX10_cellsIn_7 : decode cX10_cellsIn 7 = .ok (.iaload, 1) := by decide +kernel
theorem dX10_cellsIn_8 : decode cX10_cellsIn 8 = .ok (.if_icmp .ge 31, 3) := by decide +kernel
theorem dX10_cellsIn_11 : decode cX10_cellsIn 11 = .ok (.iload_n 2, 1) := by decide +kernel
theorem dX10_cellsIn_12 : decode cX10_cellsIn 12 = .ok (.aload_n 0, 1) := by decide +kernel
theorem dX10_cellsIn_13 : decode cX10_cellsIn 13 = .ok (.iload_n 3, 1) := by decide +kernel
theorem dX10_cellsIn_14 : decode cX10_cellsIn 14 = .ok (.iconst 5, 1) := by decide +kernel
theorem dX10_cellsIn_15 : decode cX10_cellsIn 15 = .ok (.invokestatic 167, 3) := by decide +kernel
theorem dX10_cellsIn_18 : decode cX10_cellsIn 18 = .ok (.iload_n 1, 1) := by decide +kernel
theorem dX10_cellsIn_19 : decode cX10_cellsIn 19 = .ok (.if_icmp .ne 11, 3) := by decide +kernel
theorem dX10_cellsIn_22 : decode cX10_cellsIn 22 = .ok (.aload_n 0, 1) := by decide +kernel
theorem dX10_cellsIn_23 : decode cX10_cellsIn 23 = .ok (.iload_n 3, 1) := by decide +kernel
theorem dX10_cellsIn_24 : decode cX10_cellsIn 24 = .ok (.invokestatic 171, 3) := by decide +kernel
theorem dX10_cellsIn_27 : decode cX10_cellsIn 27 = .ok (.goto 4, 3) := by decide +kernel
theorem dX10_cellsIn_30 : decode cX10_cellsIn 30 = .ok (.iconst 0, 1) := by decide +kernel
theorem dX10_cellsIn_31 : decode cX10_cellsIn 31 = .ok (.iadd, 1) := by decide +kernel
theorem dX10_cellsIn_32 : decode cX10_cellsIn 32 = .ok (.istore_n 2, 1) := by decide +kernel
theorem dX10_cellsIn_33 : decode cX10_cellsIn 33 = .ok (.iinc 3 1, 3) := by decide +kernel
theorem dX10_cellsIn_36 : decode cX10_cellsIn 36 = .ok (.goto (-32), 3) := by decide +kernel
theorem dX10_cellsIn_39 : decode cX10_cellsIn 39 = .ok (.iload_n 2, 1) := by decide +kernel
theorem dX10_cellsIn_40 : decode cX10_cellsIn 40 = .ok (.ireturn, 1) := by decide +kernel
theorem dX10_cells_0 : decode cX10_cells 0 = .ok (.aload_n 0, 1) := by decide +kernel
theorem dX10_cells_1 : decode cX10_cells 1 = .ok (.iconst 0, 1) := by decide +kernel
theorem dX10_cells_2 : decode cX10_cells 2 = .ok (.invokestatic 175, 3) := by decide +kernel
theorem dX10_cells_5 : decode cX10_cells 5 = .ok (.aload_n 0, 1) := by decide +kernel
theorem dX10_cells_6 : decode cX10_cells 6 = .ok (.iconst 1, 1) := by decide +kernel
theorem dX10_cells_7 : decode cX10_cells 7 = .ok (.invokestatic 175, 3) := by decide +kernel
theorem dX10_cells_10 : decode cX10_cells 10 = .ok (.iadd, 1) := by decide +kernel
theorem dX10_cells_11 : decode cX10_cells 11 = .ok (.aload_n 0, 1) := by decide +kernel
theorem dX10_cells_12 : decode cX10_cells 12 = .ok (.iconst 2, 1) := by decide +kernel
theorem dX10_cells_13 : decode cX10_cells 13 = .ok (.invokestatic 175, 3) := by decide +kernel
theorem dX10_cells_16 : decode cX10_cells 16 = .ok (.iadd, 1) := by decide +kernel
theorem dX10_cells_17 : decode cX10_cells 17 = .ok (.ireturn, 1) := by decide +kernel
theorem dX10_isOld_0 : decode cX10_isOld 0 = .ok (.aload_n 0, 1) := by decide +kernel
theorem dX10_isOld_1 : decode cX10_isOld 1 = .ok (.iload_n 1, 1) := by decide +kernel
theorem dX10_isOld_2 : decode cX10_isOld 2 = .ok (.iconst 5, 1) := by decide +kernel
theorem dX10_isOld_3 : decode cX10_isOld 3 = .ok (.invokestatic 167, 3) := by decide +kernel
theorem dX10_isOld_6 : decode cX10_isOld 6 = .ok (.iconst 2, 1) := by decide +kernel
theorem dX10_isOld_7 : decode cX10_isOld 7 = .ok (.if_icmp .ne 7, 3) := by decide +kernel
theorem dX10_isOld_10 : decode cX10_isOld 10 = .ok (.iconst 1, 1) := by decide +kernel
theorem dX10_isOld_11 : decode cX10_isOld 11 = .ok (.goto 4, 3) := by decide +kernel
theorem dX10_isOld_14 : decode cX10_isOld 14 = .ok (.iconst 0, 1) := by decide +kernel
theorem dX10_isOld_15 : decode cX10_isOld 15 = .ok (.ireturn, 1) := by decide +kernel
theorem dX10_isWeak_0 : decode cX10_isWeak 0 = .ok (.iload_n 2, 1) := by decide +kernel
theorem dX10_isWeak_1 : decode cX10_isWeak 1 = .ok (.ifCond .ne 17, 3) := by decide +kernel
theorem dX10_isWeak_4 : decode cX10_isWeak 4 = .ok (.aload_n 0, 1) := by decide +kernel
theorem dX10_isWeak_5 : decode cX10_isWeak 5 = .ok (.iload_n 1, 1) := by decide +kernel
theorem dX10_isWeak_6 : decode cX10_isWeak 6 = .ok (.iconst 1, 1) := by decide +kernel
theorem dX10_isWeak_7 : decode cX10_isWeak 7 = .ok (.invokestatic 167, 3) := by decide +kernel
theorem dX10_isWeak_10 : decode cX10_isWeak 10 = .ok (.iconst 1, 1) := by decide +kernel
theorem dX10_isWeak_11 : decode cX10_isWeak 11 = .ok (.if_icmp .ne 7, 3) := by decide +kernel
theorem dX10_isWeak_14 : decode cX10_isWeak 14 = .ok (.iconst 1, 1) := by decide +kernel
theorem dX10_isWeak_15 : decode cX10_isWeak 15 = .ok (.goto 4, 3) := by decide +kernel
theorem dX10_isWeak_18 : decode cX10_isWeak 18 = .ok (.iconst 0, 1) := by decide +kernel
theorem dX10_isWeak_19 : decode cX10_isWeak 19 = .ok (.ireturn, 1) := by decide +kernel
theorem dX10_goes_0 : decode cX10_goes 0 = .ok (.iload_n 1, 1) := by decide +kernel
theorem dX10_goes_1 : decode cX10_goes 1 = .ok (.iconst 0, 1) := by decide +kernel
theorem dX10_goes_2 : decode cX10_goes 2 = .ok (.invokestatic 178, 3) := by decide +kernel
theorem dX10_goes_5 : decode cX10_goes 5 = .ok (.istore_n 2, 1) := by decide +kernel
theorem dX10_goes_6 : decode cX10_goes 6 = .ok (.iload_n 2, 1) := by decide +kernel
theorem dX10_goes_7 : decode cX10_goes 7 = .ok (.aload_n 0, 1) := by decide +kernel
theorem dX10_goes_8 : decode cX10_goes 8 = .ok (.iconst 0, 1) := by decide +kernel
theorem dX10_goes_9 : decode cX10_goes 9 = .ok (.iaload, 1) := by decide +kernel
theorem dX10_goes_10 : decode cX10_goes 10 = .ok (.iconst 1, 1) := by decide +kernel
theorem dX10_goes_11 : decode cX10_goes 11 = .ok (.isub, 1) := by decide +kernel
theorem dX10_goes_12 : decode cX10_goes 12 = .ok (.iconst 0, 1) := by decide +kernel
theorem dX10_goes_13 : decode cX10_goes 13 = .ok (.invokestatic 178, 3) := by decide +kernel
theorem dX10_goes_16 : decode cX10_goes 16 = .ok (.if_icmp .ge 18, 3) := by decide +kernel
theorem dX10_goes_19 : decode cX10_goes 19 = .ok (.aload_n 0, 1) := by decide +kernel
theorem dX10_goes_20 : decode cX10_goes 20 = .ok (.iload_n 2, 1) := by decide +kernel
theorem dX10_goes_21 : decode cX10_goes 21 = .ok (.aload_n 0, 1) := by decide +kernel
theorem dX10_goes_22 : decode cX10_goes 22 = .ok (.iload_n 2, 1) := by decide +kernel
theorem dX10_goes_23 : decode cX10_goes 23 = .ok (.bipush 11, 2) := by decide +kernel
theorem dX10_goes_25 : decode cX10_goes 25 = .ok (.iadd, 1) := by decide +kernel
theorem dX10_goes_26 : decode cX10_goes 26 = .ok (.iaload, 1) := by decide +kernel
theorem dX10_goes_27 : decode cX10_goes 27 = .ok (.iastore, 1) := by decide +kernel
theorem dX10_goes_28 : decode cX10_goes 28 = .ok (.iinc 2 1, 3) := by decide +kernel
theorem dX10_goes_31 : decode cX10_goes 31 = .ok (.goto (-25), 3) := by decide +kernel
theorem dX10_goes_34 : decode cX10_goes 34 = .ok (.aload_n 0, 1) := by decide +kernel
theorem dX10_goes_35 : decode cX10_goes 35 = .ok (.iconst 0, 1) := by decide +kernel
theorem dX10_goes_36 : decode cX10_goes 36 = .ok (.dup2, 1) := by decide +kernel
theorem dX10_goes_37 : decode cX10_goes 37 = .ok (.iaload, 1) := by decide +kernel
theorem dX10_goes_38 : decode cX10_goes 38 = .ok (.iconst 1, 1) := by decide +kernel
theorem dX10_goes_39 : decode cX10_goes 39 = .ok (.isub, 1) := by decide +kernel
theorem dX10_goes_40 : decode cX10_goes 40 = .ok (.iastore, 1) := by decide +kernel
theorem dX10_goes_41 : decode cX10_goes 41 = .ok (.return_, 1) := by decide +kernel
theorem dX10_isYoungLink_0 : decode cX10_isYoungLink 0 = .ok (.aload_n 0, 1) := by decide +kernel
theorem dX10_isYoungLink_1 : decode cX10_isYoungLink 1 = .ok (.aload_n 0, 1) := by decide +kernel
theorem dX10_isYoungLink_2 : decode cX10_isYoungLink 2 = .ok (.iload_n 1, 1) := by decide +kernel
theorem dX10_isYoungLink_3 : decode cX10_isYoungLink 3 = .ok (.bipush 7, 2) := by decide +kernel
theorem dX10_isYoungLink_5 : decode cX10_isYoungLink 5 = .ok (.iload_n 2, 1) := by decide +kernel
theorem dX10_isYoungLink_6 : decode cX10_isYoungLink 6 = .ok (.iadd, 1) := by decide +kernel
theorem dX10_isYoungLink_7 : decode cX10_isYoungLink 7 = .ok (.invokestatic 167, 3) := by decide +kernel
theorem dX10_isYoungLink_10 : decode cX10_isYoungLink 10 = .ok (.invokestatic 182, 3) := by decide +kernel
theorem dX10_isYoungLink_13 : decode cX10_isYoungLink 13 = .ok (.istore_n 3, 1) := by decide +kernel
theorem dX10_isYoungLink_14 : decode cX10_isYoungLink 14 = .ok (.iload_n 3, 1) := by decide +kernel
theorem dX10_isYoungLink_15 : decode cX10_isYoungLink 15 = .ok (.iconst (-1), 1) := by decide +kernel
theorem dX10_isYoungLink_16 : decode cX10_isYoungLink 16 = .ok (.if_icmp .eq 15, 3) := by decide +kernel
theorem dX10_isYoungLink_19 : decode cX10_isYoungLink 19 = .ok (.aload_n 0, 1) := by decide +kernel
theorem dX10_isYoungLink_20 : decode cX10_isYoungLink 20 = .ok (.iload_n 3, 1) := by decide +kernel
theorem dX10_isYoungLink_21 : decode cX10_isYoungLink 21 = .ok (.invokestatic 184, 3) := by decide +kernel
theorem dX10_isYoungLink_24 : decode cX10_isYoungLink 24 = .ok (.ifCond .ne 7, 3) := by decide +kernel
theorem dX10_isYoungLink_27 : decode cX10_isYoungLink 27 = .ok (.iconst 1, 1) := by decide +kernel
theorem dX10_isYoungLink_28 : decode cX10_isYoungLink 28 = .ok (.goto 4, 3) := by decide +kernel
theorem dX10_isYoungLink_31 : decode cX10_isYoungLink 31 = .ok (.iconst 0, 1) := by decide +kernel
theorem dX10_isYoungLink_32 : decode cX10_isYoungLink 32 = .ok (.ireturn, 1) := by decide +kernel
theorem dX10_spotOfKept_0 : decode cX10_spotOfKept 0 = .ok (.iconst 0, 1) := by decide +kernel
theorem dX10_spotOfKept_1 : decode cX10_spotOfKept 1 = .ok (.istore_n 3, 1) := by decide +kernel
theorem dX10_spotOfKept_2 : decode cX10_spotOfKept 2 = .ok (.iload_n 3, 1) := by decide +kernel
theorem dX10_spotOfKept_3 : decode cX10_spotOfKept 3 = .ok (.aload_n 0, 1) := by decide +kernel
theorem dX10_spotOfKept_4 : decode cX10_spotOfKept 4 = .ok (.sipush 889, 3) := by decide +kernel
theorem dX10_spotOfKept_7 : decode cX10_spotOfKept 7 = .ok (.iaload, 1) := by decide +kernel
theorem dX10_spotOfKept_8 : decode cX10_spotOfKept 8 = .ok (.if_icmp .ge 37, 3) := by decide +kernel
theorem dX10_spotOfKept_11 : decode cX10_spotOfKept 11 = .ok (.aload_n 0, 1) := by decide +kernel
theorem dX10_spotOfKept_12 : decode cX10_spotOfKept 12 = .ok (.sipush 890, 3) := by decide +kernel
theorem dX10_spotOfKept_15 : decode cX10_spotOfKept 15 = .ok (.iconst 2, 1) := by decide +kernel
theorem dX10_spotOfKept_16 : decode cX10_spotOfKept 16 = .ok (.iload_n 3, 1) := by decide +kernel
theorem dX10_spotOfKept_17 : decode cX10_spotOfKept 17 = .ok (.imul, 1) := by decide +kernel
theorem dX10_spotOfKept_18 : decode cX10_spotOfKept 18 = .ok (.iadd, 1) := by decide +kernel
theorem dX10_spotOfKept_19 : decode cX10_spotOfKept 19 = .ok (.iaload, 1) := by decide +kernel
theorem dX10_spotOfKept_20 : decode cX10_spotOfKept 20 = .ok (.iload_n 1, 1) := by decide +kernel
theorem dX10_spotOfKept_21 : decode cX10_spotOfKept 21 = .ok (.if_icmp .ne 18, 3) := by decide +kernel
theorem dX10_spotOfKept_24 : decode cX10_spotOfKept 24 = .ok (.aload_n 0, 1) := by decide +kernel
theorem dX10_spotOfKept_25 : decode cX10_spotOfKept 25 = .ok (.sipush 891, 3) := by decide +kernel
theorem dX10_spotOfKept_28 : decode cX10_spotOfKept 28 = .ok (.iconst 2, 1) := by decide +kernel
theorem dX10_spotOfKept_29 : decode cX10_spotOfKept 29 = .ok (.iload_n 3, 1) := by decide +kernel
theorem dX10_spotOfKept_30 : decode cX10_spotOfKept 30 = .ok (.imul, 1) := by decide +kernel
theorem dX10_spotOfKept_31 : decode cX10_spotOfKept 31 = .ok (.iadd, 1) := by decide +kernel
theorem dX10_spotOfKept_32 : decode cX10_spotOfKept 32 = .ok (.iaload, 1) := by decide +kernel
theorem dX10_spotOfKept_33 : decode cX10_spotOfKept 33 = .ok (.iload_n 2, 1) := by decide +kernel
theorem dX10_spotOfKept_34 : decode cX10_spotOfKept 34 = .ok (.if_icmp .ne 5, 3) := by decide +kernel
theorem dX10_spotOfKept_37 : decode cX10_spotOfKept 37 = .ok (.iload_n 3, 1) := by decide +kernel
theorem dX10_spotOfKept_38 : decode cX10_spotOfKept 38 = .ok (.ireturn, 1) := by decide +kernel
theorem dX10_spotOfKept_39 : decode cX10_spotOfKept 39 = .ok (.iinc 3 1, 3) := by decide +kernel
theorem dX10_spotOfKept_42 : decode cX10_spotOfKept 42 = .ok (.goto (-40), 3) := by decide +kernel
theorem dX10_spotOfKept_45 : decode cX10_spotOfKept 45 = .ok (.iconst (-1), 1) := by decide +kernel
theorem dX10_spotOfKept_46 : decode cX10_spotOfKept 46 = .ok (.ireturn, 1) := by decide +kernel
theorem dX10_keeps_0 : decode cX10_keeps 0 = .ok (.aload_n 0, 1) := by decide +kernel
theorem dX10_keeps_1 : decode cX10_keeps 1 = .ok (.iload_n 1, 1) := by decide +kernel
theorem dX10_keeps_2 : decode cX10_keeps 2 = .ok (.invokestatic 184, 3) := by decide +kernel
theorem dX10_keeps_5 : decode cX10_keeps 5 = .ok (.ifCond .eq 27, 3) := by decide +kernel
theorem dX10_keeps_8 : decode cX10_keeps 8 = .ok (.aload_n 0, 1) := by decide +kernel
theorem dX10_keeps_9 : decode cX10_keeps 9 = .ok (.iload_n 1, 1) := by decide +kernel
theorem dX10_keeps_10 : decode cX10_keeps 10 = .ok (.iload_n 2, 1) := by decide +kernel
theorem dX10_keeps_11 : decode cX10_keeps 11 = .ok (.invokestatic 188, 3) := by decide +kernel
theorem dX10_keeps_14 : decode cX10_keeps 14 = .ok (.ifCond .eq 18, 3) := by decide +kernel
theorem dX10_keeps_17 : decode cX10_keeps 17 = .ok (.aload_n 0, 1) := by decide +kernel
theorem dX10_keeps_18 : decode cX10_keeps 18 = .ok (.aload_n 0, 1) := by decide +kernel
theorem dX10_keeps_19 : decode cX10_keeps 19 = .ok (.iload_n 1, 1) := by decide +kernel
theorem dX10_keeps_20 : decode cX10_keeps 20 = .ok (.iconst 0, 1) := by decide +kernel
theorem dX10_keeps_21 : decode cX10_keeps 21 = .ok (.invokestatic 167, 3) := by decide +kernel
theorem dX10_keeps_24 : decode cX10_keeps 24 = .ok (.iload_n 2, 1) := by decide +kernel
theorem dX10_keeps_25 : decode cX10_keeps 25 = .ok (.invokestatic 192, 3) := by decide +kernel
theorem dX10_keeps_28 : decode cX10_keeps 28 = .ok (.iconst (-1), 1) := by decide +kernel
theorem dX10_keeps_29 : decode cX10_keeps 29 = .ok (.if_icmp .eq 4, 3) := by decide +kernel
theorem dX10_keeps_32 : decode cX10_keeps 32 = .ok (.return_, 1) := by decide +kernel
theorem dX10_keeps_33 : decode cX10_keeps 33 = .ok (.aload_n 0, 1) := by decide +kernel
theorem dX10_keeps_34 : decode cX10_keeps 34 = .ok (.sipush 890, 3) := by decide +kernel
theorem dX10_keeps_37 : decode cX10_keeps 37 = .ok (.iconst 2, 1) := by decide +kernel
theorem dX10_keeps_38 : decode cX10_keeps 38 = .ok (.aload_n 0, 1) := by decide +kernel
theorem dX10_keeps_39 : decode cX10_keeps 39 = .ok (.sipush 889, 3) := by decide +kernel
theorem dX10_keeps_42 : decode cX10_keeps 42 = .ok (.iaload, 1) := by decide +kernel
theorem dX10_keeps_43 : decode cX10_keeps 43 = .ok (.imul, 1) := by decide +kernel
theorem dX10_keeps_44 : decode cX10_keeps 44 = .ok (.iadd, 1) := by decide +kernel
theorem dX10_keeps_45 : decode cX10_keeps 45 = .ok (.aload_n 0, 1) := by decide +kernel
theorem dX10_keeps_46 : decode cX10_keeps 46 = .ok (.iload_n 1, 1) := by decide +kernel
theorem dX10_keeps_47 : decode cX10_keeps 47 = .ok (.iconst 0, 1) := by decide +kernel
theorem dX10_keeps_48 : decode cX10_keeps 48 = .ok (.invokestatic 167, 3) := by decide +kernel
theorem dX10_keeps_51 : decode cX10_keeps 51 = .ok (.iastore, 1) := by decide +kernel
theorem dX10_keeps_52 : decode cX10_keeps 52 = .ok (.aload_n 0, 1) := by decide +kernel
theorem dX10_keeps_53 : decode cX10_keeps 53 = .ok (.sipush 891, 3) := by decide +kernel
theorem dX10_keeps_56 : decode cX10_keeps 56 = .ok (.iconst 2, 1) := by decide +kernel
theorem dX10_keeps_57 : decode cX10_keeps 57 = .ok (.aload_n 0, 1) := by decide +kernel
theorem dX10_keeps_58 : decode cX10_keeps 58 = .ok (.sipush 889, 3) := by decide +kernel
theorem dX10_keeps_61 : decode cX10_keeps 61 = .ok (.iaload, 1) := by decide +kernel
theorem dX10_keeps_62 : decode cX10_keeps 62 = .ok (.imul, 1) := by decide +kernel
theorem dX10_keeps_63 : decode cX10_keeps 63 = .ok (.iadd, 1) := by decide +kernel
theorem dX10_keeps_64 : decode cX10_keeps 64 = .ok (.iload_n 2, 1) := by decide +kernel
theorem dX10_keeps_65 : decode cX10_keeps 65 = .ok (.iastore, 1) := by decide +kernel
theorem dX10_keeps_66 : decode cX10_keeps 66 = .ok (.aload_n 0, 1) := by decide +kernel
theorem dX10_keeps_67 : decode cX10_keeps 67 = .ok (.sipush 889, 3) := by decide +kernel
theorem dX10_keeps_70 : decode cX10_keeps 70 = .ok (.dup2, 1) := by decide +kernel
theorem dX10_keeps_71 : decode cX10_keeps 71 = .ok (.iaload, 1) := by decide +kernel
theorem dX10_keeps_72 : decode cX10_keeps 72 = .ok (.iconst 1, 1) := by decide +kernel
theorem dX10_keeps_73 : decode cX10_keeps 73 = .ok (.iadd, 1) := by decide +kernel
theorem dX10_keeps_74 : decode cX10_keeps 74 = .ok (.iastore, 1) := by decide +kernel
theorem dX10_keeps_75 : decode cX10_keeps 75 = .ok (.return_, 1) := by decide +kernel
theorem dX10_sifts_0 : decode cX10_sifts 0 = .ok (.iconst 0, 1) := by decide +kernel
theorem dX10_sifts_1 : decode cX10_sifts 1 = .ok (.istore_n 1, 1) := by decide +kernel
theorem dX10_sifts_2 : decode cX10_sifts 2 = .ok (.iconst 0, 1) := by decide +kernel
theorem dX10_sifts_3 : decode cX10_sifts 3 = .ok (.istore_n 2, 1) := by decide +kernel
theorem dX10_sifts_4 : decode cX10_sifts 4 = .ok (.iload_n 2, 1) := by decide +kernel
theorem dX10_sifts_5 : decode cX10_sifts 5 = .ok (.aload_n 0, 1) := by decide +kernel
theorem dX10_sifts_6 : decode cX10_sifts 6 = .ok (.sipush 889, 3) := by decide +kernel
theorem dX10_sifts_9 : decode cX10_sifts 9 = .ok (.iaload, 1) := by decide +kernel
theorem dX10_sifts_10 : decode cX10_sifts 10 = .ok (.if_icmp .ge 81, 3) := by decide +kernel
theorem dX10_sifts_13 : decode cX10_sifts 13 = .ok (.aload_n 0, 1) := by decide +kernel
theorem dX10_sifts_14 : decode cX10_sifts 14 = .ok (.sipush 890, 3) := by decide +kernel
theorem dX10_sifts_17 : decode cX10_sifts 17 = .ok (.iconst 2, 1) := by decide +kernel
theorem dX10_sifts_18 : decode cX10_sifts 18 = .ok (.iload_n 2, 1) := by decide +kernel
theorem dX10_sifts_19 : decode cX10_sifts 19 = .ok (.imul, 1) := by decide +kernel
theorem dX10_sifts_20 : decode cX10_sifts 20 = .ok (.iadd, 1) := by decide +kernel
theorem dX10_sifts_21 : decode cX10_sifts 21 = .ok (.iaload, 1) := by decide +kernel
theorem dX10_sifts_22 : decode cX10_sifts 22 = .ok (.istore_n 3, 1) := by decide +kernel
theorem dX10_sifts_23 : decode cX10_sifts 23 = .ok (.aload_n 0, 1) := by decide +kernel
theorem dX10_sifts_24 : decode cX10_sifts 24 = .ok (.sipush 891, 3) := by decide +kernel
theorem dX10_sifts_27 : decode cX10_sifts 27 = .ok (.iconst 2, 1) := by decide +kernel
theorem dX10_sifts_28 : decode cX10_sifts 28 = .ok (.iload_n 2, 1) := by decide +kernel
theorem dX10_sifts_29 : decode cX10_sifts 29 = .ok (.imul, 1) := by decide +kernel
theorem dX10_sifts_30 : decode cX10_sifts 30 = .ok (.iadd, 1) := by decide +kernel
theorem dX10_sifts_31 : decode cX10_sifts 31 = .ok (.iaload, 1) := by decide +kernel
theorem dX10_sifts_32 : decode cX10_sifts 32 = .ok (.istore 4, 2) := by decide +kernel
theorem dX10_sifts_34 : decode cX10_sifts 34 = .ok (.aload_n 0, 1) := by decide +kernel
theorem dX10_sifts_35 : decode cX10_sifts 35 = .ok (.iload_n 3, 1) := by decide +kernel
theorem dX10_sifts_36 : decode cX10_sifts 36 = .ok (.invokestatic 182, 3) := by decide +kernel
theorem dX10_sifts_39 : decode cX10_sifts 39 = .ok (.istore 5, 2) := by decide +kernel
theorem dX10_sifts_41 : decode cX10_sifts 41 = .ok (.iload 5, 2) := by decide +kernel
theorem dX10_sifts_43 : decode cX10_sifts 43 = .ok (.iconst (-1), 1) := by decide +kernel
theorem dX10_sifts_44 : decode cX10_sifts 44 = .ok (.if_icmp .eq 41, 3) := by decide +kernel
theorem dX10_sifts_47 : decode cX10_sifts 47 = .ok (.aload_n 0, 1) := by decide +kernel
theorem dX10_sifts_48 : decode cX10_sifts 48 = .ok (.iload 5, 2) := by decide +kernel
theorem dX10_sifts_50 : decode cX10_sifts 50 = .ok (.iload 4, 2) := by decide +kernel
theorem dX10_sifts_52 : decode cX10_sifts 52 = .ok (.invokestatic 188, 3) := by decide +kernel
theorem dX10_sifts_55 : decode cX10_sifts 55 = .ok (.ifCond .ne 6, 3) := by decide +kernel
theorem dX10_sifts_58 : decode cX10_sifts 58 = .ok (.goto 27, 3) := by decide +kernel
theorem dX10_sifts_61 : decode cX10_sifts 61 = .ok (.aload_n 0, 1) := by decide +kernel
theorem dX10_sifts_62 : decode cX10_sifts 62 = .ok (.sipush 890, 3) := by decide +kernel
theorem dX10_sifts_65 : decode cX10_sifts 65 = .ok (.iconst 2, 1) := by decide +kernel
theorem dX10_sifts_66 : decode cX10_sifts 66 = .ok (.iload_n 1, 1) := by decide +kernel
theorem dX10_sifts_67 : decode cX10_sifts 67 = .ok (.imul, 1) := by decide +kernel
theorem dX10_sifts_68 : decode cX10_sifts 68 = .ok (.iadd, 1) := by decide +kernel
theorem dX10_sifts_69 : decode cX10_sifts 69 = .ok (.iload_n 3, 1) := by decide +kernel
theorem dX10_sifts_70 : decode cX10_sifts 70 = .ok (.iastore, 1) := by decide +kernel
theorem dX10_sifts_71 : decode cX10_sifts 71 = .ok (.aload_n 0, 1) := by decide +kernel
theorem dX10_sifts_72 : decode cX10_sifts 72 = .ok (.sipush 891, 3) := by decide +kernel
theorem dX10_sifts_75 : decode cX10_sifts 75 = .ok (.iconst 2, 1) := by decide +kernel
theorem dX10_sifts_76 : decode cX10_sifts 76 = .ok (.iload_n 1, 1) := by decide +kernel
theorem dX10_sifts_77 : decode cX10_sifts 77 = .ok (.imul, 1) := by decide +kernel
theorem dX10_sifts_78 : decode cX10_sifts 78 = .ok (.iadd, 1) := by decide +kernel
theorem dX10_sifts_79 : decode cX10_sifts 79 = .ok (.iload 4, 2) := by decide +kernel
theorem dX10_sifts_81 : decode cX10_sifts 81 = .ok (.iastore, 1) := by decide +kernel
theorem dX10_sifts_82 : decode cX10_sifts 82 = .ok (.iinc 1 1, 3) := by decide +kernel
theorem dX10_sifts_85 : decode cX10_sifts 85 = .ok (.iinc 2 1, 3) := by decide +kernel
theorem dX10_sifts_88 : decode cX10_sifts 88 = .ok (.goto (-84), 3) := by decide +kernel
theorem dX10_sifts_91 : decode cX10_sifts 91 = .ok (.aload_n 0, 1) := by decide +kernel
theorem dX10_sifts_92 : decode cX10_sifts 92 = .ok (.sipush 889, 3) := by decide +kernel
theorem dX10_sifts_95 : decode cX10_sifts 95 = .ok (.iload_n 1, 1) := by decide +kernel
theorem dX10_sifts_96 : decode cX10_sifts 96 = .ok (.iastore, 1) := by decide +kernel
theorem dX10_sifts_97 : decode cX10_sifts 97 = .ok (.return_, 1) := by decide +kernel
theorem dX10_begins_0 : decode cX10_begins 0 = .ok (.iconst 0, 1) := by decide +kernel
theorem dX10_begins_1 : decode cX10_begins 1 = .ok (.istore_n 1, 1) := by decide +kernel
theorem dX10_begins_2 : decode cX10_begins 2 = .ok (.iload_n 1, 1) := by decide +kernel
theorem dX10_begins_3 : decode cX10_begins 3 = .ok (.bipush 80, 2) := by decide +kernel
theorem dX10_begins_5 : decode cX10_begins 5 = .ok (.if_icmp .ge 16, 3) := by decide +kernel
theorem dX10_begins_8 : decode cX10_begins 8 = .ok (.aload_n 0, 1) := by decide +kernel
theorem dX10_begins_9 : decode cX10_begins 9 = .ok (.getfield 45, 3) := by decide +kernel
theorem dX10_begins_12 : decode cX10_begins 12 = .ok (.iload_n 1, 1) := by decide +kernel
theorem dX10_begins_13 : decode cX10_begins 13 = .ok (.iconst 0, 1) := by decide +kernel
theorem dX10_begins_14 : decode cX10_begins 14 = .ok (.bastore, 1) := by decide +kernel
theorem dX10_begins_15 : decode cX10_begins 15 = .ok (.iinc 1 1, 3) := by decide +kernel
theorem dX10_begins_18 : decode cX10_begins 18 = .ok (.goto (-16), 3) := by decide +kernel
theorem dX10_begins_21 : decode cX10_begins 21 = .ok (.aload_n 0, 1) := by decide +kernel
theorem dX10_begins_22 : decode cX10_begins 22 = .ok (.iconst 0, 1) := by decide +kernel
theorem dX10_begins_23 : decode cX10_begins 23 = .ok (.putfield 195, 3) := by decide +kernel
theorem dX10_begins_26 : decode cX10_begins 26 = .ok (.aload_n 0, 1) := by decide +kernel
theorem dX10_begins_27 : decode cX10_begins 27 = .ok (.iconst 0, 1) := by decide +kernel
theorem dX10_begins_28 : decode cX10_begins 28 = .ok (.putfield 198, 3) := by decide +kernel
theorem dX10_begins_31 : decode cX10_begins 31 = .ok (.return_, 1) := by decide +kernel
theorem dX10_marks_0 : decode cX10_marks 0 = .ok (.iload_n 1, 1) := by decide +kernel
theorem dX10_marks_1 : decode cX10_marks 1 = .ok (.iconst (-1), 1) := by decide +kernel
theorem dX10_marks_2 : decode cX10_marks 2 = .ok (.if_icmp .eq 12, 3) := by decide +kernel
theorem dX10_marks_5 : decode cX10_marks 5 = .ok (.aload_n 0, 1) := by decide +kernel
theorem dX10_marks_6 : decode cX10_marks 6 = .ok (.getfield 45, 3) := by decide +kernel
theorem dX10_marks_9 : decode cX10_marks 9 = .ok (.iload_n 1, 1) := by decide +kernel
theorem dX10_marks_10 : decode cX10_marks 10 = .ok (.baload, 1) := by decide +kernel
theorem dX10_marks_11 : decode cX10_marks 11 = .ok (.ifCond .eq 4, 3) := by decide +kernel
theorem dX10_marks_14 : decode cX10_marks 14 = .ok (.return_, 1) := by decide +kernel
theorem dX10_marks_15 : decode cX10_marks 15 = .ok (.aload_n 0, 1) := by decide +kernel
theorem dX10_marks_16 : decode cX10_marks 16 = .ok (.getfield 45, 3) := by decide +kernel
theorem dX10_marks_19 : decode cX10_marks 19 = .ok (.iload_n 1, 1) := by decide +kernel
theorem dX10_marks_20 : decode cX10_marks 20 = .ok (.iconst 1, 1) := by decide +kernel
theorem dX10_marks_21 : decode cX10_marks 21 = .ok (.bastore, 1) := by decide +kernel
theorem dX10_marks_22 : decode cX10_marks 22 = .ok (.aload_n 0, 1) := by decide +kernel
theorem dX10_marks_23 : decode cX10_marks 23 = .ok (.getfield 49, 3) := by decide +kernel
theorem dX10_marks_26 : decode cX10_marks 26 = .ok (.aload_n 0, 1) := by decide +kernel
theorem dX10_marks_27 : decode cX10_marks 27 = .ok (.getfield 195, 3) := by decide +kernel
theorem dX10_marks_30 : decode cX10_marks 30 = .ok (.iload_n 1, 1) := by decide +kernel
theorem dX10_marks_31 : decode cX10_marks 31 = .ok (.iastore, 1) := by decide +kernel
theorem dX10_marks_32 : decode cX10_marks 32 = .ok (.aload_n 0, 1) := by decide +kernel
theorem dX10_marks_33 : decode cX10_marks 33 = .ok (.dup, 1) := by decide +kernel
theorem dX10_marks_34 : decode cX10_marks 34 = .ok (.getfield 195, 3) := by decide +kernel
theorem dX10_marks_37 : decode cX10_marks 37 = .ok (.iconst 1, 1) := by decide +kernel
theorem dX10_marks_38 : decode cX10_marks 38 = .ok (.iadd, 1) := by decide +kernel
theorem dX10_marks_39 : decode cX10_marks 39 = .ok (.putfield 195, 3) := by decide +kernel
theorem dX10_marks_42 : decode cX10_marks 42 = .ok (.return_, 1) := by decide +kernel
theorem dX10_marksAll_0 : decode cX10_marksAll 0 = .ok (.iload_n 2, 1) := by decide +kernel
theorem dX10_marksAll_1 : decode cX10_marksAll 1 = .ok (.istore_n 3, 1) := by decide +kernel
theorem dX10_marksAll_2 : decode cX10_marksAll 2 = .ok (.iload_n 3, 1) := by decide +kernel
theorem dX10_marksAll_3 : decode cX10_marksAll 3 = .ok (.aload_n 0, 1) := by decide +kernel
theorem dX10_marksAll_4 : decode cX10_marksAll 4 = .ok (.getfield 195, 3) := by decide +kernel
theorem dX10_marksAll_7 : decode cX10_marksAll 7 = .ok (.if_icmp .ge 68, 3) := by decide +kernel
theorem dX10_marksAll_10 : decode cX10_marksAll 10 = .ok (.aload_n 0, 1) := by decide +kernel
theorem dX10_marksAll_11 : decode cX10_marksAll 11 = .ok (.getfield 49, 3) := by decide +kernel
theorem dX10_marksAll_14 : decode cX10_marksAll 14 = .ok (.iload_n 3, 1) := by decide +kernel
theorem dX10_marksAll_15 : decode cX10_marksAll 15 = .ok (.iaload, 1) := by decide +kernel
theorem dX10_marksAll_16 : decode cX10_marksAll 16 = .ok (.istore 4, 2) := by decide +kernel
theorem dX10_marksAll_18 : decode cX10_marksAll 18 = .ok (.iconst 0, 1) := by decide +kernel
theorem dX10_marksAll_19 : decode cX10_marksAll 19 = .ok (.istore 5, 2) := by decide +kernel
theorem dX10_marksAll_21 : decode cX10_marksAll 21 = .ok (.iload 5, 2) := by decide +kernel
theorem dX10_marksAll_23 : decode cX10_marksAll 23 = .ok (.aload_n 1, 1) := by decide +kernel
theorem dX10_marksAll_24 : decode cX10_marksAll 24 = .ok (.iload 4, 2) := by decide +kernel
theorem dX10_marksAll_26 : decode cX10_marksAll 26 = .ok (.iconst 2, 1) := by decide +kernel
theorem dX10_marksAll_27 : decode cX10_marksAll 27 = .ok (.invokestatic 167, 3) := by decide +kernel
theorem dX10_marksAll_30 : decode cX10_marksAll 30 = .ok (.if_icmp .ge 39, 3) := by decide +kernel
theorem dX10_marksAll_33 : decode cX10_marksAll 33 = .ok (.aload_n 1, 1) := by decide +kernel
theorem dX10_marksAll_34 : decode cX10_marksAll 34 = .ok (.iload 4, 2) := by decide +kernel
theorem dX10_marksAll_36 : decode cX10_marksAll 36 = .ok (.iload 5, 2) := by decide +kernel
theorem dX10_marksAll_38 : decode cX10_marksAll 38 = .ok (.invokestatic 201, 3) := by decide +kernel
theorem dX10_marksAll_41 : decode cX10_marksAll 41 = .ok (.ifCond .ne 22, 3) := by decide +kernel
theorem dX10_marksAll_44 : decode cX10_marksAll 44 = .ok (.aload_n 0, 1) := by decide +kernel
theorem dX10_marksAll_45 : decode cX10_marksAll 45 = .ok (.aload_n 1, 1) := by decide +kernel
theorem dX10_marksAll_46 : decode cX10_marksAll 46 = .ok (.aload_n 1, 1) := by decide +kernel
theorem dX10_marksAll_47 : decode cX10_marksAll 47 = .ok (.iload 4, 2) := by decide +kernel
theorem dX10_marksAll_49 : decode cX10_marksAll 49 = .ok (.bipush 7, 2) := by decide +kernel
theorem dX10_marksAll_51 : decode cX10_marksAll 51 = .ok (.iload 5, 2) := by decide +kernel
theorem dX10_marksAll_53 : decode cX10_marksAll 53 = .ok (.iadd, 1) := by decide +kernel
theorem dX10_marksAll_54 : decode cX10_marksAll 54 = .ok (.invokestatic 167, 3) := by decide +kernel
theorem dX10_marksAll_57 : decode cX10_marksAll 57 = .ok (.invokestatic 182, 3) := by decide +kernel
theorem dX10_marksAll_60 : decode cX10_marksAll 60 = .ok (.invokevirtual 204, 3) := by decide +kernel
theorem dX10_marksAll_63 : decode cX10_marksAll 63 = .ok (.iinc 5 1, 3) := by decide +kernel
theorem dX10_marksAll_66 : decode cX10_marksAll 66 = .ok (.goto (-45), 3) := by decide +kernel
theorem dX10_marksAll_69 : decode cX10_marksAll 69 = .ok (.iinc 3 1, 3) := by decide +kernel
theorem dX10_marksAll_72 : decode cX10_marksAll 72 = .ok (.goto (-70), 3) := by decide +kernel
theorem dX10_marksAll_75 : decode cX10_marksAll 75 = .ok (.return_, 1) := by decide +kernel
theorem dX10_reaches_0 : decode cX10_reaches 0 = .ok (.aload_n 0, 1) := by decide +kernel
theorem dX10_reaches_1 : decode cX10_reaches 1 = .ok (.invokevirtual 207, 3) := by decide +kernel
theorem dX10_reaches_4 : decode cX10_reaches 4 = .ok (.iconst 0, 1) := by decide +kernel
theorem dX10_reaches_5 : decode cX10_reaches 5 = .ok (.istore 4, 2) := by decide +kernel
theorem dX10_reaches_7 : decode cX10_reaches 7 = .ok (.iload 4, 2) := by decide +kernel
theorem dX10_reaches_9 : decode cX10_reaches 9 = .ok (.bipush 8, 2) := by decide +kernel
theorem dX10_reaches_11 : decode cX10_reaches 11 = .ok (.if_icmp .ge 31, 3) := by decide +kernel
theorem dX10_reaches_14 : decode cX10_reaches 14 = .ok (.iload 4, 2) := by decide +kernel
theorem dX10_reaches_16 : decode cX10_reaches 16 = .ok (.iload_n 2, 1) := by decide +kernel
theorem dX10_reaches_17 : decode cX10_reaches 17 = .ok (.if_icmp .eq 19, 3) := by decide +kernel
theorem dX10_reaches_20 : decode cX10_reaches 20 = .ok (.aload_n 0, 1) := by decide +kernel
theorem dX10_reaches_21 : decode cX10_reaches 21 = .ok (.aload_n 1, 1) := by decide +kernel
theorem dX10_reaches_22 : decode cX10_reaches 22 = .ok (.aload_n 1, 1) := by decide +kernel
theorem dX10_reaches_23 : decode cX10_reaches 23 = .ok (.sipush 881, 3) := by decide +kernel
theorem dX10_reaches_26 : decode cX10_reaches 26 = .ok (.iload 4, 2) := by decide +kernel
theorem dX10_reaches_28 : decode cX10_reaches 28 = .ok (.iadd, 1) := by decide +kernel
theorem dX10_reaches_29 : decode cX10_reaches 29 = .ok (.iaload, 1) := by decide +kernel
theorem dX10_reaches_30 : decode cX10_reaches 30 = .ok (.invokestatic 182, 3) := by decide +kernel
theorem dX10_reaches_33 : decode cX10_reaches 33 = .ok (.invokevirtual 204, 3) := by decide +kernel
theorem dX10_reaches_36 : decode cX10_reaches 36 = .ok (.iinc 4 1, 3) := by decide +kernel
theorem dX10_reaches_39 : decode cX10_reaches 39 = .ok (.goto (-32), 3) := by decide +kernel
theorem dX10_reaches_42 : decode cX10_reaches 42 = .ok (.iconst 0, 1) := by decide +kernel
theorem dX10_reaches_43 : decode cX10_reaches 43 = .ok (.istore 4, 2) := by decide +kernel
theorem dX10_reaches_45 : decode cX10_reaches 45 = .ok (.iload_n 3, 1) := by decide +kernel
theorem dX10_reaches_46 : decode cX10_reaches 46 = .ok (.ifCond .eq 35, 3) := by decide +kernel
theorem dX10_reaches_49 : decode cX10_reaches 49 = .ok (.iload 4, 2) := by decide +kernel
theorem dX10_reaches_51 : decode cX10_reaches 51 = .ok (.aload_n 1, 1) := by decide +kernel
theorem dX10_reaches_52 : decode cX10_reaches 52 = .ok (.sipush 1242, 3) := by decide +kernel
theorem dX10_reaches_55 : decode cX10_reaches 55 = .ok (.iaload, 1) := by decide +kernel
theorem dX10_reaches_56 : decode cX10_reaches 56 = .ok (.if_icmp .ge 25, 3) := by decide +kernel
theorem dX10_reaches_59 : decode cX10_reaches 59 = .ok (.aload_n 0, 1) := by decide +kernel
theorem dX10_reaches_60 : decode cX10_reaches 60 = .ok (.aload_n 1, 1) := by decide +kernel
theorem dX10_reaches_61 : decode cX10_reaches 61 = .ok (.aload_n 1, 1) := by decide +kernel
theorem dX10_reaches_62 : decode cX10_reaches 62 = .ok (.sipush 1243, 3) := by decide +kernel
theorem dX10_reaches_65 : decode cX10_reaches 65 = .ok (.iload 4, 2) := by decide +kernel
theorem dX10_reaches_67 : decode cX10_reaches 67 = .ok (.iadd, 1) := by decide +kernel
theorem dX10_reaches_68 : decode cX10_reaches 68 = .ok (.iaload, 1) := by decide +kernel
theorem dX10_reaches_69 : decode cX10_reaches 69 = .ok (.invokestatic 182, 3) := by decide +kernel
theorem dX10_reaches_72 : decode cX10_reaches 72 = .ok (.invokevirtual 204, 3) := by decide +kernel
theorem dX10_reaches_75 : decode cX10_reaches 75 = .ok (.iinc 4 1, 3) := by decide +kernel
theorem dX10_reaches_78 : decode cX10_reaches 78 = .ok (.goto (-33), 3) := by decide +kernel
theorem dX10_reaches_81 : decode cX10_reaches 81 = .ok (.aload_n 0, 1) := by decide +kernel
theorem dX10_reaches_82 : decode cX10_reaches 82 = .ok (.aload_n 1, 1) := by decide +kernel
theorem dX10_reaches_83 : decode cX10_reaches 83 = .ok (.iconst 0, 1) := by decide +kernel
theorem dX10_reaches_84 : decode cX10_reaches 84 = .ok (.invokevirtual 210, 3) := by decide +kernel
theorem dX10_reaches_87 : decode cX10_reaches 87 = .ok (.return_, 1) := by decide +kernel
theorem dX10_isLost_0 : decode cX10_isLost 0 = .ok (.aload_n 0, 1) := by decide +kernel
theorem dX10_isLost_1 : decode cX10_isLost 1 = .ok (.sipush 1323, 3) := by decide +kernel
theorem dX10_isLost_4 : decode cX10_isLost 4 = .ok (.iaload, 1) := by decide +kernel
theorem dX10_isLost_5 : decode cX10_isLost 5 = .ok (.bipush 40, 2) := by decide +kernel
theorem dX10_isLost_7 : decode cX10_isLost 7 = .ok (.if_icmp .ne 42, 3) := by decide +kernel
theorem dX10_isLost_10 : decode cX10_isLost 10 = .ok (.iconst 1, 1) := by decide +kernel
theorem dX10_isLost_11 : decode cX10_isLost 11 = .ok (.istore_n 2, 1) := by decide +kernel
theorem dX10_isLost_12 : decode cX10_isLost 12 = .ok (.iload_n 2, 1) := by decide +kernel
theorem dX10_isLost_13 : decode cX10_isLost 13 = .ok (.bipush 40, 2) := by decide +kernel
theorem dX10_isLost_15 : decode cX10_isLost 15 = .ok (.if_icmp .ge 25, 3) := by decide +kernel
theorem dX10_isLost_18 : decode cX10_isLost 18 = .ok (.aload_n 0, 1) := by decide +kernel
theorem dX10_isLost_19 : decode cX10_isLost 19 = .ok (.sipush 1323, 3) := by decide +kernel
theorem dX10_isLost_22 : decode cX10_isLost 22 = .ok (.iload_n 2, 1) := by decide +kernel
theorem dX10_isLost_23 : decode cX10_isLost 23 = .ok (.iadd, 1) := by decide +kernel
theorem dX10_isLost_24 : decode cX10_isLost 24 = .ok (.aload_n 0, 1) := by decide +kernel
theorem dX10_isLost_25 : decode cX10_isLost 25 = .ok (.sipush 1323, 3) := by decide +kernel
theorem dX10_isLost_28 : decode cX10_isLost 28 = .ok (.iload_n 2, 1) := by decide +kernel
theorem dX10_isLost_29 : decode cX10_isLost 29 = .ok (.iadd, 1) := by decide +kernel
theorem dX10_isLost_30 : decode cX10_isLost 30 = .ok (.iconst 1, 1) := by decide +kernel
theorem dX10_isLost_31 : decode cX10_isLost 31 = .ok (.iadd, 1) := by decide +kernel
theorem dX10_isLost_32 : decode cX10_isLost 32 = .ok (.iaload, 1) := by decide +kernel
theorem dX10_isLost_33 : decode cX10_isLost 33 = .ok (.iastore, 1) := by decide +kernel
theorem dX10_isLost_34 : decode cX10_isLost 34 = .ok (.iinc 2 1, 3) := by decide +kernel
theorem dX10_isLost_37 : decode cX10_isLost 37 = .ok (.goto (-25), 3) := by decide +kernel
theorem dX10_isLost_40 : decode cX10_isLost 40 = .ok (.aload_n 0, 1) := by decide +kernel
theorem dX10_isLost_41 : decode cX10_isLost 41 = .ok (.sipush 1323, 3) := by decide +kernel
theorem dX10_isLost_44 : decode cX10_isLost 44 = .ok (.dup2, 1) := by decide +kernel
theorem dX10_isLost_45 : decode cX10_isLost 45 = .ok (.iaload, 1) := by decide +kernel
theorem dX10_isLost_46 : decode cX10_isLost 46 = .ok (.iconst 1, 1) := by decide +kernel
theorem dX10_isLost_47 : decode cX10_isLost 47 = .ok (.isub, 1) := by decide +kernel
theorem dX10_isLost_48 : decode cX10_isLost 48 = .ok (.iastore, 1) := by decide +kernel
theorem dX10_isLost_49 : decode cX10_isLost 49 = .ok (.aload_n 0, 1) := by decide +kernel
theorem dX10_isLost_50 : decode cX10_isLost 50 = .ok (.sipush 1324, 3) := by decide +kernel
theorem dX10_isLost_53 : decode cX10_isLost 53 = .ok (.aload_n 0, 1) := by decide +kernel
theorem dX10_isLost_54 : decode cX10_isLost 54 = .ok (.sipush 1323, 3) := by decide +kernel
theorem dX10_isLost_57 : decode cX10_isLost 57 = .ok (.iaload, 1) := by decide +kernel
theorem dX10_isLost_58 : decode cX10_isLost 58 = .ok (.iadd, 1) := by decide +kernel
theorem dX10_isLost_59 : decode cX10_isLost 59 = .ok (.iload_n 1, 1) := by decide +kernel
theorem dX10_isLost_60 : decode cX10_isLost 60 = .ok (.iastore, 1) := by decide +kernel
theorem dX10_isLost_61 : decode cX10_isLost 61 = .ok (.aload_n 0, 1) := by decide +kernel
theorem dX10_isLost_62 : decode cX10_isLost 62 = .ok (.sipush 1323, 3) := by decide +kernel
theorem dX10_isLost_65 : decode cX10_isLost 65 = .ok (.dup2, 1) := by decide +kernel
theorem dX10_isLost_66 : decode cX10_isLost 66 = .ok (.iaload, 1) := by decide +kernel
theorem dX10_isLost_67 : decode cX10_isLost 67 = .ok (.iconst 1, 1) := by decide +kernel
theorem dX10_isLost_68 : decode cX10_isLost 68 = .ok (.iadd, 1) := by decide +kernel
theorem dX10_isLost_69 : decode cX10_isLost 69 = .ok (.iastore, 1) := by decide +kernel
theorem dX10_isLost_70 : decode cX10_isLost 70 = .ok (.aload_n 0, 1) := by decide +kernel
theorem dX10_isLost_71 : decode cX10_isLost 71 = .ok (.sipush 1370, 3) := by decide +kernel
theorem dX10_isLost_74 : decode cX10_isLost 74 = .ok (.dup2, 1) := by decide +kernel
theorem dX10_isLost_75 : decode cX10_isLost 75 = .ok (.iaload, 1) := by decide +kernel
theorem dX10_isLost_76 : decode cX10_isLost 76 = .ok (.iconst 1, 1) := by decide +kernel
theorem dX10_isLost_77 : decode cX10_isLost 77 = .ok (.iadd, 1) := by decide +kernel
theorem dX10_isLost_78 : decode cX10_isLost 78 = .ok (.iastore, 1) := by decide +kernel
theorem dX10_isLost_79 : decode cX10_isLost 79 = .ok (.return_, 1) := by decide +kernel
theorem dX10_empties_0 : decode cX10_empties 0 = .ok (.aload_n 1, 1) := by decide +kernel
theorem dX10_empties_1 : decode cX10_empties 1 = .ok (.aload_n 1, 1) := by decide +kernel
theorem dX10_empties_2 : decode cX10_empties 2 = .ok (.iload_n 2, 1) := by decide +kernel
theorem dX10_empties_3 : decode cX10_empties 3 = .ok (.bipush 7, 2) := by decide +kernel
theorem dX10_empties_5 : decode cX10_empties 5 = .ok (.invokestatic 167, 3) := by decide +kernel
theorem dX10_empties_8 : decode cX10_empties 8 = .ok (.invokestatic 182, 3) := by decide +kernel
theorem dX10_empties_11 : decode cX10_empties 11 = .ok (.istore 4, 2) := by decide +kernel
theorem dX10_empties_13 : decode cX10_empties 13 = .ok (.aload_n 1, 1) := by decide +kernel
theorem dX10_empties_14 : decode cX10_empties 14 = .ok (.iload_n 2, 1) := by decide +kernel
theorem dX10_empties_15 : decode cX10_empties 15 = .ok (.iconst 1, 1) := by decide +kernel
theorem dX10_empties_16 : decode cX10_empties 16 = .ok (.invokestatic 167, 3) := by decide +kernel
theorem dX10_empties_19 : decode cX10_empties 19 = .ok (.iconst 1, 1) := by decide +kernel
theorem dX10_empties_20 : decode cX10_empties 20 = .ok (.if_icmp .ne 32, 3) := by decide +kernel
theorem dX10_empties_23 : decode cX10_empties 23 = .ok (.iload 4, 2) := by decide +kernel
theorem dX10_empties_25 : decode cX10_empties 25 = .ok (.iconst (-1), 1) := by decide +kernel
theorem dX10_empties_26 : decode cX10_empties 26 = .ok (.if_icmp .eq 26, 3) := by decide +kernel
theorem dX10_empties_29 : decode cX10_empties 29 = .ok (.aload_n 0, 1) := by decide +kernel
theorem dX10_empties_30 : decode cX10_empties 30 = .ok (.getfield 45, 3) := by decide +kernel
theorem dX10_empties_33 : decode cX10_empties 33 = .ok (.iload 4, 2) := by decide +kernel
theorem dX10_empties_35 : decode cX10_empties 35 = .ok (.baload, 1) := by decide +kernel
theorem dX10_empties_36 : decode cX10_empties 36 = .ok (.ifCond .ne 16, 3) := by decide +kernel
theorem dX10_empties_39 : decode cX10_empties 39 = .ok (.iload_n 3, 1) := by decide +kernel
theorem dX10_empties_40 : decode cX10_empties 40 = .ok (.ifCond .eq 13, 3) := by decide +kernel
theorem dX10_empties_43 : decode cX10_empties 43 = .ok (.aload_n 1, 1) := by decide +kernel
theorem dX10_empties_44 : decode cX10_empties 44 = .ok (.iload 4, 2) := by decide +kernel
theorem dX10_empties_46 : decode cX10_empties 46 = .ok (.invokestatic 184, 3) := by decide +kernel
theorem dX10_empties_49 : decode cX10_empties 49 = .ok (.ifCond .eq 4, 3) := by decide +kernel
theorem dX10_empties_52 : decode cX10_empties 52 = .ok (.return_, 1) := by decide +kernel
theorem dX10_empties_53 : decode cX10_empties 53 = .ok (.aload_n 1, 1) := by decide +kernel
theorem dX10_empties_54 : decode cX10_empties 54 = .ok (.iload_n 2, 1) := by decide +kernel
theorem dX10_empties_55 : decode cX10_empties 55 = .ok (.bipush 7, 2) := by decide +kernel
theorem dX10_empties_57 : decode cX10_empties 57 = .ok (.invokestatic 178, 3) := by decide +kernel
theorem dX10_empties_60 : decode cX10_empties 60 = .ok (.iconst 0, 1) := by decide +kernel
theorem dX10_empties_61 : decode cX10_empties 61 = .ok (.iastore, 1) := by decide +kernel
theorem dX10_empties_62 : decode cX10_empties 62 = .ok (.aload_n 1, 1) := by decide +kernel
theorem dX10_empties_63 : decode cX10_empties 63 = .ok (.aload_n 1, 1) := by decide +kernel
theorem dX10_empties_64 : decode cX10_empties 64 = .ok (.iload_n 2, 1) := by decide +kernel
theorem dX10_empties_65 : decode cX10_empties 65 = .ok (.iconst 0, 1) := by decide +kernel
theorem dX10_empties_66 : decode cX10_empties 66 = .ok (.invokestatic 167, 3) := by decide +kernel
theorem dX10_empties_69 : decode cX10_empties 69 = .ok (.invokestatic 214, 3) := by decide +kernel
theorem dX10_empties_72 : decode cX10_empties 72 = .ok (.return_, 1) := by decide +kernel
theorem dX10_ends_0 : decode cX10_ends 0 = .ok (.aload_n 0, 1) := by decide +kernel
theorem dX10_ends_1 : decode cX10_ends 1 = .ok (.iconst 0, 1) := by decide +kernel
theorem dX10_ends_2 : decode cX10_ends 2 = .ok (.putfield 217, 3) := by decide +kernel
theorem dX10_ends_5 : decode cX10_ends 5 = .ok (.iconst 0, 1) := by decide +kernel
theorem dX10_ends_6 : decode cX10_ends 6 = .ok (.istore_n 3, 1) := by decide +kernel
theorem dX10_ends_7 : decode cX10_ends 7 = .ok (.iload_n 3, 1) := by decide +kernel
theorem dX10_ends_8 : decode cX10_ends 8 = .ok (.aload_n 1, 1) := by decide +kernel
theorem dX10_ends_9 : decode cX10_ends 9 = .ok (.iconst 0, 1) := by decide +kernel
theorem dX10_ends_10 : decode cX10_ends 10 = .ok (.iaload, 1) := by decide +kernel
theorem dX10_ends_11 : decode cX10_ends 11 = .ok (.if_icmp .ge 98, 3) := by decide +kernel
theorem dX10_ends_14 : decode cX10_ends 14 = .ok (.aload_n 1, 1) := by decide +kernel
theorem dX10_ends_15 : decode cX10_ends 15 = .ok (.iload_n 3, 1) := by decide +kernel
theorem dX10_ends_16 : decode cX10_ends 16 = .ok (.iconst 1, 1) := by decide +kernel
theorem dX10_ends_17 : decode cX10_ends 17 = .ok (.invokestatic 167, 3) := by decide +kernel
theorem dX10_ends_20 : decode cX10_ends 20 = .ok (.iconst 2, 1) := by decide +kernel
theorem dX10_ends_21 : decode cX10_ends 21 = .ok (.if_icmp .ne 82, 3) := by decide +kernel
theorem dX10_ends_24 : decode cX10_ends 24 = .ok (.aload_n 0, 1) := by decide +kernel
theorem dX10_ends_25 : decode cX10_ends 25 = .ok (.getfield 45, 3) := by decide +kernel
theorem dX10_ends_28 : decode cX10_ends 28 = .ok (.iload_n 3, 1) := by decide +kernel
theorem dX10_ends_29 : decode cX10_ends 29 = .ok (.baload, 1) := by decide +kernel
theorem dX10_ends_30 : decode cX10_ends 30 = .ok (.ifCond .ne 73, 3) := by decide +kernel
theorem dX10_ends_33 : decode cX10_ends 33 = .ok (.iload_n 2, 1) := by decide +kernel
theorem dX10_ends_34 : decode cX10_ends 34 = .ok (.ifCond .eq 14, 3) := by decide +kernel
theorem dX10_ends_37 : decode cX10_ends 37 = .ok (.aload_n 1, 1) := by decide +kernel
theorem dX10_ends_38 : decode cX10_ends 38 = .ok (.iload_n 3, 1) := by decide +kernel
theorem dX10_ends_39 : decode cX10_ends 39 = .ok (.invokestatic 184, 3) := by decide +kernel
theorem dX10_ends_42 : decode cX10_ends 42 = .ok (.ifCond .eq 6, 3) := by decide +kernel
theorem dX10_ends_45 : decode cX10_ends 45 = .ok (.goto 58, 3) := by decide +kernel
theorem dX10_ends_48 : decode cX10_ends 48 = .ok (.aload_n 1, 1) := by decide +kernel
theorem dX10_ends_49 : decode cX10_ends 49 = .ok (.sipush 1243, 3) := by decide +kernel
theorem dX10_ends_52 : decode cX10_ends 52 = .ok (.aload_n 1, 1) := by decide +kernel
theorem dX10_ends_53 : decode cX10_ends 53 = .ok (.sipush 1242, 3) := by decide +kernel
theorem dX10_ends_56 : decode cX10_ends 56 = .ok (.iaload, 1) := by decide +kernel
theorem dX10_ends_57 : decode cX10_ends 57 = .ok (.iadd, 1) := by decide +kernel
theorem dX10_ends_58 : decode cX10_ends 58 = .ok (.aload_n 1, 1) := by decide +kernel
theorem dX10_ends_59 : decode cX10_ends 59 = .ok (.iload_n 3, 1) := by decide +kernel
theorem dX10_ends_60 : decode cX10_ends 60 = .ok (.iconst 0, 1) := by decide +kernel
theorem dX10_ends_61 : decode cX10_ends 61 = .ok (.invokestatic 167, 3) := by decide +kernel
theorem dX10_ends_64 : decode cX10_ends 64 = .ok (.iastore, 1) := by decide +kernel
theorem dX10_ends_65 : decode cX10_ends 65 = .ok (.aload_n 1, 1) := by decide +kernel
theorem dX10_ends_66 : decode cX10_ends 66 = .ok (.sipush 1242, 3) := by decide +kernel
theorem dX10_ends_69 : decode cX10_ends 69 = .ok (.dup2, 1) := by decide +kernel
theorem dX10_ends_70 : decode cX10_ends 70 = .ok (.iaload, 1) := by decide +kernel
theorem dX10_ends_71 : decode cX10_ends 71 = .ok (.iconst 1, 1) := by decide +kernel
theorem dX10_ends_72 : decode cX10_ends 72 = .ok (.iadd, 1) := by decide +kernel
theorem dX10_ends_73 : decode cX10_ends 73 = .ok (.iastore, 1) := by decide +kernel
theorem dX10_ends_74 : decode cX10_ends 74 = .ok (.aload_n 1, 1) := by decide +kernel
theorem dX10_ends_75 : decode cX10_ends 75 = .ok (.sipush 1371, 3) := by decide +kernel
theorem dX10_ends_78 : decode cX10_ends 78 = .ok (.dup2, 1) := by decide +kernel
theorem dX10_ends_79 : decode cX10_ends 79 = .ok (.iaload, 1) := by decide +kernel
theorem dX10_ends_80 : decode cX10_ends 80 = .ok (.iconst 1, 1) := by decide +kernel
theorem dX10_ends_81 : decode cX10_ends 81 = .ok (.iadd, 1) := by decide +kernel
theorem dX10_ends_82 : decode cX10_ends 82 = .ok (.iastore, 1) := by decide +kernel
theorem dX10_ends_83 : decode cX10_ends 83 = .ok (.aload_n 0, 1) := by decide +kernel
theorem dX10_ends_84 : decode cX10_ends 84 = .ok (.getfield 52, 3) := by decide +kernel
theorem dX10_ends_87 : decode cX10_ends 87 = .ok (.aload_n 0, 1) := by decide +kernel
theorem dX10_ends_88 : decode cX10_ends 88 = .ok (.getfield 217, 3) := by decide +kernel
theorem dX10_ends_91 : decode cX10_ends 91 = .ok (.iload_n 3, 1) := by decide +kernel
theorem dX10_ends_92 : decode cX10_ends 92 = .ok (.iastore, 1) := by decide +kernel
theorem dX10_ends_93 : decode cX10_ends 93 = .ok (.aload_n 0, 1) := by decide +kernel
theorem dX10_ends_94 : decode cX10_ends 94 = .ok (.dup, 1) := by decide +kernel
theorem dX10_ends_95 : decode cX10_ends 95 = .ok (.getfield 217, 3) := by decide +kernel
theorem dX10_ends_98 : decode cX10_ends 98 = .ok (.iconst 1, 1) := by decide +kernel
theorem dX10_ends_99 : decode cX10_ends 99 = .ok (.iadd, 1) := by decide +kernel
theorem dX10_ends_100 : decode cX10_ends 100 = .ok (.putfield 217, 3) := by decide +kernel
theorem dX10_ends_103 : decode cX10_ends 103 = .ok (.iinc 3 1, 3) := by decide +kernel
theorem dX10_ends_106 : decode cX10_ends 106 = .ok (.goto (-99), 3) := by decide +kernel
theorem dX10_ends_109 : decode cX10_ends 109 = .ok (.return_, 1) := by decide +kernel
theorem dX10_moves_0 : decode cX10_moves 0 = .ok (.iload_n 2, 1) := by decide +kernel
theorem dX10_moves_1 : decode cX10_moves 1 = .ok (.iconst (-1), 1) := by decide +kernel
theorem dX10_moves_2 : decode cX10_moves 2 = .ok (.if_icmp .eq 20, 3) := by decide +kernel
theorem dX10_moves_5 : decode cX10_moves 5 = .ok (.aload_n 0, 1) := by decide +kernel
theorem dX10_moves_6 : decode cX10_moves 6 = .ok (.getfield 45, 3) := by decide +kernel
theorem dX10_moves_9 : decode cX10_moves 9 = .ok (.iload_n 2, 1) := by decide +kernel
theorem dX10_moves_10 : decode cX10_moves 10 = .ok (.baload, 1) := by decide +kernel
theorem dX10_moves_11 : decode cX10_moves 11 = .ok (.ifCond .ne 11, 3) := by decide +kernel
theorem dX10_moves_14 : decode cX10_moves 14 = .ok (.aload_n 1, 1) := by decide +kernel
theorem dX10_moves_15 : decode cX10_moves 15 = .ok (.iload_n 2, 1) := by decide +kernel
theorem dX10_moves_16 : decode cX10_moves 16 = .ok (.invokestatic 184, 3) := by decide +kernel
theorem dX10_moves_19 : decode cX10_moves 19 = .ok (.ifCond .eq 4, 3) := by decide +kernel
theorem dX10_moves_22 : decode cX10_moves 22 = .ok (.return_, 1) := by decide +kernel
theorem dX10_moves_23 : decode cX10_moves 23 = .ok (.aload_n 1, 1) := by decide +kernel
theorem dX10_moves_24 : decode cX10_moves 24 = .ok (.iload_n 2, 1) := by decide +kernel
theorem dX10_moves_25 : decode cX10_moves 25 = .ok (.invokestatic 171, 3) := by decide +kernel
theorem dX10_moves_28 : decode cX10_moves 28 = .ok (.istore_n 3, 1) := by decide +kernel
theorem dX10_moves_29 : decode cX10_moves 29 = .ok (.aload_n 1, 1) := by decide +kernel
theorem dX10_moves_30 : decode cX10_moves 30 = .ok (.iload_n 2, 1) := by decide +kernel
theorem dX10_moves_31 : decode cX10_moves 31 = .ok (.iconst 4, 1) := by decide +kernel
theorem dX10_moves_32 : decode cX10_moves 32 = .ok (.invokestatic 178, 3) := by decide +kernel
theorem dX10_moves_35 : decode cX10_moves 35 = .ok (.dup2, 1) := by decide +kernel
theorem dX10_moves_36 : decode cX10_moves 36 = .ok (.iaload, 1) := by decide +kernel
theorem dX10_moves_37 : decode cX10_moves 37 = .ok (.iconst 1, 1) := by decide +kernel
theorem dX10_moves_38 : decode cX10_moves 38 = .ok (.iadd, 1) := by decide +kernel
theorem dX10_moves_39 : decode cX10_moves 39 = .ok (.iastore, 1) := by decide +kernel
theorem dX10_moves_40 : decode cX10_moves 40 = .ok (.aload_n 1, 1) := by decide +kernel
theorem dX10_moves_41 : decode cX10_moves 41 = .ok (.iload_n 2, 1) := by decide +kernel
theorem dX10_moves_42 : decode cX10_moves 42 = .ok (.iconst 4, 1) := by decide +kernel
theorem dX10_moves_43 : decode cX10_moves 43 = .ok (.invokestatic 167, 3) := by decide +kernel
theorem dX10_moves_46 : decode cX10_moves 46 = .ok (.aload_n 0, 1) := by decide +kernel
theorem dX10_moves_47 : decode cX10_moves 47 = .ok (.getfield 17, 3) := by decide +kernel
theorem dX10_moves_50 : decode cX10_moves 50 = .ok (.iconst 3, 1) := by decide +kernel
theorem dX10_moves_51 : decode cX10_moves 51 = .ok (.iaload, 1) := by decide +kernel
theorem dX10_moves_52 : decode cX10_moves 52 = .ok (.if_icmp .ge 22, 3) := by decide +kernel
theorem dX10_moves_55 : decode cX10_moves 55 = .ok (.aload_n 0, 1) := by decide +kernel
theorem dX10_moves_56 : decode cX10_moves 56 = .ok (.getfield 220, 3) := by decide +kernel
theorem dX10_moves_59 : decode cX10_moves 59 = .ok (.iload_n 3, 1) := by decide +kernel
theorem dX10_moves_60 : decode cX10_moves 60 = .ok (.iadd, 1) := by decide +kernel
theorem dX10_moves_61 : decode cX10_moves 61 = .ok (.aload_n 0, 1) := by decide +kernel
theorem dX10_moves_62 : decode cX10_moves 62 = .ok (.getfield 17, 3) := by decide +kernel
theorem dX10_moves_65 : decode cX10_moves 65 = .ok (.iconst 1, 1) := by decide +kernel
theorem dX10_moves_66 : decode cX10_moves 66 = .ok (.iaload, 1) := by decide +kernel
theorem dX10_moves_67 : decode cX10_moves 67 = .ok (.if_icmp .gt 7, 3) := by decide +kernel
theorem dX10_moves_70 : decode cX10_moves 70 = .ok (.iconst 1, 1) := by decide +kernel
theorem dX10_moves_71 : decode cX10_moves 71 = .ok (.goto 4, 3) := by decide +kernel
theorem dX10_moves_74 : decode cX10_moves 74 = .ok (.iconst 0, 1) := by decide +kernel
theorem dX10_moves_75 : decode cX10_moves 75 = .ok (.istore 4, 2) := by decide +kernel
theorem dX10_moves_77 : decode cX10_moves 77 = .ok (.iload 4, 2) := by decide +kernel
theorem dX10_moves_79 : decode cX10_moves 79 = .ok (.ifCond .ne 23, 3) := by decide +kernel
theorem dX10_moves_82 : decode cX10_moves 82 = .ok (.aload_n 0, 1) := by decide +kernel
theorem dX10_moves_83 : decode cX10_moves 83 = .ok (.getfield 223, 3) := by decide +kernel
theorem dX10_moves_86 : decode cX10_moves 86 = .ok (.iload_n 3, 1) := by decide +kernel
theorem dX10_moves_87 : decode cX10_moves 87 = .ok (.iadd, 1) := by decide +kernel
theorem dX10_moves_88 : decode cX10_moves 88 = .ok (.aload_n 0, 1) := by decide +kernel
theorem dX10_moves_89 : decode cX10_moves 89 = .ok (.getfield 17, 3) := by decide +kernel
theorem dX10_moves_92 : decode cX10_moves 92 = .ok (.iconst 2, 1) := by decide +kernel
theorem dX10_moves_93 : decode cX10_moves 93 = .ok (.iaload, 1) := by decide +kernel
theorem dX10_moves_94 : decode cX10_moves 94 = .ok (.if_icmp .le 8, 3) := by decide +kernel
theorem dX10_moves_97 : decode cX10_moves 97 = .ok (.aload_n 0, 1) := by decide +kernel
theorem dX10_moves_98 : decode cX10_moves 98 = .ok (.iconst 1, 1) := by decide +kernel
theorem dX10_moves_99 : decode cX10_moves 99 = .ok (.putfield 198, 3) := by decide +kernel
theorem dX10_moves_102 : decode cX10_moves 102 = .ok (.aload_n 1, 1) := by decide +kernel
theorem dX10_moves_103 : decode cX10_moves 103 = .ok (.iload_n 2, 1) := by decide +kernel
theorem dX10_moves_104 : decode cX10_moves 104 = .ok (.iconst 5, 1) := by decide +kernel
theorem dX10_moves_105 : decode cX10_moves 105 = .ok (.invokestatic 178, 3) := by decide +kernel
theorem dX10_moves_108 : decode cX10_moves 108 = .ok (.iload 4, 2) := by decide +kernel
theorem dX10_moves_110 : decode cX10_moves 110 = .ok (.ifCond .eq 7, 3) := by decide +kernel
theorem dX10_moves_113 : decode cX10_moves 113 = .ok (.iconst 1, 1) := by decide +kernel
theorem dX10_moves_114 : decode cX10_moves 114 = .ok (.goto 4, 3) := by decide +kernel
theorem dX10_moves_117 : decode cX10_moves 117 = .ok (.iconst 2, 1) := by decide +kernel
theorem dX10_moves_118 : decode cX10_moves 118 = .ok (.iastore, 1) := by decide +kernel
theorem dX10_moves_119 : decode cX10_moves 119 = .ok (.aload_n 1, 1) := by decide +kernel
theorem dX10_moves_120 : decode cX10_moves 120 = .ok (.iload_n 2, 1) := by decide +kernel
theorem dX10_moves_121 : decode cX10_moves 121 = .ok (.bipush 6, 2) := by decide +kernel
theorem dX10_moves_123 : decode cX10_moves 123 = .ok (.invokestatic 178, 3) := by decide +kernel
theorem dX10_moves_126 : decode cX10_moves 126 = .ok (.iload 4, 2) := by decide +kernel
theorem dX10_moves_128 : decode cX10_moves 128 = .ok (.ifCond .eq 10, 3) := by decide +kernel
theorem dX10_moves_131 : decode cX10_moves 131 = .ok (.aload_n 0, 1) := by decide +kernel
theorem dX10_moves_132 : decode cX10_moves 132 = .ok (.getfield 220, 3) := by decide +kernel
theorem dX10_moves_135 : decode cX10_moves 135 = .ok (.goto 7, 3) := by decide +kernel
theorem dX10_moves_138 : decode cX10_moves 138 = .ok (.aload_n 0, 1) := by decide +kernel
theorem dX10_moves_139 : decode cX10_moves 139 = .ok (.getfield 223, 3) := by decide +kernel
theorem dX10_moves_142 : decode cX10_moves 142 = .ok (.iastore, 1) := by decide +kernel
theorem dX10_moves_143 : decode cX10_moves 143 = .ok (.iload 4, 2) := by decide +kernel
theorem dX10_moves_145 : decode cX10_moves 145 = .ok (.ifCond .eq 16, 3) := by decide +kernel
theorem dX10_moves_148 : decode cX10_moves 148 = .ok (.aload_n 0, 1) := by decide +kernel
theorem dX10_moves_149 : decode cX10_moves 149 = .ok (.dup, 1) := by decide +kernel
theorem dX10_moves_150 : decode cX10_moves 150 = .ok (.getfield 220, 3) := by decide +kernel
theorem dX10_moves_153 : decode cX10_moves 153 = .ok (.iload_n 3, 1) := by decide +kernel
theorem dX10_moves_154 : decode cX10_moves 154 = .ok (.iadd, 1) := by decide +kernel
theorem dX10_moves_155 : decode cX10_moves 155 = .ok (.putfield 220, 3) := by decide +kernel
theorem dX10_moves_158 : decode cX10_moves 158 = .ok (.goto 13, 3) := by decide +kernel
theorem dX10_moves_161 : decode cX10_moves 161 = .ok (.aload_n 0, 1) := by decide +kernel
theorem dX10_moves_162 : decode cX10_moves 162 = .ok (.dup, 1) := by decide +kernel
theorem dX10_moves_163 : decode cX10_moves 163 = .ok (.getfield 223, 3) := by decide +kernel
theorem dX10_moves_166 : decode cX10_moves 166 = .ok (.iload_n 3, 1) := by decide +kernel
theorem dX10_moves_167 : decode cX10_moves 167 = .ok (.iadd, 1) := by decide +kernel
theorem dX10_moves_168 : decode cX10_moves 168 = .ok (.putfield 223, 3) := by decide +kernel
theorem dX10_moves_171 : decode cX10_moves 171 = .ok (.aload_n 1, 1) := by decide +kernel
theorem dX10_moves_172 : decode cX10_moves 172 = .ok (.sipush 1367, 3) := by decide +kernel
theorem dX10_moves_175 : decode cX10_moves 175 = .ok (.dup2, 1) := by decide +kernel
theorem dX10_moves_176 : decode cX10_moves 176 = .ok (.iaload, 1) := by decide +kernel
theorem dX10_moves_177 : decode cX10_moves 177 = .ok (.iconst 1, 1) := by decide +kernel
theorem dX10_moves_178 : decode cX10_moves 178 = .ok (.iadd, 1) := by decide +kernel
theorem dX10_moves_179 : decode cX10_moves 179 = .ok (.iastore, 1) := by decide +kernel
theorem dX10_moves_180 : decode cX10_moves 180 = .ok (.iload 4, 2) := by decide +kernel
theorem dX10_moves_182 : decode cX10_moves 182 = .ok (.ifCond .ne 12, 3) := by decide +kernel
theorem dX10_moves_185 : decode cX10_moves 185 = .ok (.aload_n 1, 1) := by decide +kernel
theorem dX10_moves_186 : decode cX10_moves 186 = .ok (.sipush 1368, 3) := by decide +kernel
theorem dX10_moves_189 : decode cX10_moves 189 = .ok (.dup2, 1) := by decide +kernel
theorem dX10_moves_190 : decode cX10_moves 190 = .ok (.iaload, 1) := by decide +kernel
theorem dX10_moves_191 : decode cX10_moves 191 = .ok (.iconst 1, 1) := by decide +kernel
theorem dX10_moves_192 : decode cX10_moves 192 = .ok (.iadd, 1) := by decide +kernel
theorem dX10_moves_193 : decode cX10_moves 193 = .ok (.iastore, 1) := by decide +kernel
theorem dX10_moves_194 : decode cX10_moves 194 = .ok (.aload_n 0, 1) := by decide +kernel
theorem dX10_moves_195 : decode cX10_moves 195 = .ok (.iload_n 2, 1) := by decide +kernel
theorem dX10_moves_196 : decode cX10_moves 196 = .ok (.invokevirtual 204, 3) := by decide +kernel
theorem dX10_moves_199 : decode cX10_moves 199 = .ok (.return_, 1) := by decide +kernel
theorem dX10_movesAll_0 : decode cX10_movesAll 0 = .ok (.iload_n 2, 1) := by decide +kernel
theorem dX10_movesAll_1 : decode cX10_movesAll 1 = .ok (.istore_n 3, 1) := by decide +kernel
theorem dX10_movesAll_2 : decode cX10_movesAll 2 = .ok (.iload_n 3, 1) := by decide +kernel
theorem dX10_movesAll_3 : decode cX10_movesAll 3 = .ok (.aload_n 0, 1) := by decide +kernel
theorem dX10_movesAll_4 : decode cX10_movesAll 4 = .ok (.getfield 195, 3) := by decide +kernel
theorem dX10_movesAll_7 : decode cX10_movesAll 7 = .ok (.if_icmp .ge 83, 3) := by decide +kernel
theorem dX10_movesAll_10 : decode cX10_movesAll 10 = .ok (.aload_n 0, 1) := by decide +kernel
theorem dX10_movesAll_11 : decode cX10_movesAll 11 = .ok (.getfield 198, 3) := by decide +kernel
theorem dX10_movesAll_14 : decode cX10_movesAll 14 = .ok (.ifCond .ne 76, 3) := by decide +kernel
theorem dX10_movesAll_17 : decode cX10_movesAll 17 = .ok (.aload_n 0, 1) := by decide +kernel
theorem dX10_movesAll_18 : decode cX10_movesAll 18 = .ok (.getfield 49, 3) := by decide +kernel
theorem dX10_movesAll_21 : decode cX10_movesAll 21 = .ok (.iload_n 3, 1) := by decide +kernel
theorem dX10_movesAll_22 : decode cX10_movesAll 22 = .ok (.iaload, 1) := by decide +kernel
theorem dX10_movesAll_23 : decode cX10_movesAll 23 = .ok (.istore 4, 2) := by decide +kernel
theorem dX10_movesAll_25 : decode cX10_movesAll 25 = .ok (.iconst 0, 1) := by decide +kernel
theorem dX10_movesAll_26 : decode cX10_movesAll 26 = .ok (.istore 5, 2) := by decide +kernel
theorem dX10_movesAll_28 : decode cX10_movesAll 28 = .ok (.iload 5, 2) := by decide +kernel
theorem dX10_movesAll_30 : decode cX10_movesAll 30 = .ok (.aload_n 1, 1) := by decide +kernel
theorem dX10_movesAll_31 : decode cX10_movesAll 31 = .ok (.iload 4, 2) := by decide +kernel
theorem dX10_movesAll_33 : decode cX10_movesAll 33 = .ok (.iconst 2, 1) := by decide +kernel
theorem dX10_movesAll_34 : decode cX10_movesAll 34 = .ok (.invokestatic 167, 3) := by decide +kernel
theorem dX10_movesAll_37 : decode cX10_movesAll 37 = .ok (.if_icmp .ge 47, 3) := by decide +kernel
theorem dX10_movesAll_40 : decode cX10_movesAll 40 = .ok (.aload_n 0, 1) := by decide +kernel
theorem dX10_movesAll_41 : decode cX10_movesAll 41 = .ok (.getfield 198, 3) := by decide +kernel
theorem dX10_movesAll_44 : decode cX10_movesAll 44 = .ok (.ifCond .ne 40, 3) := by decide +kernel
theorem dX10_movesAll_47 : decode cX10_movesAll 47 = .ok (.aload_n 1, 1) := by decide +kernel
theorem dX10_movesAll_48 : decode cX10_movesAll 48 = .ok (.iload 4, 2) := by decide +kernel
theorem dX10_movesAll_50 : decode cX10_movesAll 50 = .ok (.iload 5, 2) := by decide +kernel
theorem dX10_movesAll_52 : decode cX10_movesAll 52 = .ok (.invokestatic 201, 3) := by decide +kernel
theorem dX10_movesAll_55 : decode cX10_movesAll 55 = .ok (.ifCond .ne 23, 3) := by decide +kernel
theorem dX10_movesAll_58 : decode cX10_movesAll 58 = .ok (.aload_n 0, 1) := by decide +kernel
theorem dX10_movesAll_59 : decode cX10_movesAll 59 = .ok (.aload_n 1, 1) := by decide +kernel
theorem dX10_movesAll_60 : decode cX10_movesAll 60 = .ok (.aload_n 1, 1) := by decide +kernel
theorem dX10_movesAll_61 : decode cX10_movesAll 61 = .ok (.aload_n 1, 1) := by decide +kernel
theorem dX10_movesAll_62 : decode cX10_movesAll 62 = .ok (.iload 4, 2) := by decide +kernel
theorem dX10_movesAll_64 : decode cX10_movesAll 64 = .ok (.bipush 7, 2) := by decide +kernel
theorem dX10_movesAll_66 : decode cX10_movesAll 66 = .ok (.iload 5, 2) := by decide +kernel
theorem dX10_movesAll_68 : decode cX10_movesAll 68 = .ok (.iadd, 1) := by decide +kernel
theorem dX10_movesAll_69 : decode cX10_movesAll 69 = .ok (.invokestatic 167, 3) := by decide +kernel
theorem dX10_movesAll_72 : decode cX10_movesAll 72 = .ok (.invokestatic 182, 3) := by decide +kernel
theorem dX10_movesAll_75 : decode cX10_movesAll 75 = .ok (.invokevirtual 226, 3) := by decide +kernel
theorem dX10_movesAll_78 : decode cX10_movesAll 78 = .ok (.iinc 5 1, 3) := by decide +kernel
theorem dX10_movesAll_81 : decode cX10_movesAll 81 = .ok (.goto (-53), 3) := by decide +kernel
theorem dX10_movesAll_84 : decode cX10_movesAll 84 = .ok (.iinc 3 1, 3) := by decide +kernel
theorem dX10_movesAll_87 : decode cX10_movesAll 87 = .ok (.goto (-85), 3) := by decide +kernel
theorem dX10_movesAll_90 : decode cX10_movesAll 90 = .ok (.return_, 1) := by decide +kernel
theorem dX10_movesReached_0 : decode cX10_movesReached 0 = .ok (.iconst 0, 1) := by decide +kernel
theorem dX10_movesReached_1 : decode cX10_movesReached 1 = .ok (.istore_n 2, 1) := by decide +kernel
theorem dX10_movesReached_2 : decode cX10_movesReached 2 = .ok (.iload_n 2, 1) := by decide +kernel
theorem dX10_movesReached_3 : decode cX10_movesReached 3 = .ok (.bipush 8, 2) := by decide +kernel
theorem dX10_movesReached_5 : decode cX10_movesReached 5 = .ok (.if_icmp .ge 32, 3) := by decide +kernel
theorem dX10_movesReached_8 : decode cX10_movesReached 8 = .ok (.aload_n 0, 1) := by decide +kernel
theorem dX10_movesReached_9 : decode cX10_movesReached 9 = .ok (.getfield 198, 3) := by decide +kernel
theorem dX10_movesReached_12 : decode cX10_movesReached 12 = .ok (.ifCond .ne 25, 3) := by decide +kernel
theorem dX10_movesReached_15 : decode cX10_movesReached 15 = .ok (.aload_n 0, 1) := by decide +kernel
theorem dX10_movesReached_16 : decode cX10_movesReached 16 = .ok (.aload_n 1, 1) := by decide +kernel
theorem dX10_movesReached_17 : decode cX10_movesReached 17 = .ok (.aload_n 1, 1) := by decide +kernel
theorem dX10_movesReached_18 : decode cX10_movesReached 18 = .ok (.aload_n 1, 1) := by decide +kernel
theorem dX10_movesReached_19 : decode cX10_movesReached 19 = .ok (.sipush 881, 3) := by decide +kernel
theorem dX10_movesReached_22 : decode cX10_movesReached 22 = .ok (.iload_n 2, 1) := by decide +kernel
theorem dX10_movesReached_23 : decode cX10_movesReached 23 = .ok (.iadd, 1) := by decide +kernel
theorem dX10_movesReached_24 : decode cX10_movesReached 24 = .ok (.iaload, 1) := by decide +kernel
theorem dX10_movesReached_25 : decode cX10_movesReached 25 = .ok (.invokestatic 182, 3) := by decide +kernel
theorem dX10_movesReached_28 : decode cX10_movesReached 28 = .ok (.invokevirtual 226, 3) := by decide +kernel
theorem dX10_movesReached_31 : decode cX10_movesReached 31 = .ok (.iinc 2 1, 3) := by decide +kernel
theorem dX10_movesReached_34 : decode cX10_movesReached 34 = .ok (.goto (-32), 3) := by decide +kernel
theorem dX10_movesReached_37 : decode cX10_movesReached 37 = .ok (.iconst 0, 1) := by decide +kernel
theorem dX10_movesReached_38 : decode cX10_movesReached 38 = .ok (.istore_n 2, 1) := by decide +kernel
theorem dX10_movesReached_39 : decode cX10_movesReached 39 = .ok (.iload_n 2, 1) := by decide +kernel
theorem dX10_movesReached_40 : decode cX10_movesReached 40 = .ok (.aload_n 1, 1) := by decide +kernel
theorem dX10_movesReached_41 : decode cX10_movesReached 41 = .ok (.sipush 1242, 3) := by decide +kernel
theorem dX10_movesReached_44 : decode cX10_movesReached 44 = .ok (.iaload, 1) := by decide +kernel
theorem dX10_movesReached_45 : decode cX10_movesReached 45 = .ok (.if_icmp .ge 32, 3) := by decide +kernel
theorem dX10_movesReached_48 : decode cX10_movesReached 48 = .ok (.aload_n 0, 1) := by decide +kernel
theorem dX10_movesReached_49 : decode cX10_movesReached 49 = .ok (.getfield 198, 3) := by decide +kernel
theorem dX10_movesReached_52 : decode cX10_movesReached 52 = .ok (.ifCond .ne 25, 3) := by decide +kernel
theorem dX10_movesReached_55 : decode cX10_movesReached 55 = .ok (.aload_n 0, 1) := by decide +kernel
theorem dX10_movesReached_56 : decode cX10_movesReached 56 = .ok (.aload_n 1, 1) := by decide +kernel
theorem dX10_movesReached_57 : decode cX10_movesReached 57 = .ok (.aload_n 1, 1) := by decide +kernel
theorem dX10_movesReached_58 : decode cX10_movesReached 58 = .ok (.aload_n 1, 1) := by decide +kernel
theorem dX10_movesReached_59 : decode cX10_movesReached 59 = .ok (.sipush 1243, 3) := by decide +kernel
theorem dX10_movesReached_62 : decode cX10_movesReached 62 = .ok (.iload_n 2, 1) := by decide +kernel
theorem dX10_movesReached_63 : decode cX10_movesReached 63 = .ok (.iadd, 1) := by decide +kernel
theorem dX10_movesReached_64 : decode cX10_movesReached 64 = .ok (.iaload, 1) := by decide +kernel
theorem dX10_movesReached_65 : decode cX10_movesReached 65 = .ok (.invokestatic 182, 3) := by decide +kernel
theorem dX10_movesReached_68 : decode cX10_movesReached 68 = .ok (.invokevirtual 226, 3) := by decide +kernel
theorem dX10_movesReached_71 : decode cX10_movesReached 71 = .ok (.iinc 2 1, 3) := by decide +kernel
theorem dX10_movesReached_74 : decode cX10_movesReached 74 = .ok (.goto (-35), 3) := by decide +kernel
theorem dX10_movesReached_77 : decode cX10_movesReached 77 = .ok (.iconst 0, 1) := by decide +kernel
theorem dX10_movesReached_78 : decode cX10_movesReached 78 = .ok (.istore_n 2, 1) := by decide +kernel
theorem dX10_movesReached_79 : decode cX10_movesReached 79 = .ok (.iload_n 2, 1) := by decide +kernel
theorem dX10_movesReached_80 : decode cX10_movesReached 80 = .ok (.aload_n 1, 1) := by decide +kernel
theorem dX10_movesReached_81 : decode cX10_movesReached 81 = .ok (.sipush 889, 3) := by decide +kernel
theorem dX10_movesReached_84 : decode cX10_movesReached 84 = .ok (.iaload, 1) := by decide +kernel
theorem dX10_movesReached_85 : decode cX10_movesReached 85 = .ok (.if_icmp .ge 70, 3) := by decide +kernel
theorem dX10_movesReached_88 : decode cX10_movesReached 88 = .ok (.aload_n 0, 1) := by decide +kernel
theorem dX10_movesReached_89 : decode cX10_movesReached 89 = .ok (.getfield 198, 3) := by decide +kernel
theorem dX10_movesReached_92 : decode cX10_movesReached 92 = .ok (.ifCond .ne 63, 3) := by decide +kernel
theorem dX10_movesReached_95 : decode cX10_movesReached 95 = .ok (.aload_n 1, 1) := by decide +kernel
theorem dX10_movesReached_96 : decode cX10_movesReached 96 = .ok (.aload_n 1, 1) := by decide +kernel
theorem dX10_movesReached_97 : decode cX10_movesReached 97 = .ok (.sipush 890, 3) := by decide +kernel
theorem dX10_movesReached_100 : decode cX10_movesReached 100 = .ok (.iconst 2, 1) := by decide +kernel
theorem dX10_movesReached_101 : decode cX10_movesReached 101 = .ok (.iload_n 2, 1) := by decide +kernel
theorem dX10_movesReached_102 : decode cX10_movesReached 102 = .ok (.imul, 1) := by decide +kernel
theorem dX10_movesReached_103 : decode cX10_movesReached 103 = .ok (.iadd, 1) := by decide +kernel
theorem dX10_movesReached_104 : decode cX10_movesReached 104 = .ok (.iaload, 1) := by decide +kernel
theorem dX10_movesReached_105 : decode cX10_movesReached 105 = .ok (.invokestatic 182, 3) := by decide +kernel
theorem dX10_movesReached_108 : decode cX10_movesReached 108 = .ok (.istore_n 3, 1) := by decide +kernel
theorem dX10_movesReached_109 : decode cX10_movesReached 109 = .ok (.aload_n 1, 1) := by decide +kernel
theorem dX10_movesReached_110 : decode cX10_movesReached 110 = .ok (.sipush 891, 3) := by decide +kernel
theorem dX10_movesReached_113 : decode cX10_movesReached 113 = .ok (.iconst 2, 1) := by decide +kernel
theorem dX10_movesReached_114 : decode cX10_movesReached 114 = .ok (.iload_n 2, 1) := by decide +kernel
theorem dX10_movesReached_115 : decode cX10_movesReached 115 = .ok (.imul, 1) := by decide +kernel
theorem dX10_movesReached_116 : decode cX10_movesReached 116 = .ok (.iadd, 1) := by decide +kernel
theorem dX10_movesReached_117 : decode cX10_movesReached 117 = .ok (.iaload, 1) := by decide +kernel
theorem dX10_movesReached_118 : decode cX10_movesReached 118 = .ok (.istore 4, 2) := by decide +kernel
theorem dX10_movesReached_120 : decode cX10_movesReached 120 = .ok (.aload_n 1, 1) := by decide +kernel
theorem dX10_movesReached_121 : decode cX10_movesReached 121 = .ok (.iload_n 3, 1) := by decide +kernel
theorem dX10_movesReached_122 : decode cX10_movesReached 122 = .ok (.iload 4, 2) := by decide +kernel
theorem dX10_movesReached_124 : decode cX10_movesReached 124 = .ok (.invokestatic 201, 3) := by decide +kernel
theorem dX10_movesReached_127 : decode cX10_movesReached 127 = .ok (.ifCond .ne 22, 3) := by decide +kernel
theorem dX10_movesReached_130 : decode cX10_movesReached 130 = .ok (.aload_n 0, 1) := by decide +kernel
theorem dX10_movesReached_131 : decode cX10_movesReached 131 = .ok (.aload_n 1, 1) := by decide +kernel
theorem dX10_movesReached_132 : decode cX10_movesReached 132 = .ok (.aload_n 1, 1) := by decide +kernel
theorem dX10_movesReached_133 : decode cX10_movesReached 133 = .ok (.aload_n 1, 1) := by decide +kernel
theorem dX10_movesReached_134 : decode cX10_movesReached 134 = .ok (.iload_n 3, 1) := by decide +kernel
theorem dX10_movesReached_135 : decode cX10_movesReached 135 = .ok (.bipush 7, 2) := by decide +kernel
theorem dX10_movesReached_137 : decode cX10_movesReached 137 = .ok (.iload 4, 2) := by decide +kernel
theorem dX10_movesReached_139 : decode cX10_movesReached 139 = .ok (.iadd, 1) := by decide +kernel
theorem dX10_movesReached_140 : decode cX10_movesReached 140 = .ok (.invokestatic 167, 3) := by decide +kernel
theorem dX10_movesReached_143 : decode cX10_movesReached 143 = .ok (.invokestatic 182, 3) := by decide +kernel
theorem dX10_movesReached_146 : decode cX10_movesReached 146 = .ok (.invokevirtual 226, 3) := by decide +kernel
theorem dX10_movesReached_149 : decode cX10_movesReached 149 = .ok (.iinc 2 1, 3) := by decide +kernel
theorem dX10_movesReached_152 : decode cX10_movesReached 152 = .ok (.goto (-73), 3) := by decide +kernel
theorem dX10_movesReached_155 : decode cX10_movesReached 155 = .ok (.aload_n 0, 1) := by decide +kernel
theorem dX10_movesReached_156 : decode cX10_movesReached 156 = .ok (.aload_n 1, 1) := by decide +kernel
theorem dX10_movesReached_157 : decode cX10_movesReached 157 = .ok (.iconst 0, 1) := by decide +kernel
theorem dX10_movesReached_158 : decode cX10_movesReached 158 = .ok (.invokevirtual 229, 3) := by decide +kernel
theorem dX10_movesReached_161 : decode cX10_movesReached 161 = .ok (.return_, 1) := by decide +kernel
theorem dX10_minors_0 : decode cX10_minors 0 = .ok (.aload_n 1, 1) := by decide +kernel
theorem dX10_minors_1 : decode cX10_minors 1 = .ok (.iconst 0, 1) := by decide +kernel
theorem dX10_minors_2 : decode cX10_minors 2 = .ok (.aload_n 0, 1) := by decide +kernel
theorem dX10_minors_3 : decode cX10_minors 3 = .ok (.getfield 35, 3) := by decide +kernel
theorem dX10_minors_6 : decode cX10_minors 6 = .ok (.iconst 0, 1) := by decide +kernel
theorem dX10_minors_7 : decode cX10_minors 7 = .ok (.invokestatic 232, 3) := by decide +kernel
theorem dX10_minors_10 : decode cX10_minors 10 = .ok (.aload_n 0, 1) := by decide +kernel
theorem dX10_minors_11 : decode cX10_minors 11 = .ok (.invokevirtual 207, 3) := by decide +kernel
theorem dX10_minors_14 : decode cX10_minors 14 = .ok (.aload_n 0, 1) := by decide +kernel
theorem dX10_minors_15 : decode cX10_minors 15 = .ok (.iconst 0, 1) := by decide +kernel
theorem dX10_minors_16 : decode cX10_minors 16 = .ok (.putfield 220, 3) := by decide +kernel
theorem dX10_minors_19 : decode cX10_minors 19 = .ok (.aload_n 0, 1) := by decide +kernel
theorem dX10_minors_20 : decode cX10_minors 20 = .ok (.aload_n 1, 1) := by decide +kernel
theorem dX10_minors_21 : decode cX10_minors 21 = .ok (.iconst 2, 1) := by decide +kernel
theorem dX10_minors_22 : decode cX10_minors 22 = .ok (.invokestatic 175, 3) := by decide +kernel
theorem dX10_minors_25 : decode cX10_minors 25 = .ok (.putfield 223, 3) := by decide +kernel
theorem dX10_minors_28 : decode cX10_minors 28 = .ok (.aload_n 0, 1) := by decide +kernel
theorem dX10_minors_29 : decode cX10_minors 29 = .ok (.aload_n 1, 1) := by decide +kernel
theorem dX10_minors_30 : decode cX10_minors 30 = .ok (.invokevirtual 236, 3) := by decide +kernel
theorem dX10_minors_33 : decode cX10_minors 33 = .ok (.aload_n 0, 1) := by decide +kernel
theorem dX10_minors_34 : decode cX10_minors 34 = .ok (.getfield 198, 3) := by decide +kernel
theorem dX10_minors_37 : decode cX10_minors 37 = .ok (.ifCond .ne 8, 3) := by decide +kernel
theorem dX10_minors_40 : decode cX10_minors 40 = .ok (.aload_n 0, 1) := by decide +kernel
theorem dX10_minors_41 : decode cX10_minors 41 = .ok (.aload_n 1, 1) := by decide +kernel
theorem dX10_minors_42 : decode cX10_minors 42 = .ok (.invokevirtual 240, 3) := by decide +kernel
theorem dX10_minors_45 : decode cX10_minors 45 = .ok (.aload_n 0, 1) := by decide +kernel
theorem dX10_minors_46 : decode cX10_minors 46 = .ok (.getfield 198, 3) := by decide +kernel
theorem dX10_minors_49 : decode cX10_minors 49 = .ok (.ifCond .eq 15, 3) := by decide +kernel
theorem dX10_minors_52 : decode cX10_minors 52 = .ok (.aload_n 0, 1) := by decide +kernel
theorem dX10_minors_53 : decode cX10_minors 53 = .ok (.getfield 35, 3) := by decide +kernel
theorem dX10_minors_56 : decode cX10_minors 56 = .ok (.iconst 0, 1) := by decide +kernel
theorem dX10_minors_57 : decode cX10_minors 57 = .ok (.aload_n 1, 1) := by decide +kernel
theorem dX10_minors_58 : decode cX10_minors 58 = .ok (.iconst 0, 1) := by decide +kernel
theorem dX10_minors_59 : decode cX10_minors 59 = .ok (.invokestatic 232, 3) := by decide +kernel
theorem dX10_minors_62 : decode cX10_minors 62 = .ok (.iconst 0, 1) := by decide +kernel
theorem dX10_minors_63 : decode cX10_minors 63 = .ok (.ireturn, 1) := by decide +kernel
theorem dX10_minors_64 : decode cX10_minors 64 = .ok (.aload_n 1, 1) := by decide +kernel
theorem dX10_minors_65 : decode cX10_minors 65 = .ok (.invokestatic 243, 3) := by decide +kernel
theorem dX10_minors_68 : decode cX10_minors 68 = .ok (.iconst 0, 1) := by decide +kernel
theorem dX10_minors_69 : decode cX10_minors 69 = .ok (.istore_n 2, 1) := by decide +kernel
theorem dX10_minors_70 : decode cX10_minors 70 = .ok (.iload_n 2, 1) := by decide +kernel
theorem dX10_minors_71 : decode cX10_minors 71 = .ok (.aload_n 0, 1) := by decide +kernel
theorem dX10_minors_72 : decode cX10_minors 72 = .ok (.getfield 195, 3) := by decide +kernel
theorem dX10_minors_75 : decode cX10_minors 75 = .ok (.if_icmp .ge 43, 3) := by decide +kernel
theorem dX10_minors_78 : decode cX10_minors 78 = .ok (.iconst 0, 1) := by decide +kernel
theorem dX10_minors_79 : decode cX10_minors 79 = .ok (.istore_n 3, 1) := by decide +kernel
theorem dX10_minors_80 : decode cX10_minors 80 = .ok (.iload_n 3, 1) := by decide +kernel
theorem dX10_minors_81 : decode cX10_minors 81 = .ok (.aload_n 1, 1) := by decide +kernel
theorem dX10_minors_82 : decode cX10_minors 82 = .ok (.aload_n 0, 1) := by decide +kernel
theorem dX10_minors_83 : decode cX10_minors 83 = .ok (.getfield 49, 3) := by decide +kernel
theorem dX10_minors_86 : decode cX10_minors 86 = .ok (.iload_n 2, 1) := by decide +kernel
theorem dX10_minors_87 : decode cX10_minors 87 = .ok (.iaload, 1) := by decide +kernel
theorem dX10_minors_88 : decode cX10_minors 88 = .ok (.iconst 2, 1) := by decide +kernel
theorem dX10_minors_89 : decode cX10_minors 89 = .ok (.invokestatic 167, 3) := by decide +kernel
theorem dX10_minors_92 : decode cX10_minors 92 = .ok (.if_icmp .ge 20, 3) := by decide +kernel
theorem dX10_minors_95 : decode cX10_minors 95 = .ok (.aload_n 1, 1) := by decide +kernel
theorem dX10_minors_96 : decode cX10_minors 96 = .ok (.aload_n 0, 1) := by decide +kernel
theorem dX10_minors_97 : decode cX10_minors 97 = .ok (.getfield 49, 3) := by decide +kernel
theorem dX10_minors_100 : decode cX10_minors 100 = .ok (.iload_n 2, 1) := by decide +kernel
theorem dX10_minors_101 : decode cX10_minors 101 = .ok (.iaload, 1) := by decide +kernel
theorem dX10_minors_102 : decode cX10_minors 102 = .ok (.iload_n 3, 1) := by decide +kernel
theorem dX10_minors_103 : decode cX10_minors 103 = .ok (.invokestatic 246, 3) := by decide +kernel
theorem dX10_minors_106 : decode cX10_minors 106 = .ok (.iinc 3 1, 3) := by decide +kernel
theorem dX10_minors_109 : decode cX10_minors 109 = .ok (.goto (-29), 3) := by decide +kernel
theorem dX10_minors_112 : decode cX10_minors 112 = .ok (.iinc 2 1, 3) := by decide +kernel
theorem dX10_minors_115 : decode cX10_minors 115 = .ok (.goto (-45), 3) := by decide +kernel
theorem dX10_minors_118 : decode cX10_minors 118 = .ok (.aload_n 0, 1) := by decide +kernel
theorem dX10_minors_119 : decode cX10_minors 119 = .ok (.iconst 0, 1) := by decide +kernel
theorem dX10_minors_120 : decode cX10_minors 120 = .ok (.putfield 250, 3) := by decide +kernel
theorem dX10_minors_123 : decode cX10_minors 123 = .ok (.aload_n 1, 1) := by decide +kernel
theorem dX10_minors_124 : decode cX10_minors 124 = .ok (.iconst 0, 1) := by decide +kernel
theorem dX10_minors_125 : decode cX10_minors 125 = .ok (.iaload, 1) := by decide +kernel
theorem dX10_minors_126 : decode cX10_minors 126 = .ok (.iconst 1, 1) := by decide +kernel
theorem dX10_minors_127 : decode cX10_minors 127 = .ok (.isub, 1) := by decide +kernel
theorem dX10_minors_128 : decode cX10_minors 128 = .ok (.istore_n 2, 1) := by decide +kernel
theorem dX10_minors_129 : decode cX10_minors 129 = .ok (.iload_n 2, 1) := by decide +kernel
theorem dX10_minors_130 : decode cX10_minors 130 = .ok (.ifCond .lt 44, 3) := by decide +kernel
theorem dX10_minors_133 : decode cX10_minors 133 = .ok (.aload_n 1, 1) := by decide +kernel
theorem dX10_minors_134 : decode cX10_minors 134 = .ok (.iload_n 2, 1) := by decide +kernel
theorem dX10_minors_135 : decode cX10_minors 135 = .ok (.invokestatic 184, 3) := by decide +kernel
theorem dX10_minors_138 : decode cX10_minors 138 = .ok (.ifCond .ne 30, 3) := by decide +kernel
theorem dX10_minors_141 : decode cX10_minors 141 = .ok (.aload_n 0, 1) := by decide +kernel
theorem dX10_minors_142 : decode cX10_minors 142 = .ok (.getfield 45, 3) := by decide +kernel
theorem dX10_minors_145 : decode cX10_minors 145 = .ok (.iload_n 2, 1) := by decide +kernel
theorem dX10_minors_146 : decode cX10_minors 146 = .ok (.baload, 1) := by decide +kernel
theorem dX10_minors_147 : decode cX10_minors 147 = .ok (.ifCond .eq 6, 3) := by decide +kernel
theorem dX10_minors_150 : decode cX10_minors 150 = .ok (.goto 18, 3) := by decide +kernel
theorem dX10_minors_153 : decode cX10_minors 153 = .ok (.aload_n 1, 1) := by decide +kernel
theorem dX10_minors_154 : decode cX10_minors 154 = .ok (.iload_n 2, 1) := by decide +kernel
theorem dX10_minors_155 : decode cX10_minors 155 = .ok (.invokestatic 253, 3) := by decide +kernel
theorem dX10_minors_158 : decode cX10_minors 158 = .ok (.aload_n 0, 1) := by decide +kernel
theorem dX10_minors_159 : decode cX10_minors 159 = .ok (.dup, 1) := by decide +kernel
theorem dX10_minors_160 : decode cX10_minors 160 = .ok (.getfield 250, 3) := by decide +kernel
theorem dX10_minors_163 : decode cX10_minors 163 = .ok (.iconst 1, 1) := by decide +kernel
theorem dX10_minors_164 : decode cX10_minors 164 = .ok (.iadd, 1) := by decide +kernel
theorem dX10_minors_165 : decode cX10_minors 165 = .ok (.putfield 250, 3) := by decide +kernel
theorem dX10_minors_168 : decode cX10_minors 168 = .ok (.iinc 2 (-1), 3) := by decide +kernel
theorem dX10_minors_171 : decode cX10_minors 171 = .ok (.goto (-42), 3) := by decide +kernel
theorem dX10_minors_174 : decode cX10_minors 174 = .ok (.aload_n 1, 1) := by decide +kernel
theorem dX10_minors_175 : decode cX10_minors 175 = .ok (.sipush 1369, 3) := by decide +kernel
theorem dX10_minors_178 : decode cX10_minors 178 = .ok (.dup2, 1) := by decide +kernel
theorem dX10_minors_179 : decode cX10_minors 179 = .ok (.iaload, 1) := by decide +kernel
theorem dX10_minors_180 : decode cX10_minors 180 = .ok (.aload_n 0, 1) := by decide +kernel
theorem dX10_minors_181 : decode cX10_minors 181 = .ok (.getfield 250, 3) := by decide +kernel
theorem dX10_minors_184 : decode cX10_minors 184 = .ok (.iadd, 1) := by decide +kernel
theorem dX10_minors_185 : decode cX10_minors 185 = .ok (.iastore, 1) := by decide +kernel
theorem dX10_minors_186 : decode cX10_minors 186 = .ok (.aload_n 1, 1) := by decide +kernel
theorem dX10_minors_187 : decode cX10_minors 187 = .ok (.sipush 1365, 3) := by decide +kernel
theorem dX10_minors_190 : decode cX10_minors 190 = .ok (.dup2, 1) := by decide +kernel
theorem dX10_minors_191 : decode cX10_minors 191 = .ok (.iaload, 1) := by decide +kernel
theorem dX10_minors_192 : decode cX10_minors 192 = .ok (.iconst 1, 1) := by decide +kernel
theorem dX10_minors_193 : decode cX10_minors 193 = .ok (.iadd, 1) := by decide +kernel
theorem dX10_minors_194 : decode cX10_minors 194 = .ok (.iastore, 1) := by decide +kernel
theorem dX10_minors_195 : decode cX10_minors 195 = .ok (.aload_n 1, 1) := by decide +kernel
theorem dX10_minors_196 : decode cX10_minors 196 = .ok (.sipush 1372, 3) := by decide +kernel
theorem dX10_minors_199 : decode cX10_minors 199 = .ok (.iconst 1, 1) := by decide +kernel
theorem dX10_minors_200 : decode cX10_minors 200 = .ok (.aload_n 1, 1) := by decide +kernel
theorem dX10_minors_201 : decode cX10_minors 201 = .ok (.sipush 1372, 3) := by decide +kernel
theorem dX10_minors_204 : decode cX10_minors 204 = .ok (.iaload, 1) := by decide +kernel
theorem dX10_minors_205 : decode cX10_minors 205 = .ok (.isub, 1) := by decide +kernel
theorem dX10_minors_206 : decode cX10_minors 206 = .ok (.iastore, 1) := by decide +kernel
theorem dX10_minors_207 : decode cX10_minors 207 = .ok (.iconst 1, 1) := by decide +kernel
theorem dX10_minors_208 : decode cX10_minors 208 = .ok (.ireturn, 1) := by decide +kernel
theorem dX10_weakensAndEnds_0 : decode cX10_weakensAndEnds 0 = .ok (.iconst 0, 1) := by decide +kernel
theorem dX10_weakensAndEnds_1 : decode cX10_weakensAndEnds 1 = .ok (.istore_n 2, 1) := by decide +kernel
theorem dX10_weakensAndEnds_2 : decode cX10_weakensAndEnds 2 = .ok (.iload_n 2, 1) := by decide +kernel
theorem dX10_weakensAndEnds_3 : decode cX10_weakensAndEnds 3 = .ok (.aload_n 1, 1) := by decide +kernel
theorem dX10_weakensAndEnds_4 : decode cX10_weakensAndEnds 4 = .ok (.iconst 0, 1) := by decide +kernel
theorem dX10_weakensAndEnds_5 : decode cX10_weakensAndEnds 5 = .ok (.iaload, 1) := by decide +kernel
theorem dX10_weakensAndEnds_6 : decode cX10_weakensAndEnds 6 = .ok (.if_icmp .ge 33, 3) := by decide +kernel
theorem dX10_weakensAndEnds_9 : decode cX10_weakensAndEnds 9 = .ok (.aload_n 0, 1) := by decide +kernel
theorem dX10_weakensAndEnds_10 : decode cX10_weakensAndEnds 10 = .ok (.getfield 45, 3) := by decide +kernel
theorem dX10_weakensAndEnds_13 : decode cX10_weakensAndEnds 13 = .ok (.iload_n 2, 1) := by decide +kernel
theorem dX10_weakensAndEnds_14 : decode cX10_weakensAndEnds 14 = .ok (.baload, 1) := by decide +kernel
theorem dX10_weakensAndEnds_15 : decode cX10_weakensAndEnds 15 = .ok (.ifCond .ne 11, 3) := by decide +kernel
theorem dX10_weakensAndEnds_18 : decode cX10_weakensAndEnds 18 = .ok (.aload_n 1, 1) := by decide +kernel
theorem dX10_weakensAndEnds_19 : decode cX10_weakensAndEnds 19 = .ok (.iload_n 2, 1) := by decide +kernel
theorem dX10_weakensAndEnds_20 : decode cX10_weakensAndEnds 20 = .ok (.invokestatic 184, 3) := by decide +kernel
theorem dX10_weakensAndEnds_23 : decode cX10_weakensAndEnds 23 = .ok (.ifCond .eq 10, 3) := by decide +kernel
theorem dX10_weakensAndEnds_26 : decode cX10_weakensAndEnds 26 = .ok (.aload_n 0, 1) := by decide +kernel
theorem dX10_weakensAndEnds_27 : decode cX10_weakensAndEnds 27 = .ok (.aload_n 1, 1) := by decide +kernel
theorem dX10_weakensAndEnds_28 : decode cX10_weakensAndEnds 28 = .ok (.iload_n 2, 1) := by decide +kernel
theorem dX10_weakensAndEnds_29 : decode cX10_weakensAndEnds 29 = .ok (.iconst 1, 1) := by decide +kernel
theorem dX10_weakensAndEnds_30 : decode cX10_weakensAndEnds 30 = .ok (.invokevirtual 256, 3) := by decide +kernel
theorem dX10_weakensAndEnds_33 : decode cX10_weakensAndEnds 33 = .ok (.iinc 2 1, 3) := by decide +kernel
theorem dX10_weakensAndEnds_36 : decode cX10_weakensAndEnds 36 = .ok (.goto (-34), 3) := by decide +kernel
theorem dX10_weakensAndEnds_39 : decode cX10_weakensAndEnds 39 = .ok (.aload_n 0, 1) := by decide +kernel
theorem dX10_weakensAndEnds_40 : decode cX10_weakensAndEnds 40 = .ok (.aload_n 1, 1) := by decide +kernel
theorem dX10_weakensAndEnds_41 : decode cX10_weakensAndEnds 41 = .ok (.iconst 1, 1) := by decide +kernel
theorem dX10_weakensAndEnds_42 : decode cX10_weakensAndEnds 42 = .ok (.invokevirtual 260, 3) := by decide +kernel
theorem dX10_weakensAndEnds_45 : decode cX10_weakensAndEnds 45 = .ok (.aload_n 0, 1) := by decide +kernel
theorem dX10_weakensAndEnds_46 : decode cX10_weakensAndEnds 46 = .ok (.getfield 195, 3) := by decide +kernel
theorem dX10_weakensAndEnds_49 : decode cX10_weakensAndEnds 49 = .ok (.istore_n 2, 1) := by decide +kernel
theorem dX10_weakensAndEnds_50 : decode cX10_weakensAndEnds 50 = .ok (.iconst 0, 1) := by decide +kernel
theorem dX10_weakensAndEnds_51 : decode cX10_weakensAndEnds 51 = .ok (.istore_n 3, 1) := by decide +kernel
theorem dX10_weakensAndEnds_52 : decode cX10_weakensAndEnds 52 = .ok (.iload_n 3, 1) := by decide +kernel
theorem dX10_weakensAndEnds_53 : decode cX10_weakensAndEnds 53 = .ok (.aload_n 0, 1) := by decide +kernel
theorem dX10_weakensAndEnds_54 : decode cX10_weakensAndEnds 54 = .ok (.getfield 217, 3) := by decide +kernel
theorem dX10_weakensAndEnds_57 : decode cX10_weakensAndEnds 57 = .ok (.if_icmp .ge 40, 3) := by decide +kernel
theorem dX10_weakensAndEnds_60 : decode cX10_weakensAndEnds 60 = .ok (.aload_n 0, 1) := by decide +kernel
theorem dX10_weakensAndEnds_61 : decode cX10_weakensAndEnds 61 = .ok (.getfield 198, 3) := by decide +kernel
theorem dX10_weakensAndEnds_64 : decode cX10_weakensAndEnds 64 = .ok (.ifCond .ne 33, 3) := by decide +kernel
theorem dX10_weakensAndEnds_67 : decode cX10_weakensAndEnds 67 = .ok (.aload_n 0, 1) := by decide +kernel
theorem dX10_weakensAndEnds_68 : decode cX10_weakensAndEnds 68 = .ok (.getfield 195, 3) := by decide +kernel
theorem dX10_weakensAndEnds_71 : decode cX10_weakensAndEnds 71 = .ok (.istore 4, 2) := by decide +kernel
theorem dX10_weakensAndEnds_73 : decode cX10_weakensAndEnds 73 = .ok (.aload_n 0, 1) := by decide +kernel
theorem dX10_weakensAndEnds_74 : decode cX10_weakensAndEnds 74 = .ok (.aload_n 1, 1) := by decide +kernel
theorem dX10_weakensAndEnds_75 : decode cX10_weakensAndEnds 75 = .ok (.aload_n 0, 1) := by decide +kernel
theorem dX10_weakensAndEnds_76 : decode cX10_weakensAndEnds 76 = .ok (.getfield 52, 3) := by decide +kernel
theorem dX10_weakensAndEnds_79 : decode cX10_weakensAndEnds 79 = .ok (.iload_n 3, 1) := by decide +kernel
theorem dX10_weakensAndEnds_80 : decode cX10_weakensAndEnds 80 = .ok (.iaload, 1) := by decide +kernel
theorem dX10_weakensAndEnds_81 : decode cX10_weakensAndEnds 81 = .ok (.invokevirtual 226, 3) := by decide +kernel
theorem dX10_weakensAndEnds_84 : decode cX10_weakensAndEnds 84 = .ok (.aload_n 0, 1) := by decide +kernel
theorem dX10_weakensAndEnds_85 : decode cX10_weakensAndEnds 85 = .ok (.aload_n 1, 1) := by decide +kernel
theorem dX10_weakensAndEnds_86 : decode cX10_weakensAndEnds 86 = .ok (.iload 4, 2) := by decide +kernel
theorem dX10_weakensAndEnds_88 : decode cX10_weakensAndEnds 88 = .ok (.invokevirtual 229, 3) := by decide +kernel
theorem dX10_weakensAndEnds_91 : decode cX10_weakensAndEnds 91 = .ok (.iinc 3 1, 3) := by decide +kernel
theorem dX10_weakensAndEnds_94 : decode cX10_weakensAndEnds 94 = .ok (.goto (-42), 3) := by decide +kernel
theorem dX10_weakensAndEnds_97 : decode cX10_weakensAndEnds 97 = .ok (.iconst 0, 1) := by decide +kernel
theorem dX10_weakensAndEnds_98 : decode cX10_weakensAndEnds 98 = .ok (.istore_n 3, 1) := by decide +kernel
theorem dX10_weakensAndEnds_99 : decode cX10_weakensAndEnds 99 = .ok (.iload_n 3, 1) := by decide +kernel
theorem dX10_weakensAndEnds_100 : decode cX10_weakensAndEnds 100 = .ok (.aload_n 1, 1) := by decide +kernel
theorem dX10_weakensAndEnds_101 : decode cX10_weakensAndEnds 101 = .ok (.iconst 0, 1) := by decide +kernel
theorem dX10_weakensAndEnds_102 : decode cX10_weakensAndEnds 102 = .ok (.iaload, 1) := by decide +kernel
theorem dX10_weakensAndEnds_103 : decode cX10_weakensAndEnds 103 = .ok (.if_icmp .ge 25, 3) := by decide +kernel
theorem dX10_weakensAndEnds_106 : decode cX10_weakensAndEnds 106 = .ok (.aload_n 0, 1) := by decide +kernel
theorem dX10_weakensAndEnds_107 : decode cX10_weakensAndEnds 107 = .ok (.iload_n 3, 1) := by decide +kernel
theorem dX10_weakensAndEnds_108 : decode cX10_weakensAndEnds 108 = .ok (.iload_n 2, 1) := by decide +kernel
theorem dX10_weakensAndEnds_109 : decode cX10_weakensAndEnds 109 = .ok (.invokevirtual 264, 3) := by decide +kernel
theorem dX10_weakensAndEnds_112 : decode cX10_weakensAndEnds 112 = .ok (.ifCond .eq 10, 3) := by decide +kernel
theorem dX10_weakensAndEnds_115 : decode cX10_weakensAndEnds 115 = .ok (.aload_n 0, 1) := by decide +kernel
theorem dX10_weakensAndEnds_116 : decode cX10_weakensAndEnds 116 = .ok (.aload_n 1, 1) := by decide +kernel
theorem dX10_weakensAndEnds_117 : decode cX10_weakensAndEnds 117 = .ok (.iload_n 3, 1) := by decide +kernel
theorem dX10_weakensAndEnds_118 : decode cX10_weakensAndEnds 118 = .ok (.iconst 1, 1) := by decide +kernel
theorem dX10_weakensAndEnds_119 : decode cX10_weakensAndEnds 119 = .ok (.invokevirtual 256, 3) := by decide +kernel
theorem dX10_weakensAndEnds_122 : decode cX10_weakensAndEnds 122 = .ok (.iinc 3 1, 3) := by decide +kernel
theorem dX10_weakensAndEnds_125 : decode cX10_weakensAndEnds 125 = .ok (.goto (-26), 3) := by decide +kernel
theorem dX10_weakensAndEnds_128 : decode cX10_weakensAndEnds 128 = .ok (.return_, 1) := by decide +kernel
theorem dX10_isMetBehind_0 : decode cX10_isMetBehind 0 = .ok (.iload_n 2, 1) := by decide +kernel
theorem dX10_isMetBehind_1 : decode cX10_isMetBehind 1 = .ok (.istore_n 3, 1) := by decide +kernel
theorem dX10_isMetBehind_2 : decode cX10_isMetBehind 2 = .ok (.iload_n 3, 1) := by decide +kernel
theorem dX10_isMetBehind_3 : decode cX10_isMetBehind 3 = .ok (.aload_n 0, 1) := by decide +kernel
theorem dX10_isMetBehind_4 : decode cX10_isMetBehind 4 = .ok (.getfield 195, 3) := by decide +kernel
theorem dX10_isMetBehind_7 : decode cX10_isMetBehind 7 = .ok (.if_icmp .ge 21, 3) := by decide +kernel
theorem dX10_isMetBehind_10 : decode cX10_isMetBehind 10 = .ok (.aload_n 0, 1) := by decide +kernel
theorem dX10_isMetBehind_11 : decode cX10_isMetBehind 11 = .ok (.getfield 49, 3) := by decide +kernel
theorem dX10_isMetBehind_14 : decode cX10_isMetBehind 14 = .ok (.iload_n 3, 1) := by decide +kernel
theorem dX10_isMetBehind_15 : decode cX10_isMetBehind 15 = .ok (.iaload, 1) := by decide +kernel
theorem dX10_isMetBehind_16 : decode cX10_isMetBehind 16 = .ok (.iload_n 1, 1) := by decide +kernel
theorem dX10_isMetBehind_17 : decode cX10_isMetBehind 17 = .ok (.if_icmp .ne 5, 3) := by decide +kernel
theorem dX10_isMetBehind_20 : decode cX10_isMetBehind 20 = .ok (.iconst 1, 1) := by decide +kernel
theorem dX10_isMetBehind_21 : decode cX10_isMetBehind 21 = .ok (.ireturn, 1) := by decide +kernel
theorem dX10_isMetBehind_22 : decode cX10_isMetBehind 22 = .ok (.iinc 3 1, 3) := by decide +kernel
theorem dX10_isMetBehind_25 : decode cX10_isMetBehind 25 = .ok (.goto (-23), 3) := by decide +kernel
theorem dX10_isMetBehind_28 : decode cX10_isMetBehind 28 = .ok (.iconst 0, 1) := by decide +kernel
theorem dX10_isMetBehind_29 : decode cX10_isMetBehind 29 = .ok (.ireturn, 1) := by decide +kernel
theorem dX10_majors_0 : decode cX10_majors 0 = .ok (.aload_n 0, 1) := by decide +kernel
theorem dX10_majors_1 : decode cX10_majors 1 = .ok (.aload_n 1, 1) := by decide +kernel
theorem dX10_majors_2 : decode cX10_majors 2 = .ok (.iconst (-1), 1) := by decide +kernel
theorem dX10_majors_3 : decode cX10_majors 3 = .ok (.iconst 1, 1) := by decide +kernel
theorem dX10_majors_4 : decode cX10_majors 4 = .ok (.invokevirtual 268, 3) := by decide +kernel
theorem dX10_majors_7 : decode cX10_majors 7 = .ok (.iconst 0, 1) := by decide +kernel
theorem dX10_majors_8 : decode cX10_majors 8 = .ok (.istore_n 2, 1) := by decide +kernel
theorem dX10_majors_9 : decode cX10_majors 9 = .ok (.iload_n 2, 1) := by decide +kernel
theorem dX10_majors_10 : decode cX10_majors 10 = .ok (.aload_n 1, 1) := by decide +kernel
theorem dX10_majors_11 : decode cX10_majors 11 = .ok (.iconst 0, 1) := by decide +kernel
theorem dX10_majors_12 : decode cX10_majors 12 = .ok (.iaload, 1) := by decide +kernel
theorem dX10_majors_13 : decode cX10_majors 13 = .ok (.if_icmp .ge 25, 3) := by decide +kernel
theorem dX10_majors_16 : decode cX10_majors 16 = .ok (.aload_n 0, 1) := by decide +kernel
theorem dX10_majors_17 : decode cX10_majors 17 = .ok (.getfield 45, 3) := by decide +kernel
theorem dX10_majors_20 : decode cX10_majors 20 = .ok (.iload_n 2, 1) := by decide +kernel
theorem dX10_majors_21 : decode cX10_majors 21 = .ok (.baload, 1) := by decide +kernel
theorem dX10_majors_22 : decode cX10_majors 22 = .ok (.ifCond .eq 10, 3) := by decide +kernel
theorem dX10_majors_25 : decode cX10_majors 25 = .ok (.aload_n 0, 1) := by decide +kernel
theorem dX10_majors_26 : decode cX10_majors 26 = .ok (.aload_n 1, 1) := by decide +kernel
theorem dX10_majors_27 : decode cX10_majors 27 = .ok (.iload_n 2, 1) := by decide +kernel
theorem dX10_majors_28 : decode cX10_majors 28 = .ok (.iconst 0, 1) := by decide +kernel
theorem dX10_majors_29 : decode cX10_majors 29 = .ok (.invokevirtual 256, 3) := by decide +kernel
theorem dX10_majors_32 : decode cX10_majors 32 = .ok (.iinc 2 1, 3) := by decide +kernel
theorem dX10_majors_35 : decode cX10_majors 35 = .ok (.goto (-26), 3) := by decide +kernel
theorem dX10_majors_38 : decode cX10_majors 38 = .ok (.aload_n 0, 1) := by decide +kernel
theorem dX10_majors_39 : decode cX10_majors 39 = .ok (.aload_n 1, 1) := by decide +kernel
theorem dX10_majors_40 : decode cX10_majors 40 = .ok (.iconst 0, 1) := by decide +kernel
theorem dX10_majors_41 : decode cX10_majors 41 = .ok (.invokevirtual 260, 3) := by decide +kernel
theorem dX10_majors_44 : decode cX10_majors 44 = .ok (.aload_n 0, 1) := by decide +kernel
theorem dX10_majors_45 : decode cX10_majors 45 = .ok (.getfield 195, 3) := by decide +kernel
theorem dX10_majors_48 : decode cX10_majors 48 = .ok (.istore_n 2, 1) := by decide +kernel
theorem dX10_majors_49 : decode cX10_majors 49 = .ok (.iconst 0, 1) := by decide +kernel
theorem dX10_majors_50 : decode cX10_majors 50 = .ok (.istore_n 3, 1) := by decide +kernel
theorem dX10_majors_51 : decode cX10_majors 51 = .ok (.iload_n 3, 1) := by decide +kernel
theorem dX10_majors_52 : decode cX10_majors 52 = .ok (.aload_n 0, 1) := by decide +kernel
theorem dX10_majors_53 : decode cX10_majors 53 = .ok (.getfield 217, 3) := by decide +kernel
theorem dX10_majors_56 : decode cX10_majors 56 = .ok (.if_icmp .ge 19, 3) := by decide +kernel
theorem dX10_majors_59 : decode cX10_majors 59 = .ok (.aload_n 0, 1) := by decide +kernel
theorem dX10_majors_60 : decode cX10_majors 60 = .ok (.aload_n 0, 1) := by decide +kernel
theorem dX10_majors_61 : decode cX10_majors 61 = .ok (.getfield 52, 3) := by decide +kernel
theorem dX10_majors_64 : decode cX10_majors 64 = .ok (.iload_n 3, 1) := by decide +kernel
theorem dX10_majors_65 : decode cX10_majors 65 = .ok (.iaload, 1) := by decide +kernel
theorem dX10_majors_66 : decode cX10_majors 66 = .ok (.invokevirtual 204, 3) := by decide +kernel
theorem dX10_majors_69 : decode cX10_majors 69 = .ok (.iinc 3 1, 3) := by decide +kernel
theorem dX10_majors_72 : decode cX10_majors 72 = .ok (.goto (-21), 3) := by decide +kernel
theorem dX10_majors_75 : decode cX10_majors 75 = .ok (.aload_n 0, 1) := by decide +kernel
theorem dX10_majors_76 : decode cX10_majors 76 = .ok (.aload_n 1, 1) := by decide +kernel
theorem dX10_majors_77 : decode cX10_majors 77 = .ok (.iload_n 2, 1) := by decide +kernel
theorem dX10_majors_78 : decode cX10_majors 78 = .ok (.invokevirtual 210, 3) := by decide +kernel
theorem dX10_majors_81 : decode cX10_majors 81 = .ok (.iconst 0, 1) := by decide +kernel
theorem dX10_majors_82 : decode cX10_majors 82 = .ok (.istore_n 3, 1) := by decide +kernel
theorem dX10_majors_83 : decode cX10_majors 83 = .ok (.iload_n 3, 1) := by decide +kernel
theorem dX10_majors_84 : decode cX10_majors 84 = .ok (.aload_n 1, 1) := by decide +kernel
theorem dX10_majors_85 : decode cX10_majors 85 = .ok (.iconst 0, 1) := by decide +kernel
theorem dX10_majors_86 : decode cX10_majors 86 = .ok (.iaload, 1) := by decide +kernel
theorem dX10_majors_87 : decode cX10_majors 87 = .ok (.if_icmp .ge 25, 3) := by decide +kernel
theorem dX10_majors_90 : decode cX10_majors 90 = .ok (.aload_n 0, 1) := by decide +kernel
theorem dX10_majors_91 : decode cX10_majors 91 = .ok (.iload_n 3, 1) := by decide +kernel
theorem dX10_majors_92 : decode cX10_majors 92 = .ok (.iload_n 2, 1) := by decide +kernel
theorem dX10_majors_93 : decode cX10_majors 93 = .ok (.invokevirtual 264, 3) := by decide +kernel
theorem dX10_majors_96 : decode cX10_majors 96 = .ok (.ifCond .eq 10, 3) := by decide +kernel
theorem dX10_majors_99 : decode cX10_majors 99 = .ok (.aload_n 0, 1) := by decide +kernel
theorem dX10_majors_100 : decode cX10_majors 100 = .ok (.aload_n 1, 1) := by decide +kernel
theorem dX10_majors_101 : decode cX10_majors 101 = .ok (.iload_n 3, 1) := by decide +kernel
theorem dX10_majors_102 : decode cX10_majors 102 = .ok (.iconst 0, 1) := by decide +kernel
theorem dX10_majors_103 : decode cX10_majors 103 = .ok (.invokevirtual 256, 3) := by decide +kernel
theorem dX10_majors_106 : decode cX10_majors 106 = .ok (.iinc 3 1, 3) := by decide +kernel
theorem dX10_majors_109 : decode cX10_majors 109 = .ok (.goto (-26), 3) := by decide +kernel
theorem dX10_majors_112 : decode cX10_majors 112 = .ok (.aload_n 0, 1) := by decide +kernel
theorem dX10_majors_113 : decode cX10_majors 113 = .ok (.aload_n 1, 1) := by decide +kernel
theorem dX10_majors_114 : decode cX10_majors 114 = .ok (.invokevirtual 271, 3) := by decide +kernel
theorem dX10_majors_117 : decode cX10_majors 117 = .ok (.iconst 0, 1) := by decide +kernel
theorem dX10_majors_118 : decode cX10_majors 118 = .ok (.istore_n 3, 1) := by decide +kernel
theorem dX10_majors_119 : decode cX10_majors 119 = .ok (.iload_n 3, 1) := by decide +kernel
theorem dX10_majors_120 : decode cX10_majors 120 = .ok (.aload_n 1, 1) := by decide +kernel
theorem dX10_majors_121 : decode cX10_majors 121 = .ok (.iconst 0, 1) := by decide +kernel
theorem dX10_majors_122 : decode cX10_majors 122 = .ok (.iaload, 1) := by decide +kernel
theorem dX10_majors_123 : decode cX10_majors 123 = .ok (.if_icmp .ge 53, 3) := by decide +kernel
theorem dX10_majors_126 : decode cX10_majors 126 = .ok (.iconst 0, 1) := by decide +kernel
theorem dX10_majors_127 : decode cX10_majors 127 = .ok (.istore 4, 2) := by decide +kernel
theorem dX10_majors_129 : decode cX10_majors 129 = .ok (.iload 4, 2) := by decide +kernel
theorem dX10_majors_131 : decode cX10_majors 131 = .ok (.iconst 4, 1) := by decide +kernel
theorem dX10_majors_132 : decode cX10_majors 132 = .ok (.if_icmp .ge 38, 3) := by decide +kernel
theorem dX10_majors_135 : decode cX10_majors 135 = .ok (.aload_n 0, 1) := by decide +kernel
theorem dX10_majors_136 : decode cX10_majors 136 = .ok (.getfield 45, 3) := by decide +kernel
theorem dX10_majors_139 : decode cX10_majors 139 = .ok (.iload_n 3, 1) := by decide +kernel
theorem dX10_majors_140 : decode cX10_majors 140 = .ok (.baload, 1) := by decide +kernel
theorem dX10_majors_141 : decode cX10_majors 141 = .ok (.ifCond .ne 29, 3) := by decide +kernel
theorem dX10_majors_144 : decode cX10_majors 144 = .ok (.aload_n 1, 1) := by decide +kernel
theorem dX10_majors_145 : decode cX10_majors 145 = .ok (.iload_n 3, 1) := by decide +kernel
theorem dX10_majors_146 : decode cX10_majors 146 = .ok (.invokestatic 184, 3) := by decide +kernel
theorem dX10_majors_149 : decode cX10_majors 149 = .ok (.ifCond .ne 21, 3) := by decide +kernel
theorem dX10_majors_152 : decode cX10_majors 152 = .ok (.aload_n 1, 1) := by decide +kernel
theorem dX10_majors_153 : decode cX10_majors 153 = .ok (.iload_n 3, 1) := by decide +kernel
theorem dX10_majors_154 : decode cX10_majors 154 = .ok (.bipush 7, 2) := by decide +kernel
theorem dX10_majors_156 : decode cX10_majors 156 = .ok (.iload 4, 2) := by decide +kernel
theorem dX10_majors_158 : decode cX10_majors 158 = .ok (.iadd, 1) := by decide +kernel
theorem dX10_majors_159 : decode cX10_majors 159 = .ok (.invokestatic 178, 3) := by decide +kernel
theorem dX10_majors_162 : decode cX10_majors 162 = .ok (.iconst 0, 1) := by decide +kernel
theorem dX10_majors_163 : decode cX10_majors 163 = .ok (.iastore, 1) := by decide +kernel
theorem dX10_majors_164 : decode cX10_majors 164 = .ok (.iinc 4 1, 3) := by decide +kernel
theorem dX10_majors_167 : decode cX10_majors 167 = .ok (.goto (-38), 3) := by decide +kernel
theorem dX10_majors_170 : decode cX10_majors 170 = .ok (.iinc 3 1, 3) := by decide +kernel
theorem dX10_majors_173 : decode cX10_majors 173 = .ok (.goto (-54), 3) := by decide +kernel
theorem dX10_majors_176 : decode cX10_majors 176 = .ok (.aload_n 0, 1) := by decide +kernel
theorem dX10_majors_177 : decode cX10_majors 177 = .ok (.iconst 0, 1) := by decide +kernel
theorem dX10_majors_178 : decode cX10_majors 178 = .ok (.putfield 250, 3) := by decide +kernel
theorem dX10_majors_181 : decode cX10_majors 181 = .ok (.aload_n 1, 1) := by decide +kernel
theorem dX10_majors_182 : decode cX10_majors 182 = .ok (.iconst 0, 1) := by decide +kernel
theorem dX10_majors_183 : decode cX10_majors 183 = .ok (.iaload, 1) := by decide +kernel
theorem dX10_majors_184 : decode cX10_majors 184 = .ok (.iconst 1, 1) := by decide +kernel
theorem dX10_majors_185 : decode cX10_majors 185 = .ok (.isub, 1) := by decide +kernel
theorem dX10_majors_186 : decode cX10_majors 186 = .ok (.istore_n 3, 1) := by decide +kernel
theorem dX10_majors_187 : decode cX10_majors 187 = .ok (.iload_n 3, 1) := by decide +kernel
theorem dX10_majors_188 : decode cX10_majors 188 = .ok (.ifCond .lt 44, 3) := by decide +kernel
theorem dX10_majors_191 : decode cX10_majors 191 = .ok (.aload_n 1, 1) := by decide +kernel
theorem dX10_majors_192 : decode cX10_majors 192 = .ok (.iload_n 3, 1) := by decide +kernel
theorem dX10_majors_193 : decode cX10_majors 193 = .ok (.invokestatic 184, 3) := by decide +kernel
theorem dX10_majors_196 : decode cX10_majors 196 = .ok (.ifCond .eq 30, 3) := by decide +kernel
theorem dX10_majors_199 : decode cX10_majors 199 = .ok (.aload_n 0, 1) := by decide +kernel
theorem dX10_majors_200 : decode cX10_majors 200 = .ok (.getfield 45, 3) := by decide +kernel
theorem dX10_majors_203 : decode cX10_majors 203 = .ok (.iload_n 3, 1) := by decide +kernel
theorem dX10_majors_204 : decode cX10_majors 204 = .ok (.baload, 1) := by decide +kernel
theorem dX10_majors_205 : decode cX10_majors 205 = .ok (.ifCond .eq 6, 3) := by decide +kernel
theorem dX10_majors_208 : decode cX10_majors 208 = .ok (.goto 18, 3) := by decide +kernel
theorem dX10_majors_211 : decode cX10_majors 211 = .ok (.aload_n 1, 1) := by decide +kernel
theorem dX10_majors_212 : decode cX10_majors 212 = .ok (.iload_n 3, 1) := by decide +kernel
theorem dX10_majors_213 : decode cX10_majors 213 = .ok (.invokestatic 253, 3) := by decide +kernel
theorem dX10_majors_216 : decode cX10_majors 216 = .ok (.aload_n 0, 1) := by decide +kernel
theorem dX10_majors_217 : decode cX10_majors 217 = .ok (.dup, 1) := by decide +kernel
theorem dX10_majors_218 : decode cX10_majors 218 = .ok (.getfield 250, 3) := by decide +kernel
theorem dX10_majors_221 : decode cX10_majors 221 = .ok (.iconst 1, 1) := by decide +kernel
theorem dX10_majors_222 : decode cX10_majors 222 = .ok (.iadd, 1) := by decide +kernel
theorem dX10_majors_223 : decode cX10_majors 223 = .ok (.putfield 250, 3) := by decide +kernel
theorem dX10_majors_226 : decode cX10_majors 226 = .ok (.iinc 3 (-1), 3) := by decide +kernel
theorem dX10_majors_229 : decode cX10_majors 229 = .ok (.goto (-42), 3) := by decide +kernel
theorem dX10_majors_232 : decode cX10_majors 232 = .ok (.aload_n 1, 1) := by decide +kernel
theorem dX10_majors_233 : decode cX10_majors 233 = .ok (.invokestatic 243, 3) := by decide +kernel
theorem dX10_majors_236 : decode cX10_majors 236 = .ok (.aload_n 1, 1) := by decide +kernel
theorem dX10_majors_237 : decode cX10_majors 237 = .ok (.sipush 1369, 3) := by decide +kernel
theorem dX10_majors_240 : decode cX10_majors 240 = .ok (.dup2, 1) := by decide +kernel
theorem dX10_majors_241 : decode cX10_majors 241 = .ok (.iaload, 1) := by decide +kernel
theorem dX10_majors_242 : decode cX10_majors 242 = .ok (.aload_n 0, 1) := by decide +kernel
theorem dX10_majors_243 : decode cX10_majors 243 = .ok (.getfield 250, 3) := by decide +kernel
theorem dX10_majors_246 : decode cX10_majors 246 = .ok (.iadd, 1) := by decide +kernel
theorem dX10_majors_247 : decode cX10_majors 247 = .ok (.iastore, 1) := by decide +kernel
theorem dX10_majors_248 : decode cX10_majors 248 = .ok (.aload_n 1, 1) := by decide +kernel
theorem dX10_majors_249 : decode cX10_majors 249 = .ok (.sipush 1366, 3) := by decide +kernel
theorem dX10_majors_252 : decode cX10_majors 252 = .ok (.dup2, 1) := by decide +kernel
theorem dX10_majors_253 : decode cX10_majors 253 = .ok (.iaload, 1) := by decide +kernel
theorem dX10_majors_254 : decode cX10_majors 254 = .ok (.iconst 1, 1) := by decide +kernel
theorem dX10_majors_255 : decode cX10_majors 255 = .ok (.iadd, 1) := by decide +kernel
theorem dX10_majors_256 : decode cX10_majors 256 = .ok (.iastore, 1) := by decide +kernel
theorem dX10_majors_257 : decode cX10_majors 257 = .ok (.return_, 1) := by decide +kernel
theorem dX10_slides_0 : decode cX10_slides 0 = .ok (.iconst 0, 1) := by decide +kernel
theorem dX10_slides_1 : decode cX10_slides 1 = .ok (.istore_n 2, 1) := by decide +kernel
theorem dX10_slides_2 : decode cX10_slides 2 = .ok (.iconst (-1), 1) := by decide +kernel
theorem dX10_slides_3 : decode cX10_slides 3 = .ok (.istore_n 3, 1) := by decide +kernel
theorem dX10_slides_4 : decode cX10_slides 4 = .ok (.aload_n 0, 1) := by decide +kernel
theorem dX10_slides_5 : decode cX10_slides 5 = .ok (.iconst 0, 1) := by decide +kernel
theorem dX10_slides_6 : decode cX10_slides 6 = .ok (.putfield 274, 3) := by decide +kernel
theorem dX10_slides_9 : decode cX10_slides 9 = .ok (.iconst (-1), 1) := by decide +kernel
theorem dX10_slides_10 : decode cX10_slides 10 = .ok (.istore 4, 2) := by decide +kernel
theorem dX10_slides_12 : decode cX10_slides 12 = .ok (.iconst 0, 1) := by decide +kernel
theorem dX10_slides_13 : decode cX10_slides 13 = .ok (.istore 5, 2) := by decide +kernel
theorem dX10_slides_15 : decode cX10_slides 15 = .ok (.iload 5, 2) := by decide +kernel
theorem dX10_slides_17 : decode cX10_slides 17 = .ok (.aload_n 1, 1) := by decide +kernel
theorem dX10_slides_18 : decode cX10_slides 18 = .ok (.iconst 0, 1) := by decide +kernel
theorem dX10_slides_19 : decode cX10_slides 19 = .ok (.iaload, 1) := by decide +kernel
theorem dX10_slides_20 : decode cX10_slides 20 = .ok (.if_icmp .ge 69, 3) := by decide +kernel
theorem dX10_slides_23 : decode cX10_slides 23 = .ok (.aload_n 1, 1) := by decide +kernel
theorem dX10_slides_24 : decode cX10_slides 24 = .ok (.iload 5, 2) := by decide +kernel
theorem dX10_slides_26 : decode cX10_slides 26 = .ok (.invokestatic 184, 3) := by decide +kernel
theorem dX10_slides_29 : decode cX10_slides 29 = .ok (.ifCond .eq 54, 3) := by decide +kernel
theorem dX10_slides_32 : decode cX10_slides 32 = .ok (.aload_n 0, 1) := by decide +kernel
theorem dX10_slides_33 : decode cX10_slides 33 = .ok (.getfield 45, 3) := by decide +kernel
theorem dX10_slides_36 : decode cX10_slides 36 = .ok (.iload 5, 2) := by decide +kernel
theorem dX10_slides_38 : decode cX10_slides 38 = .ok (.baload, 1) := by decide +kernel
theorem dX10_slides_39 : decode cX10_slides 39 = .ok (.ifCond .eq 44, 3) := by decide +kernel
theorem dX10_slides_42 : decode cX10_slides 42 = .ok (.aload_n 1, 1) := by decide +kernel
theorem dX10_slides_43 : decode cX10_slides 43 = .ok (.iload 5, 2) := by decide +kernel
theorem dX10_slides_45 : decode cX10_slides 45 = .ok (.bipush 6, 2) := by decide +kernel
theorem dX10_slides_47 : decode cX10_slides 47 = .ok (.invokestatic 167, 3) := by decide +kernel
theorem dX10_slides_50 : decode cX10_slides 50 = .ok (.iload_n 3, 1) := by decide +kernel
theorem dX10_slides_51 : decode cX10_slides 51 = .ok (.if_icmp .le 32, 3) := by decide +kernel
theorem dX10_slides_54 : decode cX10_slides 54 = .ok (.iload 4, 2) := by decide +kernel
theorem dX10_slides_56 : decode cX10_slides 56 = .ok (.iconst (-1), 1) := by decide +kernel
theorem dX10_slides_57 : decode cX10_slides 57 = .ok (.if_icmp .eq 22, 3) := by decide +kernel
theorem dX10_slides_60 : decode cX10_slides 60 = .ok (.aload_n 1, 1) := by decide +kernel
theorem dX10_slides_61 : decode cX10_slides 61 = .ok (.iload 5, 2) := by decide +kernel
theorem dX10_slides_63 : decode cX10_slides 63 = .ok (.bipush 6, 2) := by decide +kernel
theorem dX10_slides_65 : decode cX10_slides 65 = .ok (.invokestatic 167, 3) := by decide +kernel
theorem dX10_slides_68 : decode cX10_slides 68 = .ok (.aload_n 1, 1) := by decide +kernel
theorem dX10_slides_69 : decode cX10_slides 69 = .ok (.iload 4, 2) := by decide +kernel
theorem dX10_slides_71 : decode cX10_slides 71 = .ok (.bipush 6, 2) := by decide +kernel
theorem dX10_slides_73 : decode cX10_slides 73 = .ok (.invokestatic 167, 3) := by decide +kernel
theorem dX10_slides_76 : decode cX10_slides 76 = .ok (.if_icmp .ge 7, 3) := by decide +kernel
theorem dX10_slides_79 : decode cX10_slides 79 = .ok (.iload 5, 2) := by decide +kernel
theorem dX10_slides_81 : decode cX10_slides 81 = .ok (.istore 4, 2) := by decide +kernel
theorem dX10_slides_83 : decode cX10_slides 83 = .ok (.iinc 5 1, 3) := by decide +kernel
theorem dX10_slides_86 : decode cX10_slides 86 = .ok (.goto (-71), 3) := by decide +kernel
theorem dX10_slides_89 : decode cX10_slides 89 = .ok (.iload 4, 2) := by decide +kernel
theorem dX10_slides_91 : decode cX10_slides 91 = .ok (.iconst (-1), 1) := by decide +kernel
theorem dX10_slides_92 : decode cX10_slides 92 = .ok (.if_icmp .ne 4, 3) := by decide +kernel
theorem dX10_slides_95 : decode cX10_slides 95 = .ok (.return_, 1) := by decide +kernel
theorem dX10_slides_96 : decode cX10_slides 96 = .ok (.aload_n 1, 1) := by decide +kernel
theorem dX10_slides_97 : decode cX10_slides 97 = .ok (.iload 4, 2) := by decide +kernel
theorem dX10_slides_99 : decode cX10_slides 99 = .ok (.bipush 6, 2) := by decide +kernel
theorem dX10_slides_101 : decode cX10_slides 101 = .ok (.invokestatic 167, 3) := by decide +kernel
theorem dX10_slides_104 : decode cX10_slides 104 = .ok (.istore_n 3, 1) := by decide +kernel
theorem dX10_slides_105 : decode cX10_slides 105 = .ok (.aload_n 0, 1) := by decide +kernel
theorem dX10_slides_106 : decode cX10_slides 106 = .ok (.dup, 1) := by decide +kernel
theorem dX10_slides_107 : decode cX10_slides 107 = .ok (.getfield 274, 3) := by decide +kernel
theorem dX10_slides_110 : decode cX10_slides 110 = .ok (.iload_n 3, 1) := by decide +kernel
theorem dX10_slides_111 : decode cX10_slides 111 = .ok (.iload_n 2, 1) := by decide +kernel
theorem dX10_slides_112 : decode cX10_slides 112 = .ok (.if_icmp .ne 7, 3) := by decide +kernel
theorem dX10_slides_115 : decode cX10_slides 115 = .ok (.iconst 0, 1) := by decide +kernel
theorem dX10_slides_116 : decode cX10_slides 116 = .ok (.goto 4, 3) := by decide +kernel
theorem dX10_slides_119 : decode cX10_slides 119 = .ok (.iconst 1, 1) := by decide +kernel
theorem dX10_slides_120 : decode cX10_slides 120 = .ok (.iadd, 1) := by decide +kernel
theorem dX10_slides_121 : decode cX10_slides 121 = .ok (.putfield 274, 3) := by decide +kernel
theorem dX10_slides_124 : decode cX10_slides 124 = .ok (.aload_n 1, 1) := by decide +kernel
theorem dX10_slides_125 : decode cX10_slides 125 = .ok (.iload 4, 2) := by decide +kernel
theorem dX10_slides_127 : decode cX10_slides 127 = .ok (.bipush 6, 2) := by decide +kernel
theorem dX10_slides_129 : decode cX10_slides 129 = .ok (.invokestatic 178, 3) := by decide +kernel
theorem dX10_slides_132 : decode cX10_slides 132 = .ok (.iload_n 2, 1) := by decide +kernel
theorem dX10_slides_133 : decode cX10_slides 133 = .ok (.iastore, 1) := by decide +kernel
theorem dX10_slides_134 : decode cX10_slides 134 = .ok (.iload_n 2, 1) := by decide +kernel
theorem dX10_slides_135 : decode cX10_slides 135 = .ok (.aload_n 1, 1) := by decide +kernel
theorem dX10_slides_136 : decode cX10_slides 136 = .ok (.iload 4, 2) := by decide +kernel
theorem dX10_slides_138 : decode cX10_slides 138 = .ok (.invokestatic 171, 3) := by decide +kernel
theorem dX10_slides_141 : decode cX10_slides 141 = .ok (.iadd, 1) := by decide +kernel
theorem dX10_slides_142 : decode cX10_slides 142 = .ok (.istore_n 2, 1) := by decide +kernel
theorem dX10_slides_143 : decode cX10_slides 143 = .ok (.goto (-134), 3) := by decide +kernel
theorem dX10_isRoot_0 : decode cX10_isRoot 0 = .ok (.aload_n 0, 1) := by decide +kernel
theorem dX10_isRoot_1 : decode cX10_isRoot 1 = .ok (.getfield 157, 3) := by decide +kernel
theorem dX10_isRoot_4 : decode cX10_isRoot 4 = .ok (.ifCond .eq 17, 3) := by decide +kernel
theorem dX10_isRoot_7 : decode cX10_isRoot 7 = .ok (.iload_n 1, 1) := by decide +kernel
theorem dX10_isRoot_8 : decode cX10_isRoot 8 = .ok (.ifCond .lt 13, 3) := by decide +kernel
theorem dX10_isRoot_11 : decode cX10_isRoot 11 = .ok (.iload_n 1, 1) := by decide +kernel
theorem dX10_isRoot_12 : decode cX10_isRoot 12 = .ok (.bipush 8, 2) := by decide +kernel
theorem dX10_isRoot_14 : decode cX10_isRoot 14 = .ok (.if_icmp .ge 7, 3) := by decide +kernel
theorem dX10_isRoot_17 : decode cX10_isRoot 17 = .ok (.iconst 1, 1) := by decide +kernel
theorem dX10_isRoot_18 : decode cX10_isRoot 18 = .ok (.goto 4, 3) := by decide +kernel
theorem dX10_isRoot_21 : decode cX10_isRoot 21 = .ok (.iconst 0, 1) := by decide +kernel
theorem dX10_isRoot_22 : decode cX10_isRoot 22 = .ok (.ireturn, 1) := by decide +kernel
theorem dX10_rootSpot_0 : decode cX10_rootSpot 0 = .ok (.aload_n 0, 1) := by decide +kernel
theorem dX10_rootSpot_1 : decode cX10_rootSpot 1 = .ok (.aload_n 0, 1) := by decide +kernel
theorem dX10_rootSpot_2 : decode cX10_rootSpot 2 = .ok (.sipush 881, 3) := by decide +kernel
theorem dX10_rootSpot_5 : decode cX10_rootSpot 5 = .ok (.iload_n 1, 1) := by decide +kernel
theorem dX10_rootSpot_6 : decode cX10_rootSpot 6 = .ok (.iadd, 1) := by decide +kernel
theorem dX10_rootSpot_7 : decode cX10_rootSpot 7 = .ok (.iaload, 1) := by decide +kernel
theorem dX10_rootSpot_8 : decode cX10_rootSpot 8 = .ok (.invokestatic 182, 3) := by decide +kernel
theorem dX10_rootSpot_11 : decode cX10_rootSpot 11 = .ok (.ireturn, 1) := by decide +kernel
theorem dX10_stops_0 : decode cX10_stops 0 = .ok (.aload_n 0, 1) := by decide +kernel
theorem dX10_stops_1 : decode cX10_stops 1 = .ok (.getfield 157, 3) := by decide +kernel
theorem dX10_stops_4 : decode cX10_stops 4 = .ok (.ifCond .ne 5, 3) := by decide +kernel
theorem dX10_stops_7 : decode cX10_stops 7 = .ok (.iconst 0, 1) := by decide +kernel
theorem dX10_stops_8 : decode cX10_stops 8 = .ok (.ireturn, 1) := by decide +kernel
theorem dX10_stops_9 : decode cX10_stops 9 = .ok (.iload_n 2, 1) := by decide +kernel
theorem dX10_stops_10 : decode cX10_stops 10 = .ok (.tableswitch 258 0 7 #[46, 113, 124, 186, 258, 258, 214, 244], 46) := by decide +kernel
theorem dX10_stops_56 : decode cX10_stops 56 = .ok (.aload_n 0, 1) := by decide +kernel
theorem dX10_stops_57 : decode cX10_stops 57 = .ok (.iload_n 3, 1) := by decide +kernel
theorem dX10_stops_58 : decode cX10_stops 58 = .ok (.invokevirtual 277, 3) := by decide +kernel
theorem dX10_stops_61 : decode cX10_stops 61 = .ok (.ifCond .ne 7, 3) := by decide +kernel
theorem dX10_stops_64 : decode cX10_stops 64 = .ok (.iconst 0, 1) := by decide +kernel
theorem dX10_stops_65 : decode cX10_stops 65 = .ok (.goto 57, 3) := by decide +kernel
theorem dX10_stops_68 : decode cX10_stops 68 = .ok (.iload 4, 2) := by decide +kernel
theorem dX10_stops_70 : decode cX10_stops 70 = .ok (.i2l, 1) := by decide +kernel
theorem dX10_stops_71 : decode cX10_stops 71 = .ok (.lconst 0, 1) := by decide +kernel
theorem dX10_stops_72 : decode cX10_stops 72 = .ok (.ldc2_w 281, 3) := by decide +kernel
theorem dX10_stops_75 : decode cX10_stops 75 = .ok (.invokestatic 134, 3) := by decide +kernel
theorem dX10_stops_78 : decode cX10_stops 78 = .ok (.ifCond .eq 39, 3) := by decide +kernel
theorem dX10_stops_81 : decode cX10_stops 81 = .ok (.iload 5, 2) := by decide +kernel
theorem dX10_stops_83 : decode cX10_stops 83 = .ok (.i2l, 1) := by decide +kernel
theorem dX10_stops_84 : decode cX10_stops 84 = .ok (.iload 4, 2) := by decide +kernel
theorem dX10_stops_86 : decode cX10_stops 86 = .ok (.iconst 1, 1) := by decide +kernel
theorem dX10_stops_87 : decode cX10_stops 87 = .ok (.if_icmp .ne 7, 3) := by decide +kernel
theorem dX10_stops_90 : decode cX10_stops 90 = .ok (.lconst 1, 1) := by decide +kernel
theorem dX10_stops_91 : decode cX10_stops 91 = .ok (.goto 4, 3) := by decide +kernel
theorem dX10_stops_94 : decode cX10_stops 94 = .ok (.lconst 0, 1) := by decide +kernel
theorem dX10_stops_95 : decode cX10_stops 95 = .ok (.ldc2_w 283, 3) := by decide +kernel
theorem dX10_stops_98 : decode cX10_stops 98 = .ok (.invokestatic 134, 3) := by decide +kernel
theorem dX10_stops_101 : decode cX10_stops 101 = .ok (.ifCond .eq 16, 3) := by decide +kernel
theorem dX10_stops_104 : decode cX10_stops 104 = .ok (.iload 6, 2) := by decide +kernel
theorem dX10_stops_106 : decode cX10_stops 106 = .ok (.i2l, 1) := by decide +kernel
theorem dX10_stops_107 : decode cX10_stops 107 = .ok (.lconst 0, 1) := by decide +kernel
theorem dX10_stops_108 : decode cX10_stops 108 = .ok (.ldc2_w 285, 3) := by decide +kernel
theorem dX10_stops_111 : decode cX10_stops 111 = .ok (.invokestatic 134, 3) := by decide +kernel
theorem dX10_stops_114 : decode cX10_stops 114 = .ok (.ifCond .ne 7, 3) := by decide +kernel
theorem dX10_stops_117 : decode cX10_stops 117 = .ok (.iconst 1, 1) := by decide +kernel
theorem dX10_stops_118 : decode cX10_stops 118 = .ok (.goto 4, 3) := by decide +kernel
theorem dX10_stops_121 : decode cX10_stops 121 = .ok (.iconst (-1), 1) := by decide +kernel
theorem dX10_stops_122 : decode cX10_stops 122 = .ok (.ireturn, 1) := by decide +kernel
theorem dX10_stops_123 : decode cX10_stops 123 = .ok (.aload_n 0, 1) := by decide +kernel
theorem dX10_stops_124 : decode cX10_stops 124 = .ok (.aload_n 1, 1) := by decide +kernel
theorem dX10_stops_125 : decode cX10_stops 125 = .ok (.iload_n 3, 1) := by decide +kernel
theorem dX10_stops_126 : decode cX10_stops 126 = .ok (.iload 4, 2) := by decide +kernel
theorem dX10_stops_128 : decode cX10_stops 128 = .ok (.iload 5, 2) := by decide +kernel
theorem dX10_stops_130 : decode cX10_stops 130 = .ok (.invokevirtual 287, 3) := by decide +kernel
theorem dX10_stops_133 : decode cX10_stops 133 = .ok (.ireturn, 1) := by decide +kernel
theorem dX10_stops_134 : decode cX10_stops 134 = .ok (.aload_n 0, 1) := by decide +kernel
theorem dX10_stops_135 : decode cX10_stops 135 = .ok (.iload_n 3, 1) := by decide +kernel
theorem dX10_stops_136 : decode cX10_stops 136 = .ok (.invokevirtual 277, 3) := by decide +kernel
theorem dX10_stops_139 : decode cX10_stops 139 = .ok (.ifCond .eq 23, 3) := by decide +kernel
theorem dX10_stops_142 : decode cX10_stops 142 = .ok (.aload_n 0, 1) := by decide +kernel
theorem dX10_stops_143 : decode cX10_stops 143 = .ok (.iload 4, 2) := by decide +kernel
theorem dX10_stops_145 : decode cX10_stops 145 = .ok (.invokevirtual 277, 3) := by decide +kernel
theorem dX10_stops_148 : decode cX10_stops 148 = .ok (.ifCond .eq 14, 3) := by decide +kernel
theorem dX10_stops_151 : decode cX10_stops 151 = .ok (.aload_n 1, 1) := by decide +kernel
theorem dX10_stops_152 : decode cX10_stops 152 = .ok (.sipush 881, 3) := by decide +kernel
theorem dX10_stops_155 : decode cX10_stops 155 = .ok (.iload 4, 2) := by decide +kernel
theorem dX10_stops_157 : decode cX10_stops 157 = .ok (.iadd, 1) := by decide +kernel
theorem dX10_stops_158 : decode cX10_stops 158 = .ok (.iaload, 1) := by decide +kernel
theorem dX10_stops_159 : decode cX10_stops 159 = .ok (.ifCond .ne 7, 3) := by decide +kernel
theorem dX10_stops_162 : decode cX10_stops 162 = .ok (.iconst 0, 1) := by decide +kernel
theorem dX10_stops_163 : decode cX10_stops 163 = .ok (.goto 32, 3) := by decide +kernel
theorem dX10_stops_166 : decode cX10_stops 166 = .ok (.iload 5, 2) := by decide +kernel
theorem dX10_stops_168 : decode cX10_stops 168 = .ok (.i2l, 1) := by decide +kernel
theorem dX10_stops_169 : decode cX10_stops 169 = .ok (.lconst 0, 1) := by decide +kernel
theorem dX10_stops_170 : decode cX10_stops 170 = .ok (.aload_n 1, 1) := by decide +kernel
theorem dX10_stops_171 : decode cX10_stops 171 = .ok (.aload_n 1, 1) := by decide +kernel
theorem dX10_stops_172 : decode cX10_stops 172 = .ok (.iload 4, 2) := by decide +kernel
theorem dX10_stops_174 : decode cX10_stops 174 = .ok (.invokestatic 291, 3) := by decide +kernel
theorem dX10_stops_177 : decode cX10_stops 177 = .ok (.iconst 2, 1) := by decide +kernel
theorem dX10_stops_178 : decode cX10_stops 178 = .ok (.invokestatic 167, 3) := by decide +kernel
theorem dX10_stops_181 : decode cX10_stops 181 = .ok (.iconst 1, 1) := by decide +kernel
theorem dX10_stops_182 : decode cX10_stops 182 = .ok (.isub, 1) := by decide +kernel
theorem dX10_stops_183 : decode cX10_stops 183 = .ok (.i2l, 1) := by decide +kernel
theorem dX10_stops_184 : decode cX10_stops 184 = .ok (.invokestatic 134, 3) := by decide +kernel
theorem dX10_stops_187 : decode cX10_stops 187 = .ok (.ifCond .ne 7, 3) := by decide +kernel
theorem dX10_stops_190 : decode cX10_stops 190 = .ok (.iconst 1, 1) := by decide +kernel
theorem dX10_stops_191 : decode cX10_stops 191 = .ok (.goto 4, 3) := by decide +kernel
theorem dX10_stops_194 : decode cX10_stops 194 = .ok (.iconst (-1), 1) := by decide +kernel
theorem dX10_stops_195 : decode cX10_stops 195 = .ok (.ireturn, 1) := by decide +kernel
theorem dX10_stops_196 : decode cX10_stops 196 = .ok (.aload_n 0, 1) := by decide +kernel
theorem dX10_stops_197 : decode cX10_stops 197 = .ok (.iload_n 3, 1) := by decide +kernel
theorem dX10_stops_198 : decode cX10_stops 198 = .ok (.invokevirtual 277, 3) := by decide +kernel
theorem dX10_stops_201 : decode cX10_stops 201 = .ok (.ifCond .ne 7, 3) := by decide +kernel
theorem dX10_stops_204 : decode cX10_stops 204 = .ok (.iconst 0, 1) := by decide +kernel
theorem dX10_stops_205 : decode cX10_stops 205 = .ok (.goto 18, 3) := by decide +kernel
theorem dX10_stops_208 : decode cX10_stops 208 = .ok (.aload_n 1, 1) := by decide +kernel
theorem dX10_stops_209 : decode cX10_stops 209 = .ok (.sipush 881, 3) := by decide +kernel
theorem dX10_stops_212 : decode cX10_stops 212 = .ok (.iload_n 3, 1) := by decide +kernel
theorem dX10_stops_213 : decode cX10_stops 213 = .ok (.iadd, 1) := by decide +kernel
theorem dX10_stops_214 : decode cX10_stops 214 = .ok (.iaload, 1) := by decide +kernel
theorem dX10_stops_215 : decode cX10_stops 215 = .ok (.ifCond .ne 7, 3) := by decide +kernel
theorem dX10_stops_218 : decode cX10_stops 218 = .ok (.iconst 2, 1) := by decide +kernel
theorem dX10_stops_219 : decode cX10_stops 219 = .ok (.goto 4, 3) := by decide +kernel
theorem dX10_stops_222 : decode cX10_stops 222 = .ok (.iconst (-1), 1) := by decide +kernel
theorem dX10_stops_223 : decode cX10_stops 223 = .ok (.ireturn, 1) := by decide +kernel
theorem dX10_stops_224 : decode cX10_stops 224 = .ok (.iload_n 3, 1) := by decide +kernel
theorem dX10_stops_225 : decode cX10_stops 225 = .ok (.i2l, 1) := by decide +kernel
theorem dX10_stops_226 : decode cX10_stops 226 = .ok (.lconst 0, 1) := by decide +kernel
theorem dX10_stops_227 : decode cX10_stops 227 = .ok (.ldc2_w 294, 3) := by decide +kernel
theorem dX10_stops_230 : decode cX10_stops 230 = .ok (.invokestatic 134, 3) := by decide +kernel
theorem dX10_stops_233 : decode cX10_stops 233 = .ok (.ifCond .ne 7, 3) := by decide +kernel
theorem dX10_stops_236 : decode cX10_stops 236 = .ok (.iconst 0, 1) := by decide +kernel
theorem dX10_stops_237 : decode cX10_stops 237 = .ok (.goto 16, 3) := by decide +kernel
theorem dX10_stops_240 : decode cX10_stops 240 = .ok (.aload_n 1, 1) := by decide +kernel
theorem dX10_stops_241 : decode cX10_stops 241 = .ok (.sipush 1242, 3) := by decide +kernel
theorem dX10_stops_244 : decode cX10_stops 244 = .ok (.iaload, 1) := by decide +kernel
theorem dX10_stops_245 : decode cX10_stops 245 = .ok (.ifCond .ne 7, 3) := by decide +kernel
theorem dX10_stops_248 : decode cX10_stops 248 = .ok (.iconst 2, 1) := by decide +kernel
theorem dX10_stops_249 : decode cX10_stops 249 = .ok (.goto 4, 3) := by decide +kernel
theorem dX10_stops_252 : decode cX10_stops 252 = .ok (.iconst (-1), 1) := by decide +kernel
theorem dX10_stops_253 : decode cX10_stops 253 = .ok (.ireturn, 1) := by decide +kernel
theorem dX10_stops_254 : decode cX10_stops 254 = .ok (.aload_n 1, 1) := by decide +kernel
theorem dX10_stops_255 : decode cX10_stops 255 = .ok (.sipush 1323, 3) := by decide +kernel
theorem dX10_stops_258 : decode cX10_stops 258 = .ok (.iaload, 1) := by decide +kernel
theorem dX10_stops_259 : decode cX10_stops 259 = .ok (.ifCond .ne 7, 3) := by decide +kernel
theorem dX10_stops_262 : decode cX10_stops 262 = .ok (.iconst 2, 1) := by decide +kernel
theorem dX10_stops_263 : decode cX10_stops 263 = .ok (.goto 4, 3) := by decide +kernel
theorem dX10_stops_266 : decode cX10_stops 266 = .ok (.iconst (-1), 1) := by decide +kernel
theorem dX10_stops_267 : decode cX10_stops 267 = .ok (.ireturn, 1) := by decide +kernel
theorem dX10_stops_268 : decode cX10_stops 268 = .ok (.iconst (-1), 1) := by decide +kernel
theorem dX10_stops_269 : decode cX10_stops 269 = .ok (.ireturn, 1) := by decide +kernel
theorem dX10_stopsLinking_0 : decode cX10_stopsLinking 0 = .ok (.aload_n 0, 1) := by decide +kernel
theorem dX10_stopsLinking_1 : decode cX10_stopsLinking 1 = .ok (.iload_n 2, 1) := by decide +kernel
theorem dX10_stopsLinking_2 : decode cX10_stopsLinking 2 = .ok (.invokevirtual 277, 3) := by decide +kernel
theorem dX10_stopsLinking_5 : decode cX10_stopsLinking 5 = .ok (.ifCond .eq 44, 3) := by decide +kernel
theorem dX10_stopsLinking_8 : decode cX10_stopsLinking 8 = .ok (.iload 4, 2) := by decide +kernel
theorem dX10_stopsLinking_10 : decode cX10_stopsLinking 10 = .ok (.i2l, 1) := by decide +kernel
theorem dX10_stopsLinking_11 : decode cX10_stopsLinking 11 = .ok (.lconst 0, 1) := by decide +kernel
theorem dX10_stopsLinking_12 : decode cX10_stopsLinking 12 = .ok (.ldc2_w 294, 3) := by decide +kernel
theorem dX10_stopsLinking_15 : decode cX10_stopsLinking 15 = .ok (.invokestatic 134, 3) := by decide +kernel
theorem dX10_stopsLinking_18 : decode cX10_stopsLinking 18 = .ok (.ifCond .eq 31, 3) := by decide +kernel
theorem dX10_stopsLinking_21 : decode cX10_stopsLinking 21 = .ok (.aload_n 1, 1) := by decide +kernel
theorem dX10_stopsLinking_22 : decode cX10_stopsLinking 22 = .ok (.sipush 881, 3) := by decide +kernel
theorem dX10_stopsLinking_25 : decode cX10_stopsLinking 25 = .ok (.iload_n 2, 1) := by decide +kernel
theorem dX10_stopsLinking_26 : decode cX10_stopsLinking 26 = .ok (.iadd, 1) := by decide +kernel
theorem dX10_stopsLinking_27 : decode cX10_stopsLinking 27 = .ok (.iaload, 1) := by decide +kernel
theorem dX10_stopsLinking_28 : decode cX10_stopsLinking 28 = .ok (.ifCond .eq 21, 3) := by decide +kernel
theorem dX10_stopsLinking_31 : decode cX10_stopsLinking 31 = .ok (.iload 4, 2) := by decide +kernel
theorem dX10_stopsLinking_33 : decode cX10_stopsLinking 33 = .ok (.bipush 8, 2) := by decide +kernel
theorem dX10_stopsLinking_35 : decode cX10_stopsLinking 35 = .ok (.if_icmp .ge 16, 3) := by decide +kernel
theorem dX10_stopsLinking_38 : decode cX10_stopsLinking 38 = .ok (.aload_n 1, 1) := by decide +kernel
theorem dX10_stopsLinking_39 : decode cX10_stopsLinking 39 = .ok (.sipush 881, 3) := by decide +kernel
theorem dX10_stopsLinking_42 : decode cX10_stopsLinking 42 = .ok (.iload 4, 2) := by decide +kernel
theorem dX10_stopsLinking_44 : decode cX10_stopsLinking 44 = .ok (.iadd, 1) := by decide +kernel
theorem dX10_stopsLinking_45 : decode cX10_stopsLinking 45 = .ok (.iaload, 1) := by decide +kernel
theorem dX10_stopsLinking_46 : decode cX10_stopsLinking 46 = .ok (.ifCond .ne 5, 3) := by decide +kernel
theorem dX10_stopsLinking_49 : decode cX10_stopsLinking 49 = .ok (.iconst 0, 1) := by decide +kernel
theorem dX10_stopsLinking_50 : decode cX10_stopsLinking 50 = .ok (.ireturn, 1) := by decide +kernel
theorem dX10_stopsLinking_51 : decode cX10_stopsLinking 51 = .ok (.aload_n 1, 1) := by decide +kernel
theorem dX10_stopsLinking_52 : decode cX10_stopsLinking 52 = .ok (.iload_n 2, 1) := by decide +kernel
theorem dX10_stopsLinking_53 : decode cX10_stopsLinking 53 = .ok (.invokestatic 291, 3) := by decide +kernel
theorem dX10_stopsLinking_56 : decode cX10_stopsLinking 56 = .ok (.istore 5, 2) := by decide +kernel
theorem dX10_stopsLinking_58 : decode cX10_stopsLinking 58 = .ok (.iload_n 3, 1) := by decide +kernel
theorem dX10_stopsLinking_59 : decode cX10_stopsLinking 59 = .ok (.i2l, 1) := by decide +kernel
theorem dX10_stopsLinking_60 : decode cX10_stopsLinking 60 = .ok (.lconst 0, 1) := by decide +kernel
theorem dX10_stopsLinking_61 : decode cX10_stopsLinking 61 = .ok (.aload_n 1, 1) := by decide +kernel
theorem dX10_stopsLinking_62 : decode cX10_stopsLinking 62 = .ok (.iload 5, 2) := by decide +kernel
theorem dX10_stopsLinking_64 : decode cX10_stopsLinking 64 = .ok (.iconst 2, 1) := by decide +kernel
theorem dX10_stopsLinking_65 : decode cX10_stopsLinking 65 = .ok (.invokestatic 167, 3) := by decide +kernel
theorem dX10_stopsLinking_68 : decode cX10_stopsLinking 68 = .ok (.iconst 1, 1) := by decide +kernel
theorem dX10_stopsLinking_69 : decode cX10_stopsLinking 69 = .ok (.isub, 1) := by decide +kernel
theorem dX10_stopsLinking_70 : decode cX10_stopsLinking 70 = .ok (.i2l, 1) := by decide +kernel
theorem dX10_stopsLinking_71 : decode cX10_stopsLinking 71 = .ok (.invokestatic 134, 3) := by decide +kernel
theorem dX10_stopsLinking_74 : decode cX10_stopsLinking 74 = .ok (.ifCond .ne 5, 3) := by decide +kernel
theorem dX10_stopsLinking_77 : decode cX10_stopsLinking 77 = .ok (.iconst 1, 1) := by decide +kernel
theorem dX10_stopsLinking_78 : decode cX10_stopsLinking 78 = .ok (.ireturn, 1) := by decide +kernel
theorem dX10_stopsLinking_79 : decode cX10_stopsLinking 79 = .ok (.aload_n 1, 1) := by decide +kernel
theorem dX10_stopsLinking_80 : decode cX10_stopsLinking 80 = .ok (.iload 5, 2) := by decide +kernel
theorem dX10_stopsLinking_82 : decode cX10_stopsLinking 82 = .ok (.bipush 7, 2) := by decide +kernel
theorem dX10_stopsLinking_84 : decode cX10_stopsLinking 84 = .ok (.iload_n 3, 1) := by decide +kernel
theorem dX10_stopsLinking_85 : decode cX10_stopsLinking 85 = .ok (.iadd, 1) := by decide +kernel
theorem dX10_stopsLinking_86 : decode cX10_stopsLinking 86 = .ok (.invokestatic 167, 3) := by decide +kernel
theorem dX10_stopsLinking_89 : decode cX10_stopsLinking 89 = .ok (.iload 4, 2) := by decide +kernel
theorem dX10_stopsLinking_91 : decode cX10_stopsLinking 91 = .ok (.bipush 8, 2) := by decide +kernel
theorem dX10_stopsLinking_93 : decode cX10_stopsLinking 93 = .ok (.if_icmp .ge 14, 3) := by decide +kernel
theorem dX10_stopsLinking_96 : decode cX10_stopsLinking 96 = .ok (.aload_n 1, 1) := by decide +kernel
theorem dX10_stopsLinking_97 : decode cX10_stopsLinking 97 = .ok (.sipush 881, 3) := by decide +kernel
theorem dX10_stopsLinking_100 : decode cX10_stopsLinking 100 = .ok (.iload 4, 2) := by decide +kernel
theorem dX10_stopsLinking_102 : decode cX10_stopsLinking 102 = .ok (.iadd, 1) := by decide +kernel
theorem dX10_stopsLinking_103 : decode cX10_stopsLinking 103 = .ok (.iaload, 1) := by decide +kernel
theorem dX10_stopsLinking_104 : decode cX10_stopsLinking 104 = .ok (.goto 4, 3) := by decide +kernel
theorem dX10_stopsLinking_107 : decode cX10_stopsLinking 107 = .ok (.iconst 0, 1) := by decide +kernel
theorem dX10_stopsLinking_108 : decode cX10_stopsLinking 108 = .ok (.if_icmp .ne 7, 3) := by decide +kernel
theorem dX10_stopsLinking_111 : decode cX10_stopsLinking 111 = .ok (.iconst 2, 1) := by decide +kernel
theorem dX10_stopsLinking_112 : decode cX10_stopsLinking 112 = .ok (.goto 4, 3) := by decide +kernel
theorem dX10_stopsLinking_115 : decode cX10_stopsLinking 115 = .ok (.iconst (-1), 1) := by decide +kernel
theorem dX10_stopsLinking_116 : decode cX10_stopsLinking 116 = .ok (.ireturn, 1) := by decide +kernel
theorem dX10_does_0 : decode cX10_does 0 = .ok (.aload_n 0, 1) := by decide +kernel
theorem dX10_does_1 : decode cX10_does 1 = .ok (.aload_n 1, 1) := by decide +kernel
theorem dX10_does_2 : decode cX10_does 2 = .ok (.iload_n 2, 1) := by decide +kernel
theorem dX10_does_3 : decode cX10_does 3 = .ok (.iload_n 3, 1) := by decide +kernel
theorem dX10_does_4 : decode cX10_does 4 = .ok (.iload 4, 2) := by decide +kernel
theorem dX10_does_6 : decode cX10_does 6 = .ok (.iload 5, 2) := by decide +kernel
theorem dX10_does_8 : decode cX10_does 8 = .ok (.iload 6, 2) := by decide +kernel
theorem dX10_does_10 : decode cX10_does 10 = .ok (.invokevirtual 296, 3) := by decide +kernel
theorem dX10_does_13 : decode cX10_does 13 = .ok (.istore 7, 2) := by decide +kernel
theorem dX10_does_15 : decode cX10_does 15 = .ok (.iload 7, 2) := by decide +kernel
theorem dX10_does_17 : decode cX10_does 17 = .ok (.iconst (-1), 1) := by decide +kernel
theorem dX10_does_18 : decode cX10_does 18 = .ok (.if_icmp .eq 6, 3) := by decide +kernel
theorem dX10_does_21 : decode cX10_does 21 = .ok (.iload 7, 2) := by decide +kernel
theorem dX10_does_23 : decode cX10_does 23 = .ok (.ireturn, 1) := by decide +kernel
theorem dX10_does_24 : decode cX10_does 24 = .ok (.aload_n 0, 1) := by decide +kernel
theorem dX10_does_25 : decode cX10_does 25 = .ok (.iload_n 2, 1) := by decide +kernel
theorem dX10_does_26 : decode cX10_does 26 = .ok (.ifCond .le 18, 3) := by decide +kernel
theorem dX10_does_29 : decode cX10_does 29 = .ok (.iload_n 2, 1) := by decide +kernel
theorem dX10_does_30 : decode cX10_does 30 = .ok (.iconst 4, 1) := by decide +kernel
theorem dX10_does_31 : decode cX10_does 31 = .ok (.if_icmp .ge 13, 3) := by decide +kernel
theorem dX10_does_34 : decode cX10_does 34 = .ok (.aload_n 1, 1) := by decide +kernel
theorem dX10_does_35 : decode cX10_does 35 = .ok (.sipush 881, 3) := by decide +kernel
theorem dX10_does_38 : decode cX10_does 38 = .ok (.iload_n 3, 1) := by decide +kernel
theorem dX10_does_39 : decode cX10_does 39 = .ok (.iadd, 1) := by decide +kernel
theorem dX10_does_40 : decode cX10_does 40 = .ok (.iaload, 1) := by decide +kernel
theorem dX10_does_41 : decode cX10_does 41 = .ok (.goto 4, 3) := by decide +kernel
theorem dX10_does_44 : decode cX10_does 44 = .ok (.iconst 0, 1) := by decide +kernel
theorem dX10_does_45 : decode cX10_does 45 = .ok (.putfield 300, 3) := by decide +kernel
theorem dX10_does_48 : decode cX10_does 48 = .ok (.iload_n 2, 1) := by decide +kernel
theorem dX10_does_49 : decode cX10_does 49 = .ok (.tableswitch 180 0 6 #[43, 64, 76, 108, 129, 149, 164], 43) := by decide +kernel
theorem dX10_does_92 : decode cX10_does 92 = .ok (.aload_n 0, 1) := by decide +kernel
theorem dX10_does_93 : decode cX10_does 93 = .ok (.aload_n 1, 1) := by decide +kernel
theorem dX10_does_94 : decode cX10_does 94 = .ok (.iload_n 3, 1) := by decide +kernel
theorem dX10_does_95 : decode cX10_does 95 = .ok (.iload 4, 2) := by decide +kernel
theorem dX10_does_97 : decode cX10_does 97 = .ok (.iload 5, 2) := by decide +kernel
theorem dX10_does_99 : decode cX10_does 99 = .ok (.iload 6, 2) := by decide +kernel
theorem dX10_does_101 : decode cX10_does 101 = .ok (.invokevirtual 303, 3) := by decide +kernel
theorem dX10_does_104 : decode cX10_does 104 = .ok (.ifCond .eq 7, 3) := by decide +kernel
theorem dX10_does_107 : decode cX10_does 107 = .ok (.iconst (-1), 1) := by decide +kernel
theorem dX10_does_108 : decode cX10_does 108 = .ok (.goto 4, 3) := by decide +kernel
theorem dX10_does_111 : decode cX10_does 111 = .ok (.iconst 3, 1) := by decide +kernel
theorem dX10_does_112 : decode cX10_does 112 = .ok (.ireturn, 1) := by decide +kernel
theorem dX10_does_113 : decode cX10_does 113 = .ok (.aload_n 0, 1) := by decide +kernel
theorem dX10_does_114 : decode cX10_does 114 = .ok (.aload_n 1, 1) := by decide +kernel
theorem dX10_does_115 : decode cX10_does 115 = .ok (.iload_n 3, 1) := by decide +kernel
theorem dX10_does_116 : decode cX10_does 116 = .ok (.iload 4, 2) := by decide +kernel
theorem dX10_does_118 : decode cX10_does 118 = .ok (.iload 5, 2) := by decide +kernel
theorem dX10_does_120 : decode cX10_does 120 = .ok (.invokevirtual 307, 3) := by decide +kernel
theorem dX10_does_123 : decode cX10_does 123 = .ok (.iconst (-1), 1) := by decide +kernel
theorem dX10_does_124 : decode cX10_does 124 = .ok (.ireturn, 1) := by decide +kernel
theorem dX10_does_125 : decode cX10_does 125 = .ok (.aload_n 0, 1) := by decide +kernel
theorem dX10_does_126 : decode cX10_does 126 = .ok (.aload_n 1, 1) := by decide +kernel
theorem dX10_does_127 : decode cX10_does 127 = .ok (.aload_n 1, 1) := by decide +kernel
theorem dX10_does_128 : decode cX10_does 128 = .ok (.iload 4, 2) := by decide +kernel
theorem dX10_does_130 : decode cX10_does 130 = .ok (.invokestatic 291, 3) := by decide +kernel
theorem dX10_does_133 : decode cX10_does 133 = .ok (.bipush 7, 2) := by decide +kernel
theorem dX10_does_135 : decode cX10_does 135 = .ok (.iload 5, 2) := by decide +kernel
theorem dX10_does_137 : decode cX10_does 137 = .ok (.iadd, 1) := by decide +kernel
theorem dX10_does_138 : decode cX10_does 138 = .ok (.invokestatic 167, 3) := by decide +kernel
theorem dX10_does_141 : decode cX10_does 141 = .ok (.putfield 250, 3) := by decide +kernel
theorem dX10_does_144 : decode cX10_does 144 = .ok (.aload_n 1, 1) := by decide +kernel
theorem dX10_does_145 : decode cX10_does 145 = .ok (.sipush 881, 3) := by decide +kernel
theorem dX10_does_148 : decode cX10_does 148 = .ok (.iload_n 3, 1) := by decide +kernel
theorem dX10_does_149 : decode cX10_does 149 = .ok (.iadd, 1) := by decide +kernel
theorem dX10_does_150 : decode cX10_does 150 = .ok (.aload_n 0, 1) := by decide +kernel
theorem dX10_does_151 : decode cX10_does 151 = .ok (.getfield 250, 3) := by decide +kernel
theorem dX10_does_154 : decode cX10_does 154 = .ok (.iastore, 1) := by decide +kernel
theorem dX10_does_155 : decode cX10_does 155 = .ok (.iconst (-1), 1) := by decide +kernel
theorem dX10_does_156 : decode cX10_does 156 = .ok (.ireturn, 1) := by decide +kernel
theorem dX10_does_157 : decode cX10_does 157 = .ok (.aload_n 0, 1) := by decide +kernel
theorem dX10_does_158 : decode cX10_does 158 = .ok (.aload_n 1, 1) := by decide +kernel
theorem dX10_does_159 : decode cX10_does 159 = .ok (.sipush 881, 3) := by decide +kernel
theorem dX10_does_162 : decode cX10_does 162 = .ok (.iload_n 3, 1) := by decide +kernel
theorem dX10_does_163 : decode cX10_does 163 = .ok (.iadd, 1) := by decide +kernel
theorem dX10_does_164 : decode cX10_does 164 = .ok (.iaload, 1) := by decide +kernel
theorem dX10_does_165 : decode cX10_does 165 = .ok (.putfield 250, 3) := by decide +kernel
theorem dX10_does_168 : decode cX10_does 168 = .ok (.aload_n 1, 1) := by decide +kernel
theorem dX10_does_169 : decode cX10_does 169 = .ok (.sipush 881, 3) := by decide +kernel
theorem dX10_does_172 : decode cX10_does 172 = .ok (.iload_n 3, 1) := by decide +kernel
theorem dX10_does_173 : decode cX10_does 173 = .ok (.iadd, 1) := by decide +kernel
theorem dX10_does_174 : decode cX10_does 174 = .ok (.iconst 0, 1) := by decide +kernel
theorem dX10_does_175 : decode cX10_does 175 = .ok (.iastore, 1) := by decide +kernel
theorem dX10_does_176 : decode cX10_does 176 = .ok (.iconst (-1), 1) := by decide +kernel
theorem dX10_does_177 : decode cX10_does 177 = .ok (.ireturn, 1) := by decide +kernel
theorem dX10_does_178 : decode cX10_does 178 = .ok (.aload_n 0, 1) := by decide +kernel
theorem dX10_does_179 : decode cX10_does 179 = .ok (.aload_n 1, 1) := by decide +kernel
theorem dX10_does_180 : decode cX10_does 180 = .ok (.invokevirtual 311, 3) := by decide +kernel
theorem dX10_does_183 : decode cX10_does 183 = .ok (.ifCond .ne 5, 3) := by decide +kernel
theorem dX10_does_186 : decode cX10_does 186 = .ok (.iconst 3, 1) := by decide +kernel
theorem dX10_does_187 : decode cX10_does 187 = .ok (.ireturn, 1) := by decide +kernel
theorem dX10_does_188 : decode cX10_does 188 = .ok (.aload_n 0, 1) := by decide +kernel
theorem dX10_does_189 : decode cX10_does 189 = .ok (.aload_n 0, 1) := by decide +kernel
theorem dX10_does_190 : decode cX10_does 190 = .ok (.getfield 250, 3) := by decide +kernel
theorem dX10_does_193 : decode cX10_does 193 = .ok (.putfield 300, 3) := by decide +kernel
theorem dX10_does_196 : decode cX10_does 196 = .ok (.iconst (-1), 1) := by decide +kernel
theorem dX10_does_197 : decode cX10_does 197 = .ok (.ireturn, 1) := by decide +kernel
theorem dX10_does_198 : decode cX10_does 198 = .ok (.aload_n 0, 1) := by decide +kernel
theorem dX10_does_199 : decode cX10_does 199 = .ok (.aload_n 1, 1) := by decide +kernel
theorem dX10_does_200 : decode cX10_does 200 = .ok (.invokevirtual 315, 3) := by decide +kernel
theorem dX10_does_203 : decode cX10_does 203 = .ok (.aload_n 0, 1) := by decide +kernel
theorem dX10_does_204 : decode cX10_does 204 = .ok (.aload_n 0, 1) := by decide +kernel
theorem dX10_does_205 : decode cX10_does 205 = .ok (.getfield 250, 3) := by decide +kernel
theorem dX10_does_208 : decode cX10_does 208 = .ok (.putfield 300, 3) := by decide +kernel
theorem dX10_does_211 : decode cX10_does 211 = .ok (.iconst (-1), 1) := by decide +kernel
theorem dX10_does_212 : decode cX10_does 212 = .ok (.ireturn, 1) := by decide +kernel
theorem dX10_does_213 : decode cX10_does 213 = .ok (.aload_n 0, 1) := by decide +kernel
theorem dX10_does_214 : decode cX10_does 214 = .ok (.aload_n 1, 1) := by decide +kernel
theorem dX10_does_215 : decode cX10_does 215 = .ok (.iload_n 3, 1) := by decide +kernel
theorem dX10_does_216 : decode cX10_does 216 = .ok (.invokevirtual 318, 3) := by decide +kernel
theorem dX10_does_219 : decode cX10_does 219 = .ok (.aload_n 0, 1) := by decide +kernel
theorem dX10_does_220 : decode cX10_does 220 = .ok (.aload_n 0, 1) := by decide +kernel
theorem dX10_does_221 : decode cX10_does 221 = .ok (.getfield 250, 3) := by decide +kernel
theorem dX10_does_224 : decode cX10_does 224 = .ok (.putfield 300, 3) := by decide +kernel
theorem dX10_does_227 : decode cX10_does 227 = .ok (.iconst (-1), 1) := by decide +kernel
theorem dX10_does_228 : decode cX10_does 228 = .ok (.ireturn, 1) := by decide +kernel
theorem dX10_does_229 : decode cX10_does 229 = .ok (.aload_n 0, 1) := by decide +kernel
theorem dX10_does_230 : decode cX10_does 230 = .ok (.aload_n 1, 1) := by decide +kernel
theorem dX10_does_231 : decode cX10_does 231 = .ok (.sipush 1324, 3) := by decide +kernel
theorem dX10_does_234 : decode cX10_does 234 = .ok (.iaload, 1) := by decide +kernel
theorem dX10_does_235 : decode cX10_does 235 = .ok (.putfield 250, 3) := by decide +kernel
theorem dX10_does_238 : decode cX10_does 238 = .ok (.iconst 1, 1) := by decide +kernel
theorem dX10_does_239 : decode cX10_does 239 = .ok (.istore 8, 2) := by decide +kernel
theorem dX10_does_241 : decode cX10_does 241 = .ok (.iload 8, 2) := by decide +kernel
theorem dX10_does_243 : decode cX10_does 243 = .ok (.aload_n 1, 1) := by decide +kernel
theorem dX10_does_244 : decode cX10_does 244 = .ok (.sipush 1323, 3) := by decide +kernel
theorem dX10_does_247 : decode cX10_does 247 = .ok (.iaload, 1) := by decide +kernel
theorem dX10_does_248 : decode cX10_does 248 = .ok (.if_icmp .ge 27, 3) := by decide +kernel
theorem dX10_does_251 : decode cX10_does 251 = .ok (.aload_n 1, 1) := by decide +kernel
theorem dX10_does_252 : decode cX10_does 252 = .ok (.sipush 1323, 3) := by decide +kernel
theorem dX10_does_255 : decode cX10_does 255 = .ok (.iload 8, 2) := by decide +kernel
theorem dX10_does_257 : decode cX10_does 257 = .ok (.iadd, 1) := by decide +kernel
theorem dX10_does_258 : decode cX10_does 258 = .ok (.aload_n 1, 1) := by decide +kernel
theorem dX10_does_259 : decode cX10_does 259 = .ok (.sipush 1323, 3) := by decide +kernel
theorem dX10_does_262 : decode cX10_does 262 = .ok (.iload 8, 2) := by decide +kernel
theorem dX10_does_264 : decode cX10_does 264 = .ok (.iadd, 1) := by decide +kernel
theorem dX10_does_265 : decode cX10_does 265 = .ok (.iconst 1, 1) := by decide +kernel
theorem dX10_does_266 : decode cX10_does 266 = .ok (.iadd, 1) := by decide +kernel
theorem dX10_does_267 : decode cX10_does 267 = .ok (.iaload, 1) := by decide +kernel
theorem dX10_does_268 : decode cX10_does 268 = .ok (.iastore, 1) := by decide +kernel
theorem dX10_does_269 : decode cX10_does 269 = .ok (.iinc 8 1, 3) := by decide +kernel
theorem dX10_does_272 : decode cX10_does 272 = .ok (.goto (-31), 3) := by decide +kernel
theorem dX10_does_275 : decode cX10_does 275 = .ok (.aload_n 1, 1) := by decide +kernel
theorem dX10_does_276 : decode cX10_does 276 = .ok (.sipush 1323, 3) := by decide +kernel
theorem dX10_does_279 : decode cX10_does 279 = .ok (.dup2, 1) := by decide +kernel
theorem dX10_does_280 : decode cX10_does 280 = .ok (.iaload, 1) := by decide +kernel
theorem dX10_does_281 : decode cX10_does 281 = .ok (.iconst 1, 1) := by decide +kernel
theorem dX10_does_282 : decode cX10_does 282 = .ok (.isub, 1) := by decide +kernel
theorem dX10_does_283 : decode cX10_does 283 = .ok (.iastore, 1) := by decide +kernel
theorem dX10_does_284 : decode cX10_does 284 = .ok (.aload_n 0, 1) := by decide +kernel
theorem dX10_does_285 : decode cX10_does 285 = .ok (.aload_n 0, 1) := by decide +kernel
theorem dX10_does_286 : decode cX10_does 286 = .ok (.getfield 250, 3) := by decide +kernel
theorem dX10_does_289 : decode cX10_does 289 = .ok (.putfield 300, 3) := by decide +kernel
theorem dX10_does_292 : decode cX10_does 292 = .ok (.iconst (-1), 1) := by decide +kernel
theorem dX10_does_293 : decode cX10_does 293 = .ok (.ireturn, 1) := by decide +kernel
theorem dX10_hasRoom_0 : decode cX10_hasRoom 0 = .ok (.aload_n 1, 1) := by decide +kernel
theorem dX10_hasRoom_1 : decode cX10_hasRoom 1 = .ok (.iconst 0, 1) := by decide +kernel
theorem dX10_hasRoom_2 : decode cX10_hasRoom 2 = .ok (.invokestatic 175, 3) := by decide +kernel
theorem dX10_hasRoom_5 : decode cX10_hasRoom 5 = .ok (.iload_n 2, 1) := by decide +kernel
theorem dX10_hasRoom_6 : decode cX10_hasRoom 6 = .ok (.iadd, 1) := by decide +kernel
theorem dX10_hasRoom_7 : decode cX10_hasRoom 7 = .ok (.aload_n 0, 1) := by decide +kernel
theorem dX10_hasRoom_8 : decode cX10_hasRoom 8 = .ok (.getfield 17, 3) := by decide +kernel
theorem dX10_hasRoom_11 : decode cX10_hasRoom 11 = .ok (.iconst 0, 1) := by decide +kernel
theorem dX10_hasRoom_12 : decode cX10_hasRoom 12 = .ok (.iaload, 1) := by decide +kernel
theorem dX10_hasRoom_13 : decode cX10_hasRoom 13 = .ok (.if_icmp .gt 5, 3) := by decide +kernel
theorem dX10_hasRoom_16 : decode cX10_hasRoom 16 = .ok (.iconst 1, 1) := by decide +kernel
theorem dX10_hasRoom_17 : decode cX10_hasRoom 17 = .ok (.ireturn, 1) := by decide +kernel
theorem dX10_hasRoom_18 : decode cX10_hasRoom 18 = .ok (.aload_n 1, 1) := by decide +kernel
theorem dX10_hasRoom_19 : decode cX10_hasRoom 19 = .ok (.iconst 0, 1) := by decide +kernel
theorem dX10_hasRoom_20 : decode cX10_hasRoom 20 = .ok (.aload_n 0, 1) := by decide +kernel
theorem dX10_hasRoom_21 : decode cX10_hasRoom 21 = .ok (.getfield 55, 3) := by decide +kernel
theorem dX10_hasRoom_24 : decode cX10_hasRoom 24 = .ok (.iconst 0, 1) := by decide +kernel
theorem dX10_hasRoom_25 : decode cX10_hasRoom 25 = .ok (.invokestatic 232, 3) := by decide +kernel
theorem dX10_hasRoom_28 : decode cX10_hasRoom 28 = .ok (.aload_n 0, 1) := by decide +kernel
theorem dX10_hasRoom_29 : decode cX10_hasRoom 29 = .ok (.aload_n 1, 1) := by decide +kernel
theorem dX10_hasRoom_30 : decode cX10_hasRoom 30 = .ok (.invokevirtual 311, 3) := by decide +kernel
theorem dX10_hasRoom_33 : decode cX10_hasRoom 33 = .ok (.ifCond .eq 5, 3) := by decide +kernel
theorem dX10_hasRoom_36 : decode cX10_hasRoom 36 = .ok (.iconst 1, 1) := by decide +kernel
theorem dX10_hasRoom_37 : decode cX10_hasRoom 37 = .ok (.ireturn, 1) := by decide +kernel
theorem dX10_hasRoom_38 : decode cX10_hasRoom 38 = .ok (.aload_n 0, 1) := by decide +kernel
theorem dX10_hasRoom_39 : decode cX10_hasRoom 39 = .ok (.aload_n 1, 1) := by decide +kernel
theorem dX10_hasRoom_40 : decode cX10_hasRoom 40 = .ok (.invokevirtual 315, 3) := by decide +kernel
theorem dX10_hasRoom_43 : decode cX10_hasRoom 43 = .ok (.aload_n 0, 1) := by decide +kernel
theorem dX10_hasRoom_44 : decode cX10_hasRoom 44 = .ok (.aload_n 1, 1) := by decide +kernel
theorem dX10_hasRoom_45 : decode cX10_hasRoom 45 = .ok (.invokevirtual 311, 3) := by decide +kernel
theorem dX10_hasRoom_48 : decode cX10_hasRoom 48 = .ok (.ifCond .eq 5, 3) := by decide +kernel
theorem dX10_hasRoom_51 : decode cX10_hasRoom 51 = .ok (.iconst 1, 1) := by decide +kernel
theorem dX10_hasRoom_52 : decode cX10_hasRoom 52 = .ok (.ireturn, 1) := by decide +kernel
theorem dX10_hasRoom_53 : decode cX10_hasRoom 53 = .ok (.aload_n 0, 1) := by decide +kernel
theorem dX10_hasRoom_54 : decode cX10_hasRoom 54 = .ok (.getfield 55, 3) := by decide +kernel
theorem dX10_hasRoom_57 : decode cX10_hasRoom 57 = .ok (.iconst 0, 1) := by decide +kernel
theorem dX10_hasRoom_58 : decode cX10_hasRoom 58 = .ok (.aload_n 1, 1) := by decide +kernel
theorem dX10_hasRoom_59 : decode cX10_hasRoom 59 = .ok (.iconst 0, 1) := by decide +kernel
theorem dX10_hasRoom_60 : decode cX10_hasRoom 60 = .ok (.invokestatic 232, 3) := by decide +kernel
theorem dX10_hasRoom_63 : decode cX10_hasRoom 63 = .ok (.iconst 0, 1) := by decide +kernel
theorem dX10_hasRoom_64 : decode cX10_hasRoom 64 = .ok (.ireturn, 1) := by decide +kernel
theorem dX10_makes_0 : decode cX10_makes 0 = .ok (.aload_n 0, 1) := by decide +kernel
theorem dX10_makes_1 : decode cX10_makes 1 = .ok (.aload_n 1, 1) := by decide +kernel
theorem dX10_makes_2 : decode cX10_makes 2 = .ok (.iconst 3, 1) := by decide +kernel
theorem dX10_makes_3 : decode cX10_makes 3 = .ok (.iload 4, 2) := by decide +kernel
theorem dX10_makes_5 : decode cX10_makes 5 = .ok (.iadd, 1) := by decide +kernel
theorem dX10_makes_6 : decode cX10_makes 6 = .ok (.invokevirtual 321, 3) := by decide +kernel
theorem dX10_makes_9 : decode cX10_makes 9 = .ok (.ifCond .ne 5, 3) := by decide +kernel
theorem dX10_makes_12 : decode cX10_makes 12 = .ok (.iconst 0, 1) := by decide +kernel
theorem dX10_makes_13 : decode cX10_makes 13 = .ok (.ireturn, 1) := by decide +kernel
theorem dX10_makes_14 : decode cX10_makes 14 = .ok (.aload_n 1, 1) := by decide +kernel
theorem dX10_makes_15 : decode cX10_makes 15 = .ok (.iconst 0, 1) := by decide +kernel
theorem dX10_makes_16 : decode cX10_makes 16 = .ok (.invokestatic 175, 3) := by decide +kernel
theorem dX10_makes_19 : decode cX10_makes 19 = .ok (.istore 6, 2) := by decide +kernel
theorem dX10_makes_21 : decode cX10_makes 21 = .ok (.aload_n 1, 1) := by decide +kernel
theorem dX10_makes_22 : decode cX10_makes 22 = .ok (.iconst 0, 1) := by decide +kernel
theorem dX10_makes_23 : decode cX10_makes 23 = .ok (.iaload, 1) := by decide +kernel
theorem dX10_makes_24 : decode cX10_makes 24 = .ok (.istore 7, 2) := by decide +kernel
theorem dX10_makes_26 : decode cX10_makes 26 = .ok (.iconst 0, 1) := by decide +kernel
theorem dX10_makes_27 : decode cX10_makes 27 = .ok (.istore 8, 2) := by decide +kernel
theorem dX10_makes_29 : decode cX10_makes 29 = .ok (.iload 8, 2) := by decide +kernel
theorem dX10_makes_31 : decode cX10_makes 31 = .ok (.bipush 11, 2) := by decide +kernel
theorem dX10_makes_33 : decode cX10_makes 33 = .ok (.if_icmp .ge 19, 3) := by decide +kernel
theorem dX10_makes_36 : decode cX10_makes 36 = .ok (.aload_n 1, 1) := by decide +kernel
theorem dX10_makes_37 : decode cX10_makes 37 = .ok (.iload 7, 2) := by decide +kernel
theorem dX10_makes_39 : decode cX10_makes 39 = .ok (.iload 8, 2) := by decide +kernel
theorem dX10_makes_41 : decode cX10_makes 41 = .ok (.invokestatic 178, 3) := by decide +kernel
theorem dX10_makes_44 : decode cX10_makes 44 = .ok (.iconst 0, 1) := by decide +kernel
theorem dX10_makes_45 : decode cX10_makes 45 = .ok (.iastore, 1) := by decide +kernel
theorem dX10_makes_46 : decode cX10_makes 46 = .ok (.iinc 8 1, 3) := by decide +kernel
theorem dX10_makes_49 : decode cX10_makes 49 = .ok (.goto (-20), 3) := by decide +kernel
theorem dX10_makes_52 : decode cX10_makes 52 = .ok (.aload_n 1, 1) := by decide +kernel
theorem dX10_makes_53 : decode cX10_makes 53 = .ok (.sipush 1364, 3) := by decide +kernel
theorem dX10_makes_56 : decode cX10_makes 56 = .ok (.dup2, 1) := by decide +kernel
theorem dX10_makes_57 : decode cX10_makes 57 = .ok (.iaload, 1) := by decide +kernel
theorem dX10_makes_58 : decode cX10_makes 58 = .ok (.iconst 1, 1) := by decide +kernel
theorem dX10_makes_59 : decode cX10_makes 59 = .ok (.iadd, 1) := by decide +kernel
theorem dX10_makes_60 : decode cX10_makes 60 = .ok (.iastore, 1) := by decide +kernel
theorem dX10_makes_61 : decode cX10_makes 61 = .ok (.aload_n 1, 1) := by decide +kernel
theorem dX10_makes_62 : decode cX10_makes 62 = .ok (.iload 7, 2) := by decide +kernel
theorem dX10_makes_64 : decode cX10_makes 64 = .ok (.iconst 0, 1) := by decide +kernel
theorem dX10_makes_65 : decode cX10_makes 65 = .ok (.invokestatic 178, 3) := by decide +kernel
theorem dX10_makes_68 : decode cX10_makes 68 = .ok (.aload_n 1, 1) := by decide +kernel
theorem dX10_makes_69 : decode cX10_makes 69 = .ok (.sipush 1364, 3) := by decide +kernel
theorem dX10_makes_72 : decode cX10_makes 72 = .ok (.iaload, 1) := by decide +kernel
theorem dX10_makes_73 : decode cX10_makes 73 = .ok (.iastore, 1) := by decide +kernel
theorem dX10_makes_74 : decode cX10_makes 74 = .ok (.aload_n 1, 1) := by decide +kernel
theorem dX10_makes_75 : decode cX10_makes 75 = .ok (.iload 7, 2) := by decide +kernel
theorem dX10_makes_77 : decode cX10_makes 77 = .ok (.iconst 1, 1) := by decide +kernel
theorem dX10_makes_78 : decode cX10_makes 78 = .ok (.invokestatic 178, 3) := by decide +kernel
theorem dX10_makes_81 : decode cX10_makes 81 = .ok (.iload_n 3, 1) := by decide +kernel
theorem dX10_makes_82 : decode cX10_makes 82 = .ok (.iastore, 1) := by decide +kernel
theorem dX10_makes_83 : decode cX10_makes 83 = .ok (.aload_n 1, 1) := by decide +kernel
theorem dX10_makes_84 : decode cX10_makes 84 = .ok (.iload 7, 2) := by decide +kernel
theorem dX10_makes_86 : decode cX10_makes 86 = .ok (.iconst 2, 1) := by decide +kernel
theorem dX10_makes_87 : decode cX10_makes 87 = .ok (.invokestatic 178, 3) := by decide +kernel
theorem dX10_makes_90 : decode cX10_makes 90 = .ok (.iload 4, 2) := by decide +kernel
theorem dX10_makes_92 : decode cX10_makes 92 = .ok (.iastore, 1) := by decide +kernel
theorem dX10_makes_93 : decode cX10_makes 93 = .ok (.aload_n 1, 1) := by decide +kernel
theorem dX10_makes_94 : decode cX10_makes 94 = .ok (.iload 7, 2) := by decide +kernel
theorem dX10_makes_96 : decode cX10_makes 96 = .ok (.iconst 3, 1) := by decide +kernel
theorem dX10_makes_97 : decode cX10_makes 97 = .ok (.invokestatic 178, 3) := by decide +kernel
theorem dX10_makes_100 : decode cX10_makes 100 = .ok (.iload 5, 2) := by decide +kernel
theorem dX10_makes_102 : decode cX10_makes 102 = .ok (.iastore, 1) := by decide +kernel
theorem dX10_makes_103 : decode cX10_makes 103 = .ok (.aload_n 1, 1) := by decide +kernel
theorem dX10_makes_104 : decode cX10_makes 104 = .ok (.iload 7, 2) := by decide +kernel
theorem dX10_makes_106 : decode cX10_makes 106 = .ok (.bipush 6, 2) := by decide +kernel
theorem dX10_makes_108 : decode cX10_makes 108 = .ok (.invokestatic 178, 3) := by decide +kernel
theorem dX10_makes_111 : decode cX10_makes 111 = .ok (.iload 6, 2) := by decide +kernel
theorem dX10_makes_113 : decode cX10_makes 113 = .ok (.iastore, 1) := by decide +kernel
theorem dX10_makes_114 : decode cX10_makes 114 = .ok (.aload_n 1, 1) := by decide +kernel
theorem dX10_makes_115 : decode cX10_makes 115 = .ok (.iconst 0, 1) := by decide +kernel
theorem dX10_makes_116 : decode cX10_makes 116 = .ok (.dup2, 1) := by decide +kernel
theorem dX10_makes_117 : decode cX10_makes 117 = .ok (.iaload, 1) := by decide +kernel
theorem dX10_makes_118 : decode cX10_makes 118 = .ok (.iconst 1, 1) := by decide +kernel
theorem dX10_makes_119 : decode cX10_makes 119 = .ok (.iadd, 1) := by decide +kernel
theorem dX10_makes_120 : decode cX10_makes 120 = .ok (.iastore, 1) := by decide +kernel
theorem dX10_makes_121 : decode cX10_makes 121 = .ok (.aload_n 1, 1) := by decide +kernel
theorem dX10_makes_122 : decode cX10_makes 122 = .ok (.sipush 881, 3) := by decide +kernel
theorem dX10_makes_125 : decode cX10_makes 125 = .ok (.iload_n 2, 1) := by decide +kernel
theorem dX10_makes_126 : decode cX10_makes 126 = .ok (.iadd, 1) := by decide +kernel
theorem dX10_makes_127 : decode cX10_makes 127 = .ok (.aload_n 1, 1) := by decide +kernel
theorem dX10_makes_128 : decode cX10_makes 128 = .ok (.sipush 1364, 3) := by decide +kernel
theorem dX10_makes_131 : decode cX10_makes 131 = .ok (.iaload, 1) := by decide +kernel
theorem dX10_makes_132 : decode cX10_makes 132 = .ok (.iastore, 1) := by decide +kernel
theorem dX10_makes_133 : decode cX10_makes 133 = .ok (.aload_n 0, 1) := by decide +kernel
theorem dX10_makes_134 : decode cX10_makes 134 = .ok (.aload_n 1, 1) := by decide +kernel
theorem dX10_makes_135 : decode cX10_makes 135 = .ok (.sipush 1364, 3) := by decide +kernel
theorem dX10_makes_138 : decode cX10_makes 138 = .ok (.iaload, 1) := by decide +kernel
theorem dX10_makes_139 : decode cX10_makes 139 = .ok (.putfield 250, 3) := by decide +kernel
theorem dX10_makes_142 : decode cX10_makes 142 = .ok (.aload_n 0, 1) := by decide +kernel
theorem dX10_makes_143 : decode cX10_makes 143 = .ok (.aload_n 0, 1) := by decide +kernel
theorem dX10_makes_144 : decode cX10_makes 144 = .ok (.getfield 250, 3) := by decide +kernel
theorem dX10_makes_147 : decode cX10_makes 147 = .ok (.putfield 300, 3) := by decide +kernel
theorem dX10_makes_150 : decode cX10_makes 150 = .ok (.iconst 1, 1) := by decide +kernel
theorem dX10_makes_151 : decode cX10_makes 151 = .ok (.ireturn, 1) := by decide +kernel
theorem dX10_link_0 : decode cX10_link 0 = .ok (.iload_n 0, 1) := by decide +kernel
theorem dX10_link_1 : decode cX10_link 1 = .ok (.bipush 8, 2) := by decide +kernel
theorem dX10_link_3 : decode cX10_link 3 = .ok (.if_icmp .ge 13, 3) := by decide +kernel
theorem dX10_link_6 : decode cX10_link 6 = .ok (.aload_n 1, 1) := by decide +kernel
theorem dX10_link_7 : decode cX10_link 7 = .ok (.sipush 881, 3) := by decide +kernel
theorem dX10_link_10 : decode cX10_link 10 = .ok (.iload_n 0, 1) := by decide +kernel
theorem dX10_link_11 : decode cX10_link 11 = .ok (.iadd, 1) := by decide +kernel
theorem dX10_link_12 : decode cX10_link 12 = .ok (.iaload, 1) := by decide +kernel
theorem dX10_link_13 : decode cX10_link 13 = .ok (.goto 4, 3) := by decide +kernel
theorem dX10_link_16 : decode cX10_link 16 = .ok (.iconst 0, 1) := by decide +kernel
theorem dX10_link_17 : decode cX10_link 17 = .ok (.ireturn, 1) := by decide +kernel
theorem dX10_links_0 : decode cX10_links 0 = .ok (.aload_n 1, 1) := by decide +kernel
theorem dX10_links_1 : decode cX10_links 1 = .ok (.iload_n 2, 1) := by decide +kernel
theorem dX10_links_2 : decode cX10_links 2 = .ok (.invokestatic 291, 3) := by decide +kernel
theorem dX10_links_5 : decode cX10_links 5 = .ok (.istore 5, 2) := by decide +kernel
theorem dX10_links_7 : decode cX10_links 7 = .ok (.aload_n 0, 1) := by decide +kernel
theorem dX10_links_8 : decode cX10_links 8 = .ok (.aload_n 1, 1) := by decide +kernel
theorem dX10_links_9 : decode cX10_links 9 = .ok (.iload 5, 2) := by decide +kernel
theorem dX10_links_11 : decode cX10_links 11 = .ok (.bipush 7, 2) := by decide +kernel
theorem dX10_links_13 : decode cX10_links 13 = .ok (.iload_n 3, 1) := by decide +kernel
theorem dX10_links_14 : decode cX10_links 14 = .ok (.iadd, 1) := by decide +kernel
theorem dX10_links_15 : decode cX10_links 15 = .ok (.invokestatic 167, 3) := by decide +kernel
theorem dX10_links_18 : decode cX10_links 18 = .ok (.putfield 250, 3) := by decide +kernel
theorem dX10_links_21 : decode cX10_links 21 = .ok (.aload_n 1, 1) := by decide +kernel
theorem dX10_links_22 : decode cX10_links 22 = .ok (.iload 5, 2) := by decide +kernel
theorem dX10_links_24 : decode cX10_links 24 = .ok (.bipush 7, 2) := by decide +kernel
theorem dX10_links_26 : decode cX10_links 26 = .ok (.iload_n 3, 1) := by decide +kernel
theorem dX10_links_27 : decode cX10_links 27 = .ok (.iadd, 1) := by decide +kernel
theorem dX10_links_28 : decode cX10_links 28 = .ok (.invokestatic 178, 3) := by decide +kernel
theorem dX10_links_31 : decode cX10_links 31 = .ok (.iload 4, 2) := by decide +kernel
theorem dX10_links_33 : decode cX10_links 33 = .ok (.aload_n 1, 1) := by decide +kernel
theorem dX10_links_34 : decode cX10_links 34 = .ok (.invokestatic 324, 3) := by decide +kernel
theorem dX10_links_37 : decode cX10_links 37 = .ok (.iastore, 1) := by decide +kernel
theorem dX10_links_38 : decode cX10_links 38 = .ok (.aload_n 1, 1) := by decide +kernel
theorem dX10_links_39 : decode cX10_links 39 = .ok (.invokestatic 243, 3) := by decide +kernel
theorem dX10_links_42 : decode cX10_links 42 = .ok (.aload_n 1, 1) := by decide +kernel
theorem dX10_links_43 : decode cX10_links 43 = .ok (.iload 5, 2) := by decide +kernel
theorem dX10_links_45 : decode cX10_links 45 = .ok (.iload_n 3, 1) := by decide +kernel
theorem dX10_links_46 : decode cX10_links 46 = .ok (.invokestatic 246, 3) := by decide +kernel
theorem dX10_links_49 : decode cX10_links 49 = .ok (.return_, 1) := by decide +kernel
theorem dX10_tells_0 : decode cX10_tells 0 = .ok (.aload_n 0, 1) := by decide +kernel
theorem dX10_tells_1 : decode cX10_tells 1 = .ok (.aload_n 1, 1) := by decide +kernel
theorem dX10_tells_2 : decode cX10_tells 2 = .ok (.sipush 1243, 3) := by decide +kernel
theorem dX10_tells_5 : decode cX10_tells 5 = .ok (.iaload, 1) := by decide +kernel
theorem dX10_tells_6 : decode cX10_tells 6 = .ok (.putfield 250, 3) := by decide +kernel
theorem dX10_tells_9 : decode cX10_tells 9 = .ok (.iconst 1, 1) := by decide +kernel
theorem dX10_tells_10 : decode cX10_tells 10 = .ok (.istore_n 3, 1) := by decide +kernel
theorem dX10_tells_11 : decode cX10_tells 11 = .ok (.iload_n 3, 1) := by decide +kernel
theorem dX10_tells_12 : decode cX10_tells 12 = .ok (.aload_n 1, 1) := by decide +kernel
theorem dX10_tells_13 : decode cX10_tells 13 = .ok (.sipush 1242, 3) := by decide +kernel
theorem dX10_tells_16 : decode cX10_tells 16 = .ok (.iaload, 1) := by decide +kernel
theorem dX10_tells_17 : decode cX10_tells 17 = .ok (.if_icmp .ge 25, 3) := by decide +kernel
theorem dX10_tells_20 : decode cX10_tells 20 = .ok (.aload_n 1, 1) := by decide +kernel
theorem dX10_tells_21 : decode cX10_tells 21 = .ok (.sipush 1242, 3) := by decide +kernel
theorem dX10_tells_24 : decode cX10_tells 24 = .ok (.iload_n 3, 1) := by decide +kernel
theorem dX10_tells_25 : decode cX10_tells 25 = .ok (.iadd, 1) := by decide +kernel
theorem dX10_tells_26 : decode cX10_tells 26 = .ok (.aload_n 1, 1) := by decide +kernel
theorem dX10_tells_27 : decode cX10_tells 27 = .ok (.sipush 1242, 3) := by decide +kernel
theorem dX10_tells_30 : decode cX10_tells 30 = .ok (.iload_n 3, 1) := by decide +kernel
theorem dX10_tells_31 : decode cX10_tells 31 = .ok (.iadd, 1) := by decide +kernel
theorem dX10_tells_32 : decode cX10_tells 32 = .ok (.iconst 1, 1) := by decide +kernel
theorem dX10_tells_33 : decode cX10_tells 33 = .ok (.iadd, 1) := by decide +kernel
theorem dX10_tells_34 : decode cX10_tells 34 = .ok (.iaload, 1) := by decide +kernel
theorem dX10_tells_35 : decode cX10_tells 35 = .ok (.iastore, 1) := by decide +kernel
theorem dX10_tells_36 : decode cX10_tells 36 = .ok (.iinc 3 1, 3) := by decide +kernel
theorem dX10_tells_39 : decode cX10_tells 39 = .ok (.goto (-28), 3) := by decide +kernel
theorem dX10_tells_42 : decode cX10_tells 42 = .ok (.aload_n 1, 1) := by decide +kernel
theorem dX10_tells_43 : decode cX10_tells 43 = .ok (.sipush 1242, 3) := by decide +kernel
theorem dX10_tells_46 : decode cX10_tells 46 = .ok (.dup2, 1) := by decide +kernel
theorem dX10_tells_47 : decode cX10_tells 47 = .ok (.iaload, 1) := by decide +kernel
theorem dX10_tells_48 : decode cX10_tells 48 = .ok (.iconst 1, 1) := by decide +kernel
theorem dX10_tells_49 : decode cX10_tells 49 = .ok (.isub, 1) := by decide +kernel
theorem dX10_tells_50 : decode cX10_tells 50 = .ok (.iastore, 1) := by decide +kernel
theorem dX10_tells_51 : decode cX10_tells 51 = .ok (.aload_n 1, 1) := by decide +kernel
theorem dX10_tells_52 : decode cX10_tells 52 = .ok (.aload_n 1, 1) := by decide +kernel
theorem dX10_tells_53 : decode cX10_tells 53 = .ok (.aload_n 0, 1) := by decide +kernel
theorem dX10_tells_54 : decode cX10_tells 54 = .ok (.getfield 250, 3) := by decide +kernel
theorem dX10_tells_57 : decode cX10_tells 57 = .ok (.invokestatic 182, 3) := by decide +kernel
theorem dX10_tells_60 : decode cX10_tells 60 = .ok (.iconst 1, 1) := by decide +kernel
theorem dX10_tells_61 : decode cX10_tells 61 = .ok (.invokestatic 178, 3) := by decide +kernel
theorem dX10_tells_64 : decode cX10_tells 64 = .ok (.iconst 0, 1) := by decide +kernel
theorem dX10_tells_65 : decode cX10_tells 65 = .ok (.iastore, 1) := by decide +kernel
theorem dX10_tells_66 : decode cX10_tells 66 = .ok (.iload_n 2, 1) := by decide +kernel
theorem dX10_tells_67 : decode cX10_tells 67 = .ok (.bipush 8, 2) := by decide +kernel
theorem dX10_tells_69 : decode cX10_tells 69 = .ok (.if_icmp .ge 14, 3) := by decide +kernel
theorem dX10_tells_72 : decode cX10_tells 72 = .ok (.aload_n 1, 1) := by decide +kernel
theorem dX10_tells_73 : decode cX10_tells 73 = .ok (.sipush 881, 3) := by decide +kernel
theorem dX10_tells_76 : decode cX10_tells 76 = .ok (.iload_n 2, 1) := by decide +kernel
theorem dX10_tells_77 : decode cX10_tells 77 = .ok (.iadd, 1) := by decide +kernel
theorem dX10_tells_78 : decode cX10_tells 78 = .ok (.aload_n 0, 1) := by decide +kernel
theorem dX10_tells_79 : decode cX10_tells 79 = .ok (.getfield 250, 3) := by decide +kernel
theorem dX10_tells_82 : decode cX10_tells 82 = .ok (.iastore, 1) := by decide +kernel
theorem dX10_tells_83 : decode cX10_tells 83 = .ok (.return_, 1) := by decide +kernel
theorem dX10_remember_0 : decode cX10_remember 0 = .ok (.aload_n 0, 1) := by decide +kernel
theorem dX10_remember_1 : decode cX10_remember 1 = .ok (.getfield 161, 3) := by decide +kernel
theorem dX10_remember_4 : decode cX10_remember 4 = .ok (.bipush 40, 2) := by decide +kernel
theorem dX10_remember_6 : decode cX10_remember 6 = .ok (.if_icmp .ne 19, 3) := by decide +kernel
theorem dX10_remember_9 : decode cX10_remember 9 = .ok (.aload_n 0, 1) := by decide +kernel
theorem dX10_remember_10 : decode cX10_remember 10 = .ok (.aload_n 0, 1) := by decide +kernel
theorem dX10_remember_11 : decode cX10_remember 11 = .ok (.getfield 328, 3) := by decide +kernel
theorem dX10_remember_14 : decode cX10_remember 14 = .ok (.iconst 1, 1) := by decide +kernel
theorem dX10_remember_15 : decode cX10_remember 15 = .ok (.iadd, 1) := by decide +kernel
theorem dX10_remember_16 : decode cX10_remember 16 = .ok (.bipush 40, 2) := by decide +kernel
theorem dX10_remember_18 : decode cX10_remember 18 = .ok (.irem, 1) := by decide +kernel
theorem dX10_remember_19 : decode cX10_remember 19 = .ok (.putfield 328, 3) := by decide +kernel
theorem dX10_remember_22 : decode cX10_remember 22 = .ok (.goto 13, 3) := by decide +kernel
theorem dX10_remember_25 : decode cX10_remember 25 = .ok (.aload_n 0, 1) := by decide +kernel
theorem dX10_remember_26 : decode cX10_remember 26 = .ok (.dup, 1) := by decide +kernel
theorem dX10_remember_27 : decode cX10_remember 27 = .ok (.getfield 161, 3) := by decide +kernel
theorem dX10_remember_30 : decode cX10_remember 30 = .ok (.iconst 1, 1) := by decide +kernel
theorem dX10_remember_31 : decode cX10_remember 31 = .ok (.iadd, 1) := by decide +kernel
theorem dX10_remember_32 : decode cX10_remember 32 = .ok (.putfield 161, 3) := by decide +kernel
theorem dX10_remember_35 : decode cX10_remember 35 = .ok (.aload_n 0, 1) := by decide +kernel
theorem dX10_remember_36 : decode cX10_remember 36 = .ok (.getfield 32, 3) := by decide +kernel
theorem dX10_remember_39 : decode cX10_remember 39 = .ok (.iconst 0, 1) := by decide +kernel
theorem dX10_remember_40 : decode cX10_remember 40 = .ok (.aload_n 0, 1) := by decide +kernel
theorem dX10_remember_41 : decode cX10_remember 41 = .ok (.getfield 42, 3) := by decide +kernel
theorem dX10_remember_44 : decode cX10_remember 44 = .ok (.sipush 1554, 3) := by decide +kernel
theorem dX10_remember_47 : decode cX10_remember 47 = .ok (.aload_n 0, 1) := by decide +kernel
theorem dX10_remember_48 : decode cX10_remember 48 = .ok (.getfield 328, 3) := by decide +kernel
theorem dX10_remember_51 : decode cX10_remember 51 = .ok (.aload_n 0, 1) := by decide +kernel
theorem dX10_remember_52 : decode cX10_remember 52 = .ok (.getfield 161, 3) := by decide +kernel
theorem dX10_remember_55 : decode cX10_remember 55 = .ok (.iadd, 1) := by decide +kernel
theorem dX10_remember_56 : decode cX10_remember 56 = .ok (.iconst 1, 1) := by decide +kernel
theorem dX10_remember_57 : decode cX10_remember 57 = .ok (.isub, 1) := by decide +kernel
theorem dX10_remember_58 : decode cX10_remember 58 = .ok (.bipush 40, 2) := by decide +kernel
theorem dX10_remember_60 : decode cX10_remember 60 = .ok (.irem, 1) := by decide +kernel
theorem dX10_remember_61 : decode cX10_remember 61 = .ok (.imul, 1) := by decide +kernel
theorem dX10_remember_62 : decode cX10_remember 62 = .ok (.invokestatic 232, 3) := by decide +kernel
theorem dX10_remember_65 : decode cX10_remember 65 = .ok (.return_, 1) := by decide +kernel
theorem dX10_notes_0 : decode cX10_notes 0 = .ok (.aload_n 0, 1) := by decide +kernel
theorem dX10_notes_1 : decode cX10_notes 1 = .ok (.getfield 29, 3) := by decide +kernel
theorem dX10_notes_4 : decode cX10_notes 4 = .ok (.sipush 1373, 3) := by decide +kernel
theorem dX10_notes_7 : decode cX10_notes 7 = .ok (.iaload, 1) := by decide +kernel
theorem dX10_notes_8 : decode cX10_notes 8 = .ok (.bipush 60, 2) := by decide +kernel
theorem dX10_notes_10 : decode cX10_notes 10 = .ok (.if_icmp .ne 52, 3) := by decide +kernel
theorem dX10_notes_13 : decode cX10_notes 13 = .ok (.iconst 1, 1) := by decide +kernel
theorem dX10_notes_14 : decode cX10_notes 14 = .ok (.istore_n 2, 1) := by decide +kernel
theorem dX10_notes_15 : decode cX10_notes 15 = .ok (.iload_n 2, 1) := by decide +kernel
theorem dX10_notes_16 : decode cX10_notes 16 = .ok (.sipush 177, 3) := by decide +kernel
theorem dX10_notes_19 : decode cX10_notes 19 = .ok (.if_icmp .gt 31, 3) := by decide +kernel
theorem dX10_notes_22 : decode cX10_notes 22 = .ok (.aload_n 0, 1) := by decide +kernel
theorem dX10_notes_23 : decode cX10_notes 23 = .ok (.getfield 29, 3) := by decide +kernel
theorem dX10_notes_26 : decode cX10_notes 26 = .ok (.sipush 1373, 3) := by decide +kernel
theorem dX10_notes_29 : decode cX10_notes 29 = .ok (.iload_n 2, 1) := by decide +kernel
theorem dX10_notes_30 : decode cX10_notes 30 = .ok (.iadd, 1) := by decide +kernel
theorem dX10_notes_31 : decode cX10_notes 31 = .ok (.aload_n 0, 1) := by decide +kernel
theorem dX10_notes_32 : decode cX10_notes 32 = .ok (.getfield 29, 3) := by decide +kernel
theorem dX10_notes_35 : decode cX10_notes 35 = .ok (.sipush 1373, 3) := by decide +kernel
theorem dX10_notes_38 : decode cX10_notes 38 = .ok (.iload_n 2, 1) := by decide +kernel
theorem dX10_notes_39 : decode cX10_notes 39 = .ok (.iadd, 1) := by decide +kernel
theorem dX10_notes_40 : decode cX10_notes 40 = .ok (.iconst 3, 1) := by decide +kernel
theorem dX10_notes_41 : decode cX10_notes 41 = .ok (.iadd, 1) := by decide +kernel
theorem dX10_notes_42 : decode cX10_notes 42 = .ok (.iaload, 1) := by decide +kernel
theorem dX10_notes_43 : decode cX10_notes 43 = .ok (.iastore, 1) := by decide +kernel
theorem dX10_notes_44 : decode cX10_notes 44 = .ok (.iinc 2 1, 3) := by decide +kernel
theorem dX10_notes_47 : decode cX10_notes 47 = .ok (.goto (-32), 3) := by decide +kernel
theorem dX10_notes_50 : decode cX10_notes 50 = .ok (.aload_n 0, 1) := by decide +kernel
theorem dX10_notes_51 : decode cX10_notes 51 = .ok (.getfield 29, 3) := by decide +kernel
theorem dX10_notes_54 : decode cX10_notes 54 = .ok (.sipush 1373, 3) := by decide +kernel
theorem dX10_notes_57 : decode cX10_notes 57 = .ok (.dup2, 1) := by decide +kernel
theorem dX10_notes_58 : decode cX10_notes 58 = .ok (.iaload, 1) := by decide +kernel
theorem dX10_notes_59 : decode cX10_notes 59 = .ok (.iconst 1, 1) := by decide +kernel
theorem dX10_notes_60 : decode cX10_notes 60 = .ok (.isub, 1) := by decide +kernel
theorem dX10_notes_61 : decode cX10_notes 61 = .ok (.iastore, 1) := by decide +kernel
theorem dX10_notes_62 : decode cX10_notes 62 = .ok (.sipush 1374, 3) := by decide +kernel
theorem dX10_notes_65 : decode cX10_notes 65 = .ok (.iconst 3, 1) := by decide +kernel
theorem dX10_notes_66 : decode cX10_notes 66 = .ok (.aload_n 0, 1) := by decide +kernel
theorem dX10_notes_67 : decode cX10_notes 67 = .ok (.getfield 29, 3) := by decide +kernel
theorem dX10_notes_70 : decode cX10_notes 70 = .ok (.sipush 1373, 3) := by decide +kernel
theorem dX10_notes_73 : decode cX10_notes 73 = .ok (.iaload, 1) := by decide +kernel
theorem dX10_notes_74 : decode cX10_notes 74 = .ok (.imul, 1) := by decide +kernel
theorem dX10_notes_75 : decode cX10_notes 75 = .ok (.iadd, 1) := by decide +kernel
theorem dX10_notes_76 : decode cX10_notes 76 = .ok (.istore_n 2, 1) := by decide +kernel
theorem dX10_notes_77 : decode cX10_notes 77 = .ok (.aload_n 0, 1) := by decide +kernel
theorem dX10_notes_78 : decode cX10_notes 78 = .ok (.getfield 29, 3) := by decide +kernel
theorem dX10_notes_81 : decode cX10_notes 81 = .ok (.iload_n 2, 1) := by decide +kernel
theorem dX10_notes_82 : decode cX10_notes 82 = .ok (.iload_n 1, 1) := by decide +kernel
theorem dX10_notes_83 : decode cX10_notes 83 = .ok (.iastore, 1) := by decide +kernel
theorem dX10_notes_84 : decode cX10_notes 84 = .ok (.aload_n 0, 1) := by decide +kernel
theorem dX10_notes_85 : decode cX10_notes 85 = .ok (.getfield 29, 3) := by decide +kernel
theorem dX10_notes_88 : decode cX10_notes 88 = .ok (.iload_n 2, 1) := by decide +kernel
theorem dX10_notes_89 : decode cX10_notes 89 = .ok (.iconst 1, 1) := by decide +kernel
theorem dX10_notes_90 : decode cX10_notes 90 = .ok (.iadd, 1) := by decide +kernel
theorem dX10_notes_91 : decode cX10_notes 91 = .ok (.aload_n 0, 1) := by decide +kernel
theorem dX10_notes_92 : decode cX10_notes 92 = .ok (.getfield 300, 3) := by decide +kernel
theorem dX10_notes_95 : decode cX10_notes 95 = .ok (.iastore, 1) := by decide +kernel
theorem dX10_notes_96 : decode cX10_notes 96 = .ok (.aload_n 0, 1) := by decide +kernel
theorem dX10_notes_97 : decode cX10_notes 97 = .ok (.getfield 29, 3) := by decide +kernel
theorem dX10_notes_100 : decode cX10_notes 100 = .ok (.iload_n 2, 1) := by decide +kernel
theorem dX10_notes_101 : decode cX10_notes 101 = .ok (.iconst 2, 1) := by decide +kernel
theorem dX10_notes_102 : decode cX10_notes 102 = .ok (.iadd, 1) := by decide +kernel
theorem dX10_notes_103 : decode cX10_notes 103 = .ok (.aload_n 0, 1) := by decide +kernel
theorem dX10_notes_104 : decode cX10_notes 104 = .ok (.getfield 29, 3) := by decide +kernel
theorem dX10_notes_107 : decode cX10_notes 107 = .ok (.invokestatic 331, 3) := by decide +kernel
theorem dX10_notes_110 : decode cX10_notes 110 = .ok (.iastore, 1) := by decide +kernel
theorem dX10_notes_111 : decode cX10_notes 111 = .ok (.aload_n 0, 1) := by decide +kernel
theorem dX10_notes_112 : decode cX10_notes 112 = .ok (.getfield 29, 3) := by decide +kernel
theorem dX10_notes_115 : decode cX10_notes 115 = .ok (.sipush 1373, 3) := by decide +kernel
theorem dX10_notes_118 : decode cX10_notes 118 = .ok (.dup2, 1) := by decide +kernel
theorem dX10_notes_119 : decode cX10_notes 119 = .ok (.iaload, 1) := by decide +kernel
theorem dX10_notes_120 : decode cX10_notes 120 = .ok (.iconst 1, 1) := by decide +kernel
theorem dX10_notes_121 : decode cX10_notes 121 = .ok (.iadd, 1) := by decide +kernel
theorem dX10_notes_122 : decode cX10_notes 122 = .ok (.iastore, 1) := by decide +kernel
theorem dX10_notes_123 : decode cX10_notes 123 = .ok (.return_, 1) := by decide +kernel
theorem dX10_tries_0 : decode cX10_tries 0 = .ok (.aload_n 0, 1) := by decide +kernel
theorem dX10_tries_1 : decode cX10_tries 1 = .ok (.getfield 29, 3) := by decide +kernel
theorem dX10_tries_4 : decode cX10_tries 4 = .ok (.iconst 0, 1) := by decide +kernel
theorem dX10_tries_5 : decode cX10_tries 5 = .ok (.aload_n 0, 1) := by decide +kernel
theorem dX10_tries_6 : decode cX10_tries 6 = .ok (.getfield 32, 3) := by decide +kernel
theorem dX10_tries_9 : decode cX10_tries 9 = .ok (.iconst 0, 1) := by decide +kernel
theorem dX10_tries_10 : decode cX10_tries 10 = .ok (.invokestatic 232, 3) := by decide +kernel
theorem dX10_tries_13 : decode cX10_tries 13 = .ok (.aload_n 0, 1) := by decide +kernel
theorem dX10_tries_14 : decode cX10_tries 14 = .ok (.aload_n 0, 1) := by decide +kernel
theorem dX10_tries_15 : decode cX10_tries 15 = .ok (.getfield 29, 3) := by decide +kernel
theorem dX10_tries_18 : decode cX10_tries 18 = .ok (.iload_n 1, 1) := by decide +kernel
theorem dX10_tries_19 : decode cX10_tries 19 = .ok (.iload_n 2, 1) := by decide +kernel
theorem dX10_tries_20 : decode cX10_tries 20 = .ok (.iload_n 3, 1) := by decide +kernel
theorem dX10_tries_21 : decode cX10_tries 21 = .ok (.iload 4, 2) := by decide +kernel
theorem dX10_tries_23 : decode cX10_tries 23 = .ok (.iload 5, 2) := by decide +kernel
theorem dX10_tries_25 : decode cX10_tries 25 = .ok (.invokevirtual 335, 3) := by decide +kernel
theorem dX10_tries_28 : decode cX10_tries 28 = .ok (.istore 6, 2) := by decide +kernel
theorem dX10_tries_30 : decode cX10_tries 30 = .ok (.iload 6, 2) := by decide +kernel
theorem dX10_tries_32 : decode cX10_tries 32 = .ok (.iconst (-1), 1) := by decide +kernel
theorem dX10_tries_33 : decode cX10_tries 33 = .ok (.if_icmp .eq 6, 3) := by decide +kernel
theorem dX10_tries_36 : decode cX10_tries 36 = .ok (.iload 6, 2) := by decide +kernel
theorem dX10_tries_38 : decode cX10_tries 38 = .ok (.ireturn, 1) := by decide +kernel
theorem dX10_tries_39 : decode cX10_tries 39 = .ok (.aload_n 0, 1) := by decide +kernel
theorem dX10_tries_40 : decode cX10_tries 40 = .ok (.invokevirtual 338, 3) := by decide +kernel
theorem dX10_tries_43 : decode cX10_tries 43 = .ok (.aload_n 0, 1) := by decide +kernel
theorem dX10_tries_44 : decode cX10_tries 44 = .ok (.iload_n 1, 1) := by decide +kernel
theorem dX10_tries_45 : decode cX10_tries 45 = .ok (.invokevirtual 341, 3) := by decide +kernel
theorem dX10_tries_48 : decode cX10_tries 48 = .ok (.iconst (-1), 1) := by decide +kernel
theorem dX10_tries_49 : decode cX10_tries 49 = .ok (.ireturn, 1) := by decide +kernel
theorem dX10_act_0 : decode cX10_act 0 = .ok (.aload_n 0, 1) := by decide +kernel
theorem dX10_act_1 : decode cX10_act 1 = .ok (.iconst 0, 1) := by decide +kernel
theorem dX10_act_2 : decode cX10_act 2 = .ok (.putfield 73, 3) := by decide +kernel
theorem dX10_act_5 : decode cX10_act 5 = .ok (.aload_n 0, 1) := by decide +kernel
theorem dX10_act_6 : decode cX10_act 6 = .ok (.iload_n 1, 1) := by decide +kernel
theorem dX10_act_7 : decode cX10_act 7 = .ok (.iload_n 2, 1) := by decide +kernel
theorem dX10_act_8 : decode cX10_act 8 = .ok (.iload_n 3, 1) := by decide +kernel
theorem dX10_act_9 : decode cX10_act 9 = .ok (.iload 4, 2) := by decide +kernel
theorem dX10_act_11 : decode cX10_act 11 = .ok (.iload 5, 2) := by decide +kernel
theorem dX10_act_13 : decode cX10_act 13 = .ok (.invokevirtual 344, 3) := by decide +kernel
theorem dX10_act_16 : decode cX10_act 16 = .ok (.istore 6, 2) := by decide +kernel
theorem dX10_act_18 : decode cX10_act 18 = .ok (.iload 6, 2) := by decide +kernel
theorem dX10_act_20 : decode cX10_act 20 = .ok (.iconst (-1), 1) := by decide +kernel
theorem dX10_act_21 : decode cX10_act 21 = .ok (.if_icmp .ne 8, 3) := by decide +kernel
theorem dX10_act_24 : decode cX10_act 24 = .ok (.aload_n 0, 1) := by decide +kernel
theorem dX10_act_25 : decode cX10_act 25 = .ok (.getfield 250, 3) := by decide +kernel
theorem dX10_act_28 : decode cX10_act 28 = .ok (.ireturn, 1) := by decide +kernel
theorem dX10_act_29 : decode cX10_act 29 = .ok (.aload_n 0, 1) := by decide +kernel
theorem dX10_act_30 : decode cX10_act 30 = .ok (.getfield 20, 3) := by decide +kernel
theorem dX10_act_33 : decode cX10_act 33 = .ok (.iload 6, 2) := by decide +kernel
theorem dX10_act_35 : decode cX10_act 35 = .ok (.dup2, 1) := by decide +kernel
theorem dX10_act_36 : decode cX10_act 36 = .ok (.iaload, 1) := by decide +kernel
theorem dX10_act_37 : decode cX10_act 37 = .ok (.iconst 1, 1) := by decide +kernel
theorem dX10_act_38 : decode cX10_act 38 = .ok (.iadd, 1) := by decide +kernel
theorem dX10_act_39 : decode cX10_act 39 = .ok (.iastore, 1) := by decide +kernel
theorem dX10_act_40 : decode cX10_act 40 = .ok (.iconst (-1), 1) := by decide +kernel
theorem dX10_act_41 : decode cX10_act 41 = .ok (.ireturn, 1) := by decide +kernel
theorem dX10_make_0 : decode cX10_make 0 = .ok (.aload_n 0, 1) := by decide +kernel
theorem dX10_make_1 : decode cX10_make 1 = .ok (.iconst 0, 1) := by decide +kernel
theorem dX10_make_2 : decode cX10_make 2 = .ok (.iload_n 1, 1) := by decide +kernel
theorem dX10_make_3 : decode cX10_make 3 = .ok (.iload_n 2, 1) := by decide +kernel
theorem dX10_make_4 : decode cX10_make 4 = .ok (.iload_n 3, 1) := by decide +kernel
theorem dX10_make_5 : decode cX10_make 5 = .ok (.iload 4, 2) := by decide +kernel
theorem dX10_make_7 : decode cX10_make 7 = .ok (.invokevirtual 348, 3) := by decide +kernel
theorem dX10_make_10 : decode cX10_make 10 = .ok (.ireturn, 1) := by decide +kernel
theorem dX10_link__0 : decode cX10_link_ 0 = .ok (.aload_n 0, 1) := by decide +kernel
theorem dX10_link__1 : decode cX10_link_ 1 = .ok (.iconst 1, 1) := by decide +kernel
theorem dX10_link__2 : decode cX10_link_ 2 = .ok (.iload_n 1, 1) := by decide +kernel
theorem dX10_link__3 : decode cX10_link_ 3 = .ok (.iload_n 2, 1) := by decide +kernel
theorem dX10_link__4 : decode cX10_link_ 4 = .ok (.iload_n 3, 1) := by decide +kernel
theorem dX10_link__5 : decode cX10_link_ 5 = .ok (.iconst 0, 1) := by decide +kernel
theorem dX10_link__6 : decode cX10_link_ 6 = .ok (.invokevirtual 348, 3) := by decide +kernel
theorem dX10_link__9 : decode cX10_link_ 9 = .ok (.ireturn, 1) := by decide +kernel
theorem dX10_load_0 : decode cX10_load 0 = .ok (.aload_n 0, 1) := by decide +kernel
theorem dX10_load_1 : decode cX10_load 1 = .ok (.iconst 2, 1) := by decide +kernel
theorem dX10_load_2 : decode cX10_load 2 = .ok (.iload_n 1, 1) := by decide +kernel
theorem dX10_load_3 : decode cX10_load 3 = .ok (.iload_n 2, 1) := by decide +kernel
theorem dX10_load_4 : decode cX10_load 4 = .ok (.iload_n 3, 1) := by decide +kernel
theorem dX10_load_5 : decode cX10_load 5 = .ok (.iconst 0, 1) := by decide +kernel
theorem dX10_load_6 : decode cX10_load 6 = .ok (.invokevirtual 348, 3) := by decide +kernel
theorem dX10_load_9 : decode cX10_load 9 = .ok (.ireturn, 1) := by decide +kernel
theorem dX10_drop_0 : decode cX10_drop 0 = .ok (.aload_n 0, 1) := by decide +kernel
theorem dX10_drop_1 : decode cX10_drop 1 = .ok (.iconst 3, 1) := by decide +kernel
theorem dX10_drop_2 : decode cX10_drop 2 = .ok (.iload_n 1, 1) := by decide +kernel
theorem dX10_drop_3 : decode cX10_drop 3 = .ok (.iconst 0, 1) := by decide +kernel
theorem dX10_drop_4 : decode cX10_drop 4 = .ok (.iconst 0, 1) := by decide +kernel
theorem dX10_drop_5 : decode cX10_drop 5 = .ok (.iconst 0, 1) := by decide +kernel
theorem dX10_drop_6 : decode cX10_drop 6 = .ok (.invokevirtual 348, 3) := by decide +kernel
theorem dX10_drop_9 : decode cX10_drop 9 = .ok (.ireturn, 1) := by decide +kernel
theorem dX10_minor_0 : decode cX10_minor 0 = .ok (.aload_n 0, 1) := by decide +kernel
theorem dX10_minor_1 : decode cX10_minor 1 = .ok (.iconst 4, 1) := by decide +kernel
theorem dX10_minor_2 : decode cX10_minor 2 = .ok (.iconst 0, 1) := by decide +kernel
theorem dX10_minor_3 : decode cX10_minor 3 = .ok (.iconst 0, 1) := by decide +kernel
theorem dX10_minor_4 : decode cX10_minor 4 = .ok (.iconst 0, 1) := by decide +kernel
theorem dX10_minor_5 : decode cX10_minor 5 = .ok (.iconst 0, 1) := by decide +kernel
theorem dX10_minor_6 : decode cX10_minor 6 = .ok (.invokevirtual 348, 3) := by decide +kernel
theorem dX10_minor_9 : decode cX10_minor 9 = .ok (.ireturn, 1) := by decide +kernel
theorem dX10_major_0 : decode cX10_major 0 = .ok (.aload_n 0, 1) := by decide +kernel
theorem dX10_major_1 : decode cX10_major 1 = .ok (.iconst 5, 1) := by decide +kernel
theorem dX10_major_2 : decode cX10_major 2 = .ok (.iconst 0, 1) := by decide +kernel
theorem dX10_major_3 : decode cX10_major 3 = .ok (.iconst 0, 1) := by decide +kernel
theorem dX10_major_4 : decode cX10_major 4 = .ok (.iconst 0, 1) := by decide +kernel
theorem dX10_major_5 : decode cX10_major 5 = .ok (.iconst 0, 1) := by decide +kernel
theorem dX10_major_6 : decode cX10_major 6 = .ok (.invokevirtual 348, 3) := by decide +kernel
theorem dX10_major_9 : decode cX10_major 9 = .ok (.ireturn, 1) := by decide +kernel
theorem dX10_tell_0 : decode cX10_tell 0 = .ok (.aload_n 0, 1) := by decide +kernel
theorem dX10_tell_1 : decode cX10_tell 1 = .ok (.bipush 6, 2) := by decide +kernel
theorem dX10_tell_3 : decode cX10_tell 3 = .ok (.iload_n 1, 1) := by decide +kernel
theorem dX10_tell_4 : decode cX10_tell 4 = .ok (.iconst 0, 1) := by decide +kernel
theorem dX10_tell_5 : decode cX10_tell 5 = .ok (.iconst 0, 1) := by decide +kernel
theorem dX10_tell_6 : decode cX10_tell 6 = .ok (.iconst 0, 1) := by decide +kernel
theorem dX10_tell_7 : decode cX10_tell 7 = .ok (.invokevirtual 348, 3) := by decide +kernel
theorem dX10_tell_10 : decode cX10_tell 10 = .ok (.ireturn, 1) := by decide +kernel
theorem dX10_ask_0 : decode cX10_ask 0 = .ok (.aload_n 0, 1) := by decide +kernel
theorem dX10_ask_1 : decode cX10_ask 1 = .ok (.bipush 7, 2) := by decide +kernel
theorem dX10_ask_3 : decode cX10_ask 3 = .ok (.iconst 0, 1) := by decide +kernel
theorem dX10_ask_4 : decode cX10_ask 4 = .ok (.iconst 0, 1) := by decide +kernel
theorem dX10_ask_5 : decode cX10_ask 5 = .ok (.iconst 0, 1) := by decide +kernel
theorem dX10_ask_6 : decode cX10_ask 6 = .ok (.iconst 0, 1) := by decide +kernel
theorem dX10_ask_7 : decode cX10_ask 7 = .ok (.invokevirtual 348, 3) := by decide +kernel
theorem dX10_ask_10 : decode cX10_ask 10 = .ok (.ireturn, 1) := by decide +kernel
theorem dX10_draw_0 : decode cX10_draw 0 = .ok (.aload_n 0, 1) := by decide +kernel
theorem dX10_draw_1 : decode cX10_draw 1 = .ok (.aload_n 0, 1) := by decide +kernel
theorem dX10_draw_2 : decode cX10_draw 2 = .ok (.getfield 351, 3) := by decide +kernel
theorem dX10_draw_5 : decode cX10_draw 5 = .ok (.ldc2_w 355, 3) := by decide +kernel
theorem dX10_draw_8 : decode cX10_draw 8 = .ok (.lmul, 1) := by decide +kernel
theorem dX10_draw_9 : decode cX10_draw 9 = .ok (.ldc2_w 357, 3) := by decide +kernel
theorem dX10_draw_12 : decode cX10_draw 12 = .ok (.ladd, 1) := by decide +kernel
theorem dX10_draw_13 : decode cX10_draw 13 = .ok (.putfield 351, 3) := by decide +kernel
theorem dX10_draw_16 : decode cX10_draw 16 = .ok (.aload_n 0, 1) := by decide +kernel
theorem dX10_draw_17 : decode cX10_draw 17 = .ok (.getfield 351, 3) := by decide +kernel
theorem dX10_draw_20 : decode cX10_draw 20 = .ok (.bipush 33, 2) := by decide +kernel
theorem dX10_draw_22 : decode cX10_draw 22 = .ok (.lushr, 1) := by decide +kernel
theorem dX10_draw_23 : decode cX10_draw 23 = .ok (.iload_n 1, 1) := by decide +kernel
theorem dX10_draw_24 : decode cX10_draw 24 = .ok (.i2l, 1) := by decide +kernel
theorem dX10_draw_25 : decode cX10_draw 25 = .ok (.lrem, 1) := by decide +kernel
theorem dX10_draw_26 : decode cX10_draw 26 = .ok (.l2i, 1) := by decide +kernel
theorem dX10_draw_27 : decode cX10_draw 27 = .ok (.ireturn, 1) := by decide +kernel
theorem dX10_happens_0 : decode cX10_happens 0 = .ok (.aload_n 0, 1) := by decide +kernel
theorem dX10_happens_1 : decode cX10_happens 1 = .ok (.bipush 10, 2) := by decide +kernel
theorem dX10_happens_3 : decode cX10_happens 3 = .ok (.invokevirtual 359, 3) := by decide +kernel
theorem dX10_happens_6 : decode cX10_happens 6 = .ok (.istore_n 1, 1) := by decide +kernel
theorem dX10_happens_7 : decode cX10_happens 7 = .ok (.iload_n 1, 1) := by decide +kernel
theorem dX10_happens_8 : decode cX10_happens 8 = .ok (.bipush 9, 2) := by decide +kernel
theorem dX10_happens_10 : decode cX10_happens 10 = .ok (.if_icmp .ne 44, 3) := by decide +kernel
theorem dX10_happens_13 : decode cX10_happens 13 = .ok (.aload_n 0, 1) := by decide +kernel
theorem dX10_happens_14 : decode cX10_happens 14 = .ok (.iconst 3, 1) := by decide +kernel
theorem dX10_happens_15 : decode cX10_happens 15 = .ok (.invokevirtual 359, 3) := by decide +kernel
theorem dX10_happens_18 : decode cX10_happens 18 = .ok (.istore_n 2, 1) := by decide +kernel
theorem dX10_happens_19 : decode cX10_happens 19 = .ok (.iload_n 2, 1) := by decide +kernel
theorem dX10_happens_20 : decode cX10_happens 20 = .ok (.iconst 2, 1) := by decide +kernel
theorem dX10_happens_21 : decode cX10_happens 21 = .ok (.if_icmp .ne 21, 3) := by decide +kernel
theorem dX10_happens_24 : decode cX10_happens 24 = .ok (.aload_n 0, 1) := by decide +kernel
theorem dX10_happens_25 : decode cX10_happens 25 = .ok (.bipush 6, 2) := by decide +kernel
theorem dX10_happens_27 : decode cX10_happens 27 = .ok (.aload_n 0, 1) := by decide +kernel
theorem dX10_happens_28 : decode cX10_happens 28 = .ok (.bipush 9, 2) := by decide +kernel
theorem dX10_happens_30 : decode cX10_happens 30 = .ok (.invokevirtual 359, 3) := by decide +kernel
theorem dX10_happens_33 : decode cX10_happens 33 = .ok (.iconst 0, 1) := by decide +kernel
theorem dX10_happens_34 : decode cX10_happens 34 = .ok (.iconst 0, 1) := by decide +kernel
theorem dX10_happens_35 : decode cX10_happens 35 = .ok (.iconst 0, 1) := by decide +kernel
theorem dX10_happens_36 : decode cX10_happens 36 = .ok (.invokevirtual 344, 3) := by decide +kernel
theorem dX10_happens_39 : decode cX10_happens 39 = .ok (.goto 14, 3) := by decide +kernel
theorem dX10_happens_42 : decode cX10_happens 42 = .ok (.aload_n 0, 1) := by decide +kernel
theorem dX10_happens_43 : decode cX10_happens 43 = .ok (.iconst 4, 1) := by decide +kernel
theorem dX10_happens_44 : decode cX10_happens 44 = .ok (.iload_n 2, 1) := by decide +kernel
theorem dX10_happens_45 : decode cX10_happens 45 = .ok (.iadd, 1) := by decide +kernel
theorem dX10_happens_46 : decode cX10_happens 46 = .ok (.iconst 0, 1) := by decide +kernel
theorem dX10_happens_47 : decode cX10_happens 47 = .ok (.iconst 0, 1) := by decide +kernel
theorem dX10_happens_48 : decode cX10_happens 48 = .ok (.iconst 0, 1) := by decide +kernel
theorem dX10_happens_49 : decode cX10_happens 49 = .ok (.iconst 0, 1) := by decide +kernel
theorem dX10_happens_50 : decode cX10_happens 50 = .ok (.invokevirtual 344, 3) := by decide +kernel
theorem dX10_happens_53 : decode cX10_happens 53 = .ok (.ireturn, 1) := by decide +kernel
theorem dX10_happens_54 : decode cX10_happens 54 = .ok (.aload_n 0, 1) := by decide +kernel
theorem dX10_happens_55 : decode cX10_happens 55 = .ok (.bipush 8, 2) := by decide +kernel
theorem dX10_happens_57 : decode cX10_happens 57 = .ok (.invokevirtual 359, 3) := by decide +kernel
theorem dX10_happens_60 : decode cX10_happens 60 = .ok (.istore_n 2, 1) := by decide +kernel
theorem dX10_happens_61 : decode cX10_happens 61 = .ok (.iload_n 1, 1) := by decide +kernel
theorem dX10_happens_62 : decode cX10_happens 62 = .ok (.bipush 8, 2) := by decide +kernel
theorem dX10_happens_64 : decode cX10_happens 64 = .ok (.if_icmp .ne 13, 3) := by decide +kernel
theorem dX10_happens_67 : decode cX10_happens 67 = .ok (.aload_n 0, 1) := by decide +kernel
theorem dX10_happens_68 : decode cX10_happens 68 = .ok (.iconst 3, 1) := by decide +kernel
theorem dX10_happens_69 : decode cX10_happens 69 = .ok (.iload_n 2, 1) := by decide +kernel
theorem dX10_happens_70 : decode cX10_happens 70 = .ok (.iconst 0, 1) := by decide +kernel
theorem dX10_happens_71 : decode cX10_happens 71 = .ok (.iconst 0, 1) := by decide +kernel
theorem dX10_happens_72 : decode cX10_happens 72 = .ok (.iconst 0, 1) := by decide +kernel
theorem dX10_happens_73 : decode cX10_happens 73 = .ok (.invokevirtual 344, 3) := by decide +kernel
theorem dX10_happens_76 : decode cX10_happens 76 = .ok (.ireturn, 1) := by decide +kernel
theorem dX10_happens_77 : decode cX10_happens 77 = .ok (.iload_n 1, 1) := by decide +kernel
theorem dX10_happens_78 : decode cX10_happens 78 = .ok (.bipush 7, 2) := by decide +kernel
theorem dX10_happens_80 : decode cX10_happens 80 = .ok (.if_icmp .ne 24, 3) := by decide +kernel
theorem dX10_happens_83 : decode cX10_happens 83 = .ok (.aload_n 0, 1) := by decide +kernel
theorem dX10_happens_84 : decode cX10_happens 84 = .ok (.bipush 8, 2) := by decide +kernel
theorem dX10_happens_86 : decode cX10_happens 86 = .ok (.invokevirtual 359, 3) := by decide +kernel
theorem dX10_happens_89 : decode cX10_happens 89 = .ok (.istore_n 3, 1) := by decide +kernel
theorem dX10_happens_90 : decode cX10_happens 90 = .ok (.aload_n 0, 1) := by decide +kernel
theorem dX10_happens_91 : decode cX10_happens 91 = .ok (.iconst 2, 1) := by decide +kernel
theorem dX10_happens_92 : decode cX10_happens 92 = .ok (.iload_n 2, 1) := by decide +kernel
theorem dX10_happens_93 : decode cX10_happens 93 = .ok (.iload_n 3, 1) := by decide +kernel
theorem dX10_happens_94 : decode cX10_happens 94 = .ok (.aload_n 0, 1) := by decide +kernel
theorem dX10_happens_95 : decode cX10_happens 95 = .ok (.iconst 4, 1) := by decide +kernel
theorem dX10_happens_96 : decode cX10_happens 96 = .ok (.invokevirtual 359, 3) := by decide +kernel
theorem dX10_happens_99 : decode cX10_happens 99 = .ok (.iconst 0, 1) := by decide +kernel
theorem dX10_happens_100 : decode cX10_happens 100 = .ok (.invokevirtual 344, 3) := by decide +kernel
theorem dX10_happens_103 : decode cX10_happens 103 = .ok (.ireturn, 1) := by decide +kernel
theorem dX10_happens_104 : decode cX10_happens 104 = .ok (.iload_n 1, 1) := by decide +kernel
theorem dX10_happens_105 : decode cX10_happens 105 = .ok (.iconst 3, 1) := by decide +kernel
theorem dX10_happens_106 : decode cX10_happens 106 = .ok (.if_icmp .le 24, 3) := by decide +kernel
theorem dX10_happens_109 : decode cX10_happens 109 = .ok (.aload_n 0, 1) := by decide +kernel
theorem dX10_happens_110 : decode cX10_happens 110 = .ok (.iconst 4, 1) := by decide +kernel
theorem dX10_happens_111 : decode cX10_happens 111 = .ok (.invokevirtual 359, 3) := by decide +kernel
theorem dX10_happens_114 : decode cX10_happens 114 = .ok (.istore_n 3, 1) := by decide +kernel
theorem dX10_happens_115 : decode cX10_happens 115 = .ok (.aload_n 0, 1) := by decide +kernel
theorem dX10_happens_116 : decode cX10_happens 116 = .ok (.iconst 1, 1) := by decide +kernel
theorem dX10_happens_117 : decode cX10_happens 117 = .ok (.iload_n 2, 1) := by decide +kernel
theorem dX10_happens_118 : decode cX10_happens 118 = .ok (.iload_n 3, 1) := by decide +kernel
theorem dX10_happens_119 : decode cX10_happens 119 = .ok (.aload_n 0, 1) := by decide +kernel
theorem dX10_happens_120 : decode cX10_happens 120 = .ok (.bipush 9, 2) := by decide +kernel
theorem dX10_happens_122 : decode cX10_happens 122 = .ok (.invokevirtual 359, 3) := by decide +kernel
theorem dX10_happens_125 : decode cX10_happens 125 = .ok (.iconst 0, 1) := by decide +kernel
theorem dX10_happens_126 : decode cX10_happens 126 = .ok (.invokevirtual 344, 3) := by decide +kernel
theorem dX10_happens_129 : decode cX10_happens 129 = .ok (.ireturn, 1) := by decide +kernel
theorem dX10_happens_130 : decode cX10_happens 130 = .ok (.aload_n 0, 1) := by decide +kernel
theorem dX10_happens_131 : decode cX10_happens 131 = .ok (.iconst 3, 1) := by decide +kernel
theorem dX10_happens_132 : decode cX10_happens 132 = .ok (.invokevirtual 359, 3) := by decide +kernel
theorem dX10_happens_135 : decode cX10_happens 135 = .ok (.istore_n 3, 1) := by decide +kernel
theorem dX10_happens_136 : decode cX10_happens 136 = .ok (.aload_n 0, 1) := by decide +kernel
theorem dX10_happens_137 : decode cX10_happens 137 = .ok (.iconst 4, 1) := by decide +kernel
theorem dX10_happens_138 : decode cX10_happens 138 = .ok (.invokevirtual 359, 3) := by decide +kernel
theorem dX10_happens_141 : decode cX10_happens 141 = .ok (.iconst 1, 1) := by decide +kernel
theorem dX10_happens_142 : decode cX10_happens 142 = .ok (.iadd, 1) := by decide +kernel
theorem dX10_happens_143 : decode cX10_happens 143 = .ok (.istore 4, 2) := by decide +kernel
theorem dX10_happens_145 : decode cX10_happens 145 = .ok (.aload_n 0, 1) := by decide +kernel
theorem dX10_happens_146 : decode cX10_happens 146 = .ok (.iconst 0, 1) := by decide +kernel
theorem dX10_happens_147 : decode cX10_happens 147 = .ok (.iload_n 2, 1) := by decide +kernel
theorem dX10_happens_148 : decode cX10_happens 148 = .ok (.iload_n 3, 1) := by decide +kernel
theorem dX10_happens_149 : decode cX10_happens 149 = .ok (.iload 4, 2) := by decide +kernel
theorem dX10_happens_151 : decode cX10_happens 151 = .ok (.aload_n 0, 1) := by decide +kernel
theorem dX10_happens_152 : decode cX10_happens 152 = .ok (.sipush 1000, 3) := by decide +kernel
theorem dX10_happens_155 : decode cX10_happens 155 = .ok (.invokevirtual 359, 3) := by decide +kernel
theorem dX10_happens_158 : decode cX10_happens 158 = .ok (.invokevirtual 344, 3) := by decide +kernel
theorem dX10_happens_161 : decode cX10_happens 161 = .ok (.ireturn, 1) := by decide +kernel
theorem dX10_years_0 : decode cX10_years 0 = .ok (.aload_n 0, 1) := by decide +kernel
theorem dX10_years_1 : decode cX10_years 1 = .ok (.iconst 0, 1) := by decide +kernel
theorem dX10_years_2 : decode cX10_years 2 = .ok (.putfield 73, 3) := by decide +kernel
theorem dX10_years_5 : decode cX10_years 5 = .ok (.aload_n 0, 1) := by decide +kernel
theorem dX10_years_6 : decode cX10_years 6 = .ok (.getfield 157, 3) := by decide +kernel
theorem dX10_years_9 : decode cX10_years 9 = .ok (.ifCond .eq 15, 3) := by decide +kernel
theorem dX10_years_12 : decode cX10_years 12 = .ok (.iload_n 1, 1) := by decide +kernel
theorem dX10_years_13 : decode cX10_years 13 = .ok (.i2l, 1) := by decide +kernel
theorem dX10_years_14 : decode cX10_years 14 = .ok (.lconst 1, 1) := by decide +kernel
theorem dX10_years_15 : decode cX10_years 15 = .ok (.ldc2_w 362, 3) := by decide +kernel
theorem dX10_years_18 : decode cX10_years 18 = .ok (.invokestatic 134, 3) := by decide +kernel
theorem dX10_years_21 : decode cX10_years 21 = .ok (.ifCond .ne 5, 3) := by decide +kernel
theorem dX10_years_24 : decode cX10_years 24 = .ok (.iconst (-1), 1) := by decide +kernel
theorem dX10_years_25 : decode cX10_years 25 = .ok (.ireturn, 1) := by decide +kernel
theorem dX10_years_26 : decode cX10_years 26 = .ok (.aload_n 0, 1) := by decide +kernel
theorem dX10_years_27 : decode cX10_years 27 = .ok (.lload_n 2, 1) := by decide +kernel
theorem dX10_years_28 : decode cX10_years 28 = .ok (.putfield 351, 3) := by decide +kernel
theorem dX10_years_31 : decode cX10_years 31 = .ok (.iconst 0, 1) := by decide +kernel
theorem dX10_years_32 : decode cX10_years 32 = .ok (.istore 4, 2) := by decide +kernel
theorem dX10_years_34 : decode cX10_years 34 = .ok (.iload 4, 2) := by decide +kernel
theorem dX10_years_36 : decode cX10_years 36 = .ok (.iload_n 1, 1) := by decide +kernel
theorem dX10_years_37 : decode cX10_years 37 = .ok (.if_icmp .ge 15, 3) := by decide +kernel
theorem dX10_years_40 : decode cX10_years 40 = .ok (.aload_n 0, 1) := by decide +kernel
theorem dX10_years_41 : decode cX10_years 41 = .ok (.invokevirtual 364, 3) := by decide +kernel
theorem dX10_years_44 : decode cX10_years 44 = .ok (.istore 5, 2) := by decide +kernel
theorem dX10_years_46 : decode cX10_years 46 = .ok (.iinc 4 1, 3) := by decide +kernel
theorem dX10_years_49 : decode cX10_years 49 = .ok (.goto (-15), 3) := by decide +kernel
theorem dX10_years_52 : decode cX10_years 52 = .ok (.aload_n 0, 1) := by decide +kernel
theorem dX10_years_53 : decode cX10_years 53 = .ok (.getfield 29, 3) := by decide +kernel
theorem dX10_years_56 : decode cX10_years 56 = .ok (.invokestatic 331, 3) := by decide +kernel
theorem dX10_years_59 : decode cX10_years 59 = .ok (.ireturn, 1) := by decide +kernel
theorem dX10_status_0 : decode cX10_status 0 = .ok (.aload_n 0, 1) := by decide +kernel
theorem dX10_status_1 : decode cX10_status 1 = .ok (.iconst 0, 1) := by decide +kernel
theorem dX10_status_2 : decode cX10_status 2 = .ok (.putfield 73, 3) := by decide +kernel
theorem dX10_status_5 : decode cX10_status 5 = .ok (.iload_n 1, 1) := by decide +kernel
theorem dX10_status_6 : decode cX10_status 6 = .ok (.i2l, 1) := by decide +kernel
theorem dX10_status_7 : decode cX10_status 7 = .ok (.lconst 0, 1) := by decide +kernel
theorem dX10_status_8 : decode cX10_status 8 = .ok (.ldc2_w 367, 3) := by decide +kernel
theorem dX10_status_11 : decode cX10_status 11 = .ok (.invokestatic 134, 3) := by decide +kernel
theorem dX10_status_14 : decode cX10_status 14 = .ok (.ifCond .eq 12, 3) := by decide +kernel
theorem dX10_status_17 : decode cX10_status 17 = .ok (.aload_n 0, 1) := by decide +kernel
theorem dX10_status_18 : decode cX10_status 18 = .ok (.getfield 20, 3) := by decide +kernel
theorem dX10_status_21 : decode cX10_status 21 = .ok (.iload_n 1, 1) := by decide +kernel
theorem dX10_status_22 : decode cX10_status 22 = .ok (.iaload, 1) := by decide +kernel
theorem dX10_status_23 : decode cX10_status 23 = .ok (.goto 4, 3) := by decide +kernel
theorem dX10_status_26 : decode cX10_status 26 = .ok (.iconst (-1), 1) := by decide +kernel
theorem dX10_status_27 : decode cX10_status 27 = .ok (.ireturn, 1) := by decide +kernel
theorem dX10_undo_0 : decode cX10_undo 0 = .ok (.aload_n 0, 1) := by decide +kernel
theorem dX10_undo_1 : decode cX10_undo 1 = .ok (.iconst 0, 1) := by decide +kernel
theorem dX10_undo_2 : decode cX10_undo 2 = .ok (.putfield 73, 3) := by decide +kernel
theorem dX10_undo_5 : decode cX10_undo 5 = .ok (.aload_n 0, 1) := by decide +kernel
theorem dX10_undo_6 : decode cX10_undo 6 = .ok (.getfield 161, 3) := by decide +kernel
theorem dX10_undo_9 : decode cX10_undo 9 = .ok (.ifCond .ne 5, 3) := by decide +kernel
theorem dX10_undo_12 : decode cX10_undo 12 = .ok (.iconst (-1), 1) := by decide +kernel
theorem dX10_undo_13 : decode cX10_undo 13 = .ok (.ireturn, 1) := by decide +kernel
theorem dX10_undo_14 : decode cX10_undo 14 = .ok (.aload_n 0, 1) := by decide +kernel
theorem dX10_undo_15 : decode cX10_undo 15 = .ok (.dup, 1) := by decide +kernel
theorem dX10_undo_16 : decode cX10_undo 16 = .ok (.getfield 161, 3) := by decide +kernel
theorem dX10_undo_19 : decode cX10_undo 19 = .ok (.iconst 1, 1) := by decide +kernel
theorem dX10_undo_20 : decode cX10_undo 20 = .ok (.isub, 1) := by decide +kernel
theorem dX10_undo_21 : decode cX10_undo 21 = .ok (.putfield 161, 3) := by decide +kernel
theorem dX10_undo_24 : decode cX10_undo 24 = .ok (.aload_n 0, 1) := by decide +kernel
theorem dX10_undo_25 : decode cX10_undo 25 = .ok (.getfield 42, 3) := by decide +kernel
theorem dX10_undo_28 : decode cX10_undo 28 = .ok (.sipush 1554, 3) := by decide +kernel
theorem dX10_undo_31 : decode cX10_undo 31 = .ok (.aload_n 0, 1) := by decide +kernel
theorem dX10_undo_32 : decode cX10_undo 32 = .ok (.getfield 328, 3) := by decide +kernel
theorem dX10_undo_35 : decode cX10_undo 35 = .ok (.aload_n 0, 1) := by decide +kernel
theorem dX10_undo_36 : decode cX10_undo 36 = .ok (.getfield 161, 3) := by decide +kernel
theorem dX10_undo_39 : decode cX10_undo 39 = .ok (.iadd, 1) := by decide +kernel
theorem dX10_undo_40 : decode cX10_undo 40 = .ok (.bipush 40, 2) := by decide +kernel
theorem dX10_undo_42 : decode cX10_undo 42 = .ok (.irem, 1) := by decide +kernel
theorem dX10_undo_43 : decode cX10_undo 43 = .ok (.imul, 1) := by decide +kernel
theorem dX10_undo_44 : decode cX10_undo 44 = .ok (.aload_n 0, 1) := by decide +kernel
theorem dX10_undo_45 : decode cX10_undo 45 = .ok (.getfield 29, 3) := by decide +kernel
theorem dX10_undo_48 : decode cX10_undo 48 = .ok (.iconst 0, 1) := by decide +kernel
theorem dX10_undo_49 : decode cX10_undo 49 = .ok (.invokestatic 232, 3) := by decide +kernel
theorem dX10_undo_52 : decode cX10_undo 52 = .ok (.aload_n 0, 1) := by decide +kernel
theorem dX10_undo_53 : decode cX10_undo 53 = .ok (.getfield 161, 3) := by decide +kernel
theorem dX10_undo_56 : decode cX10_undo 56 = .ok (.ireturn, 1) := by decide +kernel
theorem dX10_log_0 : decode cX10_log 0 = .ok (.aload_n 0, 1) := by decide +kernel
theorem dX10_log_1 : decode cX10_log 1 = .ok (.iconst 0, 1) := by decide +kernel
theorem dX10_log_2 : decode cX10_log 2 = .ok (.putfield 73, 3) := by decide +kernel
theorem dX10_log_5 : decode cX10_log 5 = .ok (.iload_n 1, 1) := by decide +kernel
theorem dX10_log_6 : decode cX10_log 6 = .ok (.ifCond .lt 27, 3) := by decide +kernel
theorem dX10_log_9 : decode cX10_log 9 = .ok (.iload_n 1, 1) := by decide +kernel
theorem dX10_log_10 : decode cX10_log 10 = .ok (.aload_n 0, 1) := by decide +kernel
theorem dX10_log_11 : decode cX10_log 11 = .ok (.getfield 29, 3) := by decide +kernel
theorem dX10_log_14 : decode cX10_log 14 = .ok (.sipush 1373, 3) := by decide +kernel
theorem dX10_log_17 : decode cX10_log 17 = .ok (.iaload, 1) := by decide +kernel
theorem dX10_log_18 : decode cX10_log 18 = .ok (.if_icmp .ge 15, 3) := by decide +kernel
theorem dX10_log_21 : decode cX10_log 21 = .ok (.iload_n 2, 1) := by decide +kernel
theorem dX10_log_22 : decode cX10_log 22 = .ok (.i2l, 1) := by decide +kernel
theorem dX10_log_23 : decode cX10_log 23 = .ok (.lconst 0, 1) := by decide +kernel
theorem dX10_log_24 : decode cX10_log 24 = .ok (.ldc2_w 281, 3) := by decide +kernel
theorem dX10_log_27 : decode cX10_log 27 = .ok (.invokestatic 134, 3) := by decide +kernel
theorem dX10_log_30 : decode cX10_log 30 = .ok (.ifCond .ne 7, 3) := by decide +kernel
theorem dX10_log_33 : decode cX10_log 33 = .ok (.ldc_w 369, 3) := by decide +kernel
theorem dX10_log_36 : decode cX10_log 36 = .ok (.ireturn, 1) := by decide +kernel
theorem dX10_log_37 : decode cX10_log 37 = .ok (.aload_n 0, 1) := by decide +kernel
theorem dX10_log_38 : decode cX10_log 38 = .ok (.getfield 29, 3) := by decide +kernel
theorem dX10_log_41 : decode cX10_log 41 = .ok (.sipush 1374, 3) := by decide +kernel
theorem dX10_log_44 : decode cX10_log 44 = .ok (.iconst 3, 1) := by decide +kernel
theorem dX10_log_45 : decode cX10_log 45 = .ok (.aload_n 0, 1) := by decide +kernel
theorem dX10_log_46 : decode cX10_log 46 = .ok (.getfield 29, 3) := by decide +kernel
theorem dX10_log_49 : decode cX10_log 49 = .ok (.sipush 1373, 3) := by decide +kernel
theorem dX10_log_52 : decode cX10_log 52 = .ok (.iaload, 1) := by decide +kernel
theorem dX10_log_53 : decode cX10_log 53 = .ok (.iconst 1, 1) := by decide +kernel
theorem dX10_log_54 : decode cX10_log 54 = .ok (.isub, 1) := by decide +kernel
theorem dX10_log_55 : decode cX10_log 55 = .ok (.iload_n 1, 1) := by decide +kernel
theorem dX10_log_56 : decode cX10_log 56 = .ok (.isub, 1) := by decide +kernel
theorem dX10_log_57 : decode cX10_log 57 = .ok (.imul, 1) := by decide +kernel
theorem dX10_log_58 : decode cX10_log 58 = .ok (.iadd, 1) := by decide +kernel
theorem dX10_log_59 : decode cX10_log 59 = .ok (.iload_n 2, 1) := by decide +kernel
theorem dX10_log_60 : decode cX10_log 60 = .ok (.iadd, 1) := by decide +kernel
theorem dX10_log_61 : decode cX10_log 61 = .ok (.iaload, 1) := by decide +kernel
theorem dX10_log_62 : decode cX10_log 62 = .ok (.ireturn, 1) := by decide +kernel
theorem dX10_image_0 : decode cX10_image 0 = .ok (.aload_n 0, 1) := by decide +kernel
theorem dX10_image_1 : decode cX10_image 1 = .ok (.iconst 0, 1) := by decide +kernel
theorem dX10_image_2 : decode cX10_image 2 = .ok (.putfield 73, 3) := by decide +kernel
theorem dX10_image_5 : decode cX10_image 5 = .ok (.aload_n 0, 1) := by decide +kernel
theorem dX10_image_6 : decode cX10_image 6 = .ok (.getfield 157, 3) := by decide +kernel
theorem dX10_image_9 : decode cX10_image 9 = .ok (.ifCond .ne 5, 3) := by decide +kernel
theorem dX10_image_12 : decode cX10_image 12 = .ok (.iconst (-1), 1) := by decide +kernel
theorem dX10_image_13 : decode cX10_image 13 = .ok (.ireturn, 1) := by decide +kernel
theorem dX10_image_14 : decode cX10_image 14 = .ok (.aload_n 0, 1) := by decide +kernel
theorem dX10_image_15 : decode cX10_image 15 = .ok (.getfield 29, 3) := by decide +kernel
theorem dX10_image_18 : decode cX10_image 18 = .ok (.iconst 0, 1) := by decide +kernel
theorem dX10_image_19 : decode cX10_image 19 = .ok (.aload_n 0, 1) := by decide +kernel
theorem dX10_image_20 : decode cX10_image 20 = .ok (.getfield 38, 3) := by decide +kernel
theorem dX10_image_23 : decode cX10_image 23 = .ok (.iconst 0, 1) := by decide +kernel
theorem dX10_image_24 : decode cX10_image 24 = .ok (.invokestatic 232, 3) := by decide +kernel
theorem dX10_image_27 : decode cX10_image 27 = .ok (.aload_n 0, 1) := by decide +kernel
theorem dX10_image_28 : decode cX10_image 28 = .ok (.iconst 1, 1) := by decide +kernel
theorem dX10_image_29 : decode cX10_image 29 = .ok (.putfield 164, 3) := by decide +kernel
theorem dX10_image_32 : decode cX10_image 32 = .ok (.aload_n 0, 1) := by decide +kernel
theorem dX10_image_33 : decode cX10_image 33 = .ok (.getfield 29, 3) := by decide +kernel
theorem dX10_image_36 : decode cX10_image 36 = .ok (.invokestatic 331, 3) := by decide +kernel
theorem dX10_image_39 : decode cX10_image 39 = .ok (.ireturn, 1) := by decide +kernel
theorem dX10_back_0 : decode cX10_back 0 = .ok (.aload_n 0, 1) := by decide +kernel
theorem dX10_back_1 : decode cX10_back 1 = .ok (.iconst 0, 1) := by decide +kernel
theorem dX10_back_2 : decode cX10_back 2 = .ok (.putfield 73, 3) := by decide +kernel
theorem dX10_back_5 : decode cX10_back 5 = .ok (.aload_n 0, 1) := by decide +kernel
theorem dX10_back_6 : decode cX10_back 6 = .ok (.getfield 164, 3) := by decide +kernel
theorem dX10_back_9 : decode cX10_back 9 = .ok (.ifCond .ne 5, 3) := by decide +kernel
theorem dX10_back_12 : decode cX10_back 12 = .ok (.iconst (-1), 1) := by decide +kernel
theorem dX10_back_13 : decode cX10_back 13 = .ok (.ireturn, 1) := by decide +kernel
theorem dX10_back_14 : decode cX10_back 14 = .ok (.aload_n 0, 1) := by decide +kernel
theorem dX10_back_15 : decode cX10_back 15 = .ok (.getfield 38, 3) := by decide +kernel
theorem dX10_back_18 : decode cX10_back 18 = .ok (.iconst 0, 1) := by decide +kernel
theorem dX10_back_19 : decode cX10_back 19 = .ok (.aload_n 0, 1) := by decide +kernel
theorem dX10_back_20 : decode cX10_back 20 = .ok (.getfield 29, 3) := by decide +kernel
theorem dX10_back_23 : decode cX10_back 23 = .ok (.iconst 0, 1) := by decide +kernel
theorem dX10_back_24 : decode cX10_back 24 = .ok (.invokestatic 232, 3) := by decide +kernel
theorem dX10_back_27 : decode cX10_back 27 = .ok (.aload_n 0, 1) := by decide +kernel
theorem dX10_back_28 : decode cX10_back 28 = .ok (.iconst 0, 1) := by decide +kernel
theorem dX10_back_29 : decode cX10_back 29 = .ok (.putfield 161, 3) := by decide +kernel
theorem dX10_back_32 : decode cX10_back 32 = .ok (.aload_n 0, 1) := by decide +kernel
theorem dX10_back_33 : decode cX10_back 33 = .ok (.getfield 29, 3) := by decide +kernel
theorem dX10_back_36 : decode cX10_back 36 = .ok (.invokestatic 331, 3) := by decide +kernel
theorem dX10_back_39 : decode cX10_back 39 = .ok (.ireturn, 1) := by decide +kernel
theorem dX10_rule_0 : decode cX10_rule 0 = .ok (.aload_n 0, 1) := by decide +kernel
theorem dX10_rule_1 : decode cX10_rule 1 = .ok (.iconst 0, 1) := by decide +kernel
theorem dX10_rule_2 : decode cX10_rule 2 = .ok (.putfield 73, 3) := by decide +kernel
theorem dX10_rule_5 : decode cX10_rule 5 = .ok (.aload_n 0, 1) := by decide +kernel
theorem dX10_rule_6 : decode cX10_rule 6 = .ok (.getfield 157, 3) := by decide +kernel
theorem dX10_rule_9 : decode cX10_rule 9 = .ok (.ifCond .eq 24, 3) := by decide +kernel
theorem dX10_rule_12 : decode cX10_rule 12 = .ok (.iload_n 1, 1) := by decide +kernel
theorem dX10_rule_13 : decode cX10_rule 13 = .ok (.i2l, 1) := by decide +kernel
theorem dX10_rule_14 : decode cX10_rule 14 = .ok (.lconst 0, 1) := by decide +kernel
theorem dX10_rule_15 : decode cX10_rule 15 = .ok (.ldc2_w 367, 3) := by decide +kernel
theorem dX10_rule_18 : decode cX10_rule 18 = .ok (.invokestatic 134, 3) := by decide +kernel
theorem dX10_rule_21 : decode cX10_rule 21 = .ok (.ifCond .eq 12, 3) := by decide +kernel
theorem dX10_rule_24 : decode cX10_rule 24 = .ok (.aload_n 0, 1) := by decide +kernel
theorem dX10_rule_25 : decode cX10_rule 25 = .ok (.getfield 17, 3) := by decide +kernel
theorem dX10_rule_28 : decode cX10_rule 28 = .ok (.iload_n 1, 1) := by decide +kernel
theorem dX10_rule_29 : decode cX10_rule 29 = .ok (.iaload, 1) := by decide +kernel
theorem dX10_rule_30 : decode cX10_rule 30 = .ok (.goto 4, 3) := by decide +kernel
theorem dX10_rule_33 : decode cX10_rule 33 = .ok (.iconst (-1), 1) := by decide +kernel
theorem dX10_rule_34 : decode cX10_rule 34 = .ok (.ireturn, 1) := by decide +kernel
theorem dX10_root_0 : decode cX10_root 0 = .ok (.aload_n 0, 1) := by decide +kernel
theorem dX10_root_1 : decode cX10_root 1 = .ok (.iconst 0, 1) := by decide +kernel
theorem dX10_root_2 : decode cX10_root 2 = .ok (.putfield 73, 3) := by decide +kernel
theorem dX10_root_5 : decode cX10_root 5 = .ok (.aload_n 0, 1) := by decide +kernel
theorem dX10_root_6 : decode cX10_root 6 = .ok (.iload_n 1, 1) := by decide +kernel
theorem dX10_root_7 : decode cX10_root 7 = .ok (.invokevirtual 277, 3) := by decide +kernel
theorem dX10_root_10 : decode cX10_root 10 = .ok (.ifCond .eq 16, 3) := by decide +kernel
theorem dX10_root_13 : decode cX10_root 13 = .ok (.aload_n 0, 1) := by decide +kernel
theorem dX10_root_14 : decode cX10_root 14 = .ok (.getfield 29, 3) := by decide +kernel
theorem dX10_root_17 : decode cX10_root 17 = .ok (.sipush 881, 3) := by decide +kernel
theorem dX10_root_20 : decode cX10_root 20 = .ok (.iload_n 1, 1) := by decide +kernel
theorem dX10_root_21 : decode cX10_root 21 = .ok (.iadd, 1) := by decide +kernel
theorem dX10_root_22 : decode cX10_root 22 = .ok (.iaload, 1) := by decide +kernel
theorem dX10_root_23 : decode cX10_root 23 = .ok (.goto 4, 3) := by decide +kernel
theorem dX10_root_26 : decode cX10_root 26 = .ok (.iconst (-1), 1) := by decide +kernel
theorem dX10_root_27 : decode cX10_root 27 = .ok (.ireturn, 1) := by decide +kernel
theorem dX10_isEnding_0 : decode cX10_isEnding 0 = .ok (.iconst 0, 1) := by decide +kernel
theorem dX10_isEnding_1 : decode cX10_isEnding 1 = .ok (.istore_n 2, 1) := by decide +kernel
theorem dX10_isEnding_2 : decode cX10_isEnding 2 = .ok (.iload_n 2, 1) := by decide +kernel
theorem dX10_isEnding_3 : decode cX10_isEnding 3 = .ok (.aload_n 0, 1) := by decide +kernel
theorem dX10_isEnding_4 : decode cX10_isEnding 4 = .ok (.getfield 29, 3) := by decide +kernel
theorem dX10_isEnding_7 : decode cX10_isEnding 7 = .ok (.sipush 1242, 3) := by decide +kernel
theorem dX10_isEnding_10 : decode cX10_isEnding 10 = .ok (.iaload, 1) := by decide +kernel
theorem dX10_isEnding_11 : decode cX10_isEnding 11 = .ok (.if_icmp .ge 25, 3) := by decide +kernel
theorem dX10_isEnding_14 : decode cX10_isEnding 14 = .ok (.aload_n 0, 1) := by decide +kernel
theorem dX10_isEnding_15 : decode cX10_isEnding 15 = .ok (.getfield 29, 3) := by decide +kernel
theorem dX10_isEnding_18 : decode cX10_isEnding 18 = .ok (.sipush 1243, 3) := by decide +kernel
theorem dX10_isEnding_21 : decode cX10_isEnding 21 = .ok (.iload_n 2, 1) := by decide +kernel
theorem dX10_isEnding_22 : decode cX10_isEnding 22 = .ok (.iadd, 1) := by decide +kernel
theorem dX10_isEnding_23 : decode cX10_isEnding 23 = .ok (.iaload, 1) := by decide +kernel
theorem dX10_isEnding_24 : decode cX10_isEnding 24 = .ok (.iload_n 1, 1) := by decide +kernel
theorem dX10_isEnding_25 : decode cX10_isEnding 25 = .ok (.if_icmp .ne 5, 3) := by decide +kernel
theorem dX10_isEnding_28 : decode cX10_isEnding 28 = .ok (.iconst 1, 1) := by decide +kernel
theorem dX10_isEnding_29 : decode cX10_isEnding 29 = .ok (.ireturn, 1) := by decide +kernel
theorem dX10_isEnding_30 : decode cX10_isEnding 30 = .ok (.iinc 2 1, 3) := by decide +kernel
theorem dX10_isEnding_33 : decode cX10_isEnding 33 = .ok (.goto (-31), 3) := by decide +kernel
theorem dX10_isEnding_36 : decode cX10_isEnding 36 = .ok (.iconst 0, 1) := by decide +kernel
theorem dX10_isEnding_37 : decode cX10_isEnding 37 = .ok (.ireturn, 1) := by decide +kernel
theorem dX10_thing_0 : decode cX10_thing 0 = .ok (.aload_n 0, 1) := by decide +kernel
theorem dX10_thing_1 : decode cX10_thing 1 = .ok (.iconst 0, 1) := by decide +kernel
theorem dX10_thing_2 : decode cX10_thing 2 = .ok (.putfield 73, 3) := by decide +kernel
theorem dX10_thing_5 : decode cX10_thing 5 = .ok (.iload_n 1, 1) := by decide +kernel
theorem dX10_thing_6 : decode cX10_thing 6 = .ok (.ifCond .le 14, 3) := by decide +kernel
theorem dX10_thing_9 : decode cX10_thing 9 = .ok (.aload_n 0, 1) := by decide +kernel
theorem dX10_thing_10 : decode cX10_thing 10 = .ok (.getfield 29, 3) := by decide +kernel
theorem dX10_thing_13 : decode cX10_thing 13 = .ok (.iload_n 1, 1) := by decide +kernel
theorem dX10_thing_14 : decode cX10_thing 14 = .ok (.invokestatic 182, 3) := by decide +kernel
theorem dX10_thing_17 : decode cX10_thing 17 = .ok (.goto 4, 3) := by decide +kernel
theorem dX10_thing_20 : decode cX10_thing 20 = .ok (.iconst (-1), 1) := by decide +kernel
theorem dX10_thing_21 : decode cX10_thing 21 = .ok (.istore_n 3, 1) := by decide +kernel
theorem dX10_thing_22 : decode cX10_thing 22 = .ok (.iload_n 3, 1) := by decide +kernel
theorem dX10_thing_23 : decode cX10_thing 23 = .ok (.iconst (-1), 1) := by decide +kernel
theorem dX10_thing_24 : decode cX10_thing 24 = .ok (.if_icmp .eq 15, 3) := by decide +kernel
theorem dX10_thing_27 : decode cX10_thing 27 = .ok (.iload_n 2, 1) := by decide +kernel
theorem dX10_thing_28 : decode cX10_thing 28 = .ok (.i2l, 1) := by decide +kernel
theorem dX10_thing_29 : decode cX10_thing 29 = .ok (.lconst 0, 1) := by decide +kernel
theorem dX10_thing_30 : decode cX10_thing 30 = .ok (.ldc2_w 370, 3) := by decide +kernel
theorem dX10_thing_33 : decode cX10_thing 33 = .ok (.invokestatic 134, 3) := by decide +kernel
theorem dX10_thing_36 : decode cX10_thing 36 = .ok (.ifCond .ne 10, 3) := by decide +kernel
theorem dX10_thing_39 : decode cX10_thing 39 = .ok (.aload_n 0, 1) := by decide +kernel
theorem dX10_thing_40 : decode cX10_thing 40 = .ok (.iconst 1, 1) := by decide +kernel
theorem dX10_thing_41 : decode cX10_thing 41 = .ok (.putfield 73, 3) := by decide +kernel
theorem dX10_thing_44 : decode cX10_thing 44 = .ok (.iconst 0, 1) := by decide +kernel
theorem dX10_thing_45 : decode cX10_thing 45 = .ok (.ireturn, 1) := by decide +kernel
theorem dX10_thing_46 : decode cX10_thing 46 = .ok (.iload_n 2, 1) := by decide +kernel
theorem dX10_thing_47 : decode cX10_thing 47 = .ok (.tableswitch 105 0 7 #[45, 55, 105, 105, 105, 105, 66, 91], 45) := by decide +kernel
theorem dX10_thing_92 : decode cX10_thing 92 = .ok (.aload_n 0, 1) := by decide +kernel
theorem dX10_thing_93 : decode cX10_thing 93 = .ok (.getfield 29, 3) := by decide +kernel
theorem dX10_thing_96 : decode cX10_thing 96 = .ok (.iload_n 3, 1) := by decide +kernel
theorem dX10_thing_97 : decode cX10_thing 97 = .ok (.iconst 5, 1) := by decide +kernel
theorem dX10_thing_98 : decode cX10_thing 98 = .ok (.invokestatic 167, 3) := by decide +kernel
theorem dX10_thing_101 : decode cX10_thing 101 = .ok (.ireturn, 1) := by decide +kernel
theorem dX10_thing_102 : decode cX10_thing 102 = .ok (.aload_n 0, 1) := by decide +kernel
theorem dX10_thing_103 : decode cX10_thing 103 = .ok (.getfield 29, 3) := by decide +kernel
theorem dX10_thing_106 : decode cX10_thing 106 = .ok (.iload_n 3, 1) := by decide +kernel
theorem dX10_thing_107 : decode cX10_thing 107 = .ok (.bipush 6, 2) := by decide +kernel
theorem dX10_thing_109 : decode cX10_thing 109 = .ok (.invokestatic 167, 3) := by decide +kernel
theorem dX10_thing_112 : decode cX10_thing 112 = .ok (.ireturn, 1) := by decide +kernel
theorem dX10_thing_113 : decode cX10_thing 113 = .ok (.aload_n 0, 1) := by decide +kernel
theorem dX10_thing_114 : decode cX10_thing 114 = .ok (.aload_n 0, 1) := by decide +kernel
theorem dX10_thing_115 : decode cX10_thing 115 = .ok (.getfield 29, 3) := by decide +kernel
theorem dX10_thing_118 : decode cX10_thing 118 = .ok (.iconst (-1), 1) := by decide +kernel
theorem dX10_thing_119 : decode cX10_thing 119 = .ok (.iconst 1, 1) := by decide +kernel
theorem dX10_thing_120 : decode cX10_thing 120 = .ok (.invokevirtual 268, 3) := by decide +kernel
theorem dX10_thing_123 : decode cX10_thing 123 = .ok (.aload_n 0, 1) := by decide +kernel
theorem dX10_thing_124 : decode cX10_thing 124 = .ok (.getfield 45, 3) := by decide +kernel
theorem dX10_thing_127 : decode cX10_thing 127 = .ok (.iload_n 3, 1) := by decide +kernel
theorem dX10_thing_128 : decode cX10_thing 128 = .ok (.baload, 1) := by decide +kernel
theorem dX10_thing_129 : decode cX10_thing 129 = .ok (.ifCond .eq 7, 3) := by decide +kernel
theorem dX10_thing_132 : decode cX10_thing 132 = .ok (.iconst 1, 1) := by decide +kernel
theorem dX10_thing_133 : decode cX10_thing 133 = .ok (.goto 4, 3) := by decide +kernel
theorem dX10_thing_136 : decode cX10_thing 136 = .ok (.iconst 0, 1) := by decide +kernel
theorem dX10_thing_137 : decode cX10_thing 137 = .ok (.ireturn, 1) := by decide +kernel
theorem dX10_thing_138 : decode cX10_thing 138 = .ok (.aload_n 0, 1) := by decide +kernel
theorem dX10_thing_139 : decode cX10_thing 139 = .ok (.iload_n 1, 1) := by decide +kernel
theorem dX10_thing_140 : decode cX10_thing 140 = .ok (.invokevirtual 372, 3) := by decide +kernel
theorem dX10_thing_143 : decode cX10_thing 143 = .ok (.ifCond .eq 7, 3) := by decide +kernel
theorem dX10_thing_146 : decode cX10_thing 146 = .ok (.iconst 1, 1) := by decide +kernel
theorem dX10_thing_147 : decode cX10_thing 147 = .ok (.goto 4, 3) := by decide +kernel
theorem dX10_thing_150 : decode cX10_thing 150 = .ok (.iconst 0, 1) := by decide +kernel
theorem dX10_thing_151 : decode cX10_thing 151 = .ok (.ireturn, 1) := by decide +kernel
theorem dX10_thing_152 : decode cX10_thing 152 = .ok (.aload_n 0, 1) := by decide +kernel
theorem dX10_thing_153 : decode cX10_thing 153 = .ok (.getfield 29, 3) := by decide +kernel
theorem dX10_thing_156 : decode cX10_thing 156 = .ok (.iload_n 3, 1) := by decide +kernel
theorem dX10_thing_157 : decode cX10_thing 157 = .ok (.iload_n 2, 1) := by decide +kernel
theorem dX10_thing_158 : decode cX10_thing 158 = .ok (.iconst 1, 1) := by decide +kernel
theorem dX10_thing_159 : decode cX10_thing 159 = .ok (.isub, 1) := by decide +kernel
theorem dX10_thing_160 : decode cX10_thing 160 = .ok (.invokestatic 167, 3) := by decide +kernel
theorem dX10_thing_163 : decode cX10_thing 163 = .ok (.ireturn, 1) := by decide +kernel
theorem dX10_field_0 : decode cX10_field 0 = .ok (.aload_n 0, 1) := by decide +kernel
theorem dX10_field_1 : decode cX10_field 1 = .ok (.iconst 0, 1) := by decide +kernel
theorem dX10_field_2 : decode cX10_field 2 = .ok (.putfield 73, 3) := by decide +kernel
theorem dX10_field_5 : decode cX10_field 5 = .ok (.iload_n 1, 1) := by decide +kernel
theorem dX10_field_6 : decode cX10_field 6 = .ok (.ifCond .le 14, 3) := by decide +kernel
theorem dX10_field_9 : decode cX10_field 9 = .ok (.aload_n 0, 1) := by decide +kernel
theorem dX10_field_10 : decode cX10_field 10 = .ok (.getfield 29, 3) := by decide +kernel
theorem dX10_field_13 : decode cX10_field 13 = .ok (.iload_n 1, 1) := by decide +kernel
theorem dX10_field_14 : decode cX10_field 14 = .ok (.invokestatic 182, 3) := by decide +kernel
theorem dX10_field_17 : decode cX10_field 17 = .ok (.goto 4, 3) := by decide +kernel
theorem dX10_field_20 : decode cX10_field 20 = .ok (.iconst (-1), 1) := by decide +kernel
theorem dX10_field_21 : decode cX10_field 21 = .ok (.istore_n 3, 1) := by decide +kernel
theorem dX10_field_22 : decode cX10_field 22 = .ok (.iload_n 3, 1) := by decide +kernel
theorem dX10_field_23 : decode cX10_field 23 = .ok (.iconst (-1), 1) := by decide +kernel
theorem dX10_field_24 : decode cX10_field 24 = .ok (.if_icmp .eq 24, 3) := by decide +kernel
theorem dX10_field_27 : decode cX10_field 27 = .ok (.iload_n 2, 1) := by decide +kernel
theorem dX10_field_28 : decode cX10_field 28 = .ok (.i2l, 1) := by decide +kernel
theorem dX10_field_29 : decode cX10_field 29 = .ok (.lconst 0, 1) := by decide +kernel
theorem dX10_field_30 : decode cX10_field 30 = .ok (.aload_n 0, 1) := by decide +kernel
theorem dX10_field_31 : decode cX10_field 31 = .ok (.getfield 29, 3) := by decide +kernel
theorem dX10_field_34 : decode cX10_field 34 = .ok (.iload_n 3, 1) := by decide +kernel
theorem dX10_field_35 : decode cX10_field 35 = .ok (.iconst 2, 1) := by decide +kernel
theorem dX10_field_36 : decode cX10_field 36 = .ok (.invokestatic 167, 3) := by decide +kernel
theorem dX10_field_39 : decode cX10_field 39 = .ok (.iconst 1, 1) := by decide +kernel
theorem dX10_field_40 : decode cX10_field 40 = .ok (.isub, 1) := by decide +kernel
theorem dX10_field_41 : decode cX10_field 41 = .ok (.i2l, 1) := by decide +kernel
theorem dX10_field_42 : decode cX10_field 42 = .ok (.invokestatic 134, 3) := by decide +kernel
theorem dX10_field_45 : decode cX10_field 45 = .ok (.ifCond .ne 7, 3) := by decide +kernel
theorem dX10_field_48 : decode cX10_field 48 = .ok (.iconst (-1), 1) := by decide +kernel
theorem dX10_field_49 : decode cX10_field 49 = .ok (.goto 15, 3) := by decide +kernel
theorem dX10_field_52 : decode cX10_field 52 = .ok (.aload_n 0, 1) := by decide +kernel
theorem dX10_field_53 : decode cX10_field 53 = .ok (.getfield 29, 3) := by decide +kernel
theorem dX10_field_56 : decode cX10_field 56 = .ok (.iload_n 3, 1) := by decide +kernel
theorem dX10_field_57 : decode cX10_field 57 = .ok (.bipush 7, 2) := by decide +kernel
theorem dX10_field_59 : decode cX10_field 59 = .ok (.iload_n 2, 1) := by decide +kernel
theorem dX10_field_60 : decode cX10_field 60 = .ok (.iadd, 1) := by decide +kernel
theorem dX10_field_61 : decode cX10_field 61 = .ok (.invokestatic 167, 3) := by decide +kernel
theorem dX10_field_64 : decode cX10_field 64 = .ok (.ireturn, 1) := by decide +kernel
theorem dX10_at_0 : decode cX10_at 0 = .ok (.aload_n 0, 1) := by decide +kernel
theorem dX10_at_1 : decode cX10_at 1 = .ok (.iconst 0, 1) := by decide +kernel
theorem dX10_at_2 : decode cX10_at 2 = .ok (.putfield 73, 3) := by decide +kernel
theorem dX10_at_5 : decode cX10_at 5 = .ok (.iconst 0, 1) := by decide +kernel
theorem dX10_at_6 : decode cX10_at 6 = .ok (.istore_n 3, 1) := by decide +kernel
theorem dX10_at_7 : decode cX10_at 7 = .ok (.iload_n 3, 1) := by decide +kernel
theorem dX10_at_8 : decode cX10_at 8 = .ok (.aload_n 0, 1) := by decide +kernel
theorem dX10_at_9 : decode cX10_at 9 = .ok (.getfield 29, 3) := by decide +kernel
theorem dX10_at_12 : decode cX10_at 12 = .ok (.iconst 0, 1) := by decide +kernel
theorem dX10_at_13 : decode cX10_at 13 = .ok (.iaload, 1) := by decide +kernel
theorem dX10_at_14 : decode cX10_at 14 = .ok (.if_icmp .ge 73, 3) := by decide +kernel
theorem dX10_at_17 : decode cX10_at 17 = .ok (.aload_n 0, 1) := by decide +kernel
theorem dX10_at_18 : decode cX10_at 18 = .ok (.getfield 29, 3) := by decide +kernel
theorem dX10_at_21 : decode cX10_at 21 = .ok (.iload_n 3, 1) := by decide +kernel
theorem dX10_at_22 : decode cX10_at 22 = .ok (.iconst 5, 1) := by decide +kernel
theorem dX10_at_23 : decode cX10_at 23 = .ok (.invokestatic 167, 3) := by decide +kernel
theorem dX10_at_26 : decode cX10_at 26 = .ok (.iload_n 1, 1) := by decide +kernel
theorem dX10_at_27 : decode cX10_at 27 = .ok (.if_icmp .ne 54, 3) := by decide +kernel
theorem dX10_at_30 : decode cX10_at 30 = .ok (.iload_n 2, 1) := by decide +kernel
theorem dX10_at_31 : decode cX10_at 31 = .ok (.i2l, 1) := by decide +kernel
theorem dX10_at_32 : decode cX10_at 32 = .ok (.aload_n 0, 1) := by decide +kernel
theorem dX10_at_33 : decode cX10_at 33 = .ok (.getfield 29, 3) := by decide +kernel
theorem dX10_at_36 : decode cX10_at 36 = .ok (.iload_n 3, 1) := by decide +kernel
theorem dX10_at_37 : decode cX10_at 37 = .ok (.bipush 6, 2) := by decide +kernel
theorem dX10_at_39 : decode cX10_at 39 = .ok (.invokestatic 167, 3) := by decide +kernel
theorem dX10_at_42 : decode cX10_at 42 = .ok (.i2l, 1) := by decide +kernel
theorem dX10_at_43 : decode cX10_at 43 = .ok (.aload_n 0, 1) := by decide +kernel
theorem dX10_at_44 : decode cX10_at 44 = .ok (.getfield 29, 3) := by decide +kernel
theorem dX10_at_47 : decode cX10_at 47 = .ok (.iload_n 3, 1) := by decide +kernel
theorem dX10_at_48 : decode cX10_at 48 = .ok (.bipush 6, 2) := by decide +kernel
theorem dX10_at_50 : decode cX10_at 50 = .ok (.invokestatic 167, 3) := by decide +kernel
theorem dX10_at_53 : decode cX10_at 53 = .ok (.aload_n 0, 1) := by decide +kernel
theorem dX10_at_54 : decode cX10_at 54 = .ok (.getfield 29, 3) := by decide +kernel
theorem dX10_at_57 : decode cX10_at 57 = .ok (.iload_n 3, 1) := by decide +kernel
theorem dX10_at_58 : decode cX10_at 58 = .ok (.invokestatic 171, 3) := by decide +kernel
theorem dX10_at_61 : decode cX10_at 61 = .ok (.iadd, 1) := by decide +kernel
theorem dX10_at_62 : decode cX10_at 62 = .ok (.iconst 1, 1) := by decide +kernel
theorem dX10_at_63 : decode cX10_at 63 = .ok (.isub, 1) := by decide +kernel
theorem dX10_at_64 : decode cX10_at 64 = .ok (.i2l, 1) := by decide +kernel
theorem dX10_at_65 : decode cX10_at 65 = .ok (.invokestatic 134, 3) := by decide +kernel
theorem dX10_at_68 : decode cX10_at 68 = .ok (.ifCond .eq 13, 3) := by decide +kernel
theorem dX10_at_71 : decode cX10_at 71 = .ok (.aload_n 0, 1) := by decide +kernel
theorem dX10_at_72 : decode cX10_at 72 = .ok (.getfield 29, 3) := by decide +kernel
theorem dX10_at_75 : decode cX10_at 75 = .ok (.iload_n 3, 1) := by decide +kernel
theorem dX10_at_76 : decode cX10_at 76 = .ok (.iconst 0, 1) := by decide +kernel
theorem dX10_at_77 : decode cX10_at 77 = .ok (.invokestatic 167, 3) := by decide +kernel
theorem dX10_at_80 : decode cX10_at 80 = .ok (.ireturn, 1) := by decide +kernel
theorem dX10_at_81 : decode cX10_at 81 = .ok (.iinc 3 1, 3) := by decide +kernel
theorem dX10_at_84 : decode cX10_at 84 = .ok (.goto (-77), 3) := by decide +kernel
theorem dX10_at_87 : decode cX10_at 87 = .ok (.iconst (-1), 1) := by decide +kernel
theorem dX10_at_88 : decode cX10_at 88 = .ok (.ireturn, 1) := by decide +kernel
theorem dX10_remembered_0 : decode cX10_remembered 0 = .ok (.aload_n 0, 1) := by decide +kernel
theorem dX10_remembered_1 : decode cX10_remembered 1 = .ok (.iconst 0, 1) := by decide +kernel
theorem dX10_remembered_2 : decode cX10_remembered 2 = .ok (.putfield 73, 3) := by decide +kernel
theorem dX10_remembered_5 : decode cX10_remembered 5 = .ok (.aload_n 0, 1) := by decide +kernel
theorem dX10_remembered_6 : decode cX10_remembered 6 = .ok (.getfield 157, 3) := by decide +kernel
theorem dX10_remembered_9 : decode cX10_remembered 9 = .ok (.ifCond .eq 34, 3) := by decide +kernel
theorem dX10_remembered_12 : decode cX10_remembered 12 = .ok (.iload_n 1, 1) := by decide +kernel
theorem dX10_remembered_13 : decode cX10_remembered 13 = .ok (.iconst (-1), 1) := by decide +kernel
theorem dX10_remembered_14 : decode cX10_remembered 14 = .ok (.if_icmp .lt 29, 3) := by decide +kernel
theorem dX10_remembered_17 : decode cX10_remembered 17 = .ok (.iload_n 1, 1) := by decide +kernel
theorem dX10_remembered_18 : decode cX10_remembered 18 = .ok (.aload_n 0, 1) := by decide +kernel
theorem dX10_remembered_19 : decode cX10_remembered 19 = .ok (.getfield 29, 3) := by decide +kernel
theorem dX10_remembered_22 : decode cX10_remembered 22 = .ok (.sipush 889, 3) := by decide +kernel
theorem dX10_remembered_25 : decode cX10_remembered 25 = .ok (.iaload, 1) := by decide +kernel
theorem dX10_remembered_26 : decode cX10_remembered 26 = .ok (.if_icmp .ge 17, 3) := by decide +kernel
theorem dX10_remembered_29 : decode cX10_remembered 29 = .ok (.iload_n 1, 1) := by decide +kernel
theorem dX10_remembered_30 : decode cX10_remembered 30 = .ok (.ifCond .lt 15, 3) := by decide +kernel
theorem dX10_remembered_33 : decode cX10_remembered 33 = .ok (.iload_n 2, 1) := by decide +kernel
theorem dX10_remembered_34 : decode cX10_remembered 34 = .ok (.i2l, 1) := by decide +kernel
theorem dX10_remembered_35 : decode cX10_remembered 35 = .ok (.lconst 0, 1) := by decide +kernel
theorem dX10_remembered_36 : decode cX10_remembered 36 = .ok (.lconst 1, 1) := by decide +kernel
theorem dX10_remembered_37 : decode cX10_remembered 37 = .ok (.invokestatic 134, 3) := by decide +kernel
theorem dX10_remembered_40 : decode cX10_remembered 40 = .ok (.ifCond .ne 5, 3) := by decide +kernel
theorem dX10_remembered_43 : decode cX10_remembered 43 = .ok (.iconst (-1), 1) := by decide +kernel
theorem dX10_remembered_44 : decode cX10_remembered 44 = .ok (.ireturn, 1) := by decide +kernel
theorem dX10_remembered_45 : decode cX10_remembered 45 = .ok (.iload_n 1, 1) := by decide +kernel
theorem dX10_remembered_46 : decode cX10_remembered 46 = .ok (.iconst (-1), 1) := by decide +kernel
theorem dX10_remembered_47 : decode cX10_remembered 47 = .ok (.if_icmp .ne 14, 3) := by decide +kernel
theorem dX10_remembered_50 : decode cX10_remembered 50 = .ok (.aload_n 0, 1) := by decide +kernel
theorem dX10_remembered_51 : decode cX10_remembered 51 = .ok (.getfield 29, 3) := by decide +kernel
theorem dX10_remembered_54 : decode cX10_remembered 54 = .ok (.sipush 889, 3) := by decide +kernel
theorem dX10_remembered_57 : decode cX10_remembered 57 = .ok (.iaload, 1) := by decide +kernel
theorem dX10_remembered_58 : decode cX10_remembered 58 = .ok (.goto 17, 3) := by decide +kernel
theorem dX10_remembered_61 : decode cX10_remembered 61 = .ok (.aload_n 0, 1) := by decide +kernel
theorem dX10_remembered_62 : decode cX10_remembered 62 = .ok (.getfield 29, 3) := by decide +kernel
theorem dX10_remembered_65 : decode cX10_remembered 65 = .ok (.sipush 890, 3) := by decide +kernel
theorem dX10_remembered_68 : decode cX10_remembered 68 = .ok (.iconst 2, 1) := by decide +kernel
theorem dX10_remembered_69 : decode cX10_remembered 69 = .ok (.iload_n 1, 1) := by decide +kernel
theorem dX10_remembered_70 : decode cX10_remembered 70 = .ok (.imul, 1) := by decide +kernel
theorem dX10_remembered_71 : decode cX10_remembered 71 = .ok (.iadd, 1) := by decide +kernel
theorem dX10_remembered_72 : decode cX10_remembered 72 = .ok (.iload_n 2, 1) := by decide +kernel
theorem dX10_remembered_73 : decode cX10_remembered 73 = .ok (.iadd, 1) := by decide +kernel
theorem dX10_remembered_74 : decode cX10_remembered 74 = .ok (.iaload, 1) := by decide +kernel
theorem dX10_remembered_75 : decode cX10_remembered 75 = .ok (.ireturn, 1) := by decide +kernel
theorem dX10_line_0 : decode cX10_line 0 = .ok (.aload_n 0, 1) := by decide +kernel
theorem dX10_line_1 : decode cX10_line 1 = .ok (.iconst 0, 1) := by decide +kernel
theorem dX10_line_2 : decode cX10_line 2 = .ok (.putfield 73, 3) := by decide +kernel
theorem dX10_line_5 : decode cX10_line 5 = .ok (.aload_n 0, 1) := by decide +kernel
theorem dX10_line_6 : decode cX10_line 6 = .ok (.getfield 157, 3) := by decide +kernel
theorem dX10_line_9 : decode cX10_line 9 = .ok (.ifCond .eq 13, 3) := by decide +kernel
theorem dX10_line_12 : decode cX10_line 12 = .ok (.iload_n 1, 1) := by decide +kernel
theorem dX10_line_13 : decode cX10_line 13 = .ok (.i2l, 1) := by decide +kernel
theorem dX10_line_14 : decode cX10_line 14 = .ok (.lconst 0, 1) := by decide +kernel
theorem dX10_line_15 : decode cX10_line 15 = .ok (.lconst 1, 1) := by decide +kernel
theorem dX10_line_16 : decode cX10_line 16 = .ok (.invokestatic 134, 3) := by decide +kernel
theorem dX10_line_19 : decode cX10_line 19 = .ok (.ifCond .ne 5, 3) := by decide +kernel
theorem dX10_line_22 : decode cX10_line 22 = .ok (.iconst (-1), 1) := by decide +kernel
theorem dX10_line_23 : decode cX10_line 23 = .ok (.ireturn, 1) := by decide +kernel
theorem dX10_line_24 : decode cX10_line 24 = .ok (.iload_n 1, 1) := by decide +kernel
theorem dX10_line_25 : decode cX10_line 25 = .ok (.ifCond .ne 9, 3) := by decide +kernel
theorem dX10_line_28 : decode cX10_line 28 = .ok (.sipush 1242, 3) := by decide +kernel
theorem dX10_line_31 : decode cX10_line 31 = .ok (.goto 6, 3) := by decide +kernel
theorem dX10_line_34 : decode cX10_line 34 = .ok (.sipush 1323, 3) := by decide +kernel
theorem dX10_line_37 : decode cX10_line 37 = .ok (.istore_n 3, 1) := by decide +kernel
theorem dX10_line_38 : decode cX10_line 38 = .ok (.iload_n 2, 1) := by decide +kernel
theorem dX10_line_39 : decode cX10_line 39 = .ok (.iconst (-1), 1) := by decide +kernel
theorem dX10_line_40 : decode cX10_line 40 = .ok (.if_icmp .ne 12, 3) := by decide +kernel
theorem dX10_line_43 : decode cX10_line 43 = .ok (.aload_n 0, 1) := by decide +kernel
theorem dX10_line_44 : decode cX10_line 44 = .ok (.getfield 29, 3) := by decide +kernel
theorem dX10_line_47 : decode cX10_line 47 = .ok (.iload_n 3, 1) := by decide +kernel
theorem dX10_line_48 : decode cX10_line 48 = .ok (.iaload, 1) := by decide +kernel
theorem dX10_line_49 : decode cX10_line 49 = .ok (.goto 35, 3) := by decide +kernel
theorem dX10_line_52 : decode cX10_line 52 = .ok (.iload_n 2, 1) := by decide +kernel
theorem dX10_line_53 : decode cX10_line 53 = .ok (.i2l, 1) := by decide +kernel
theorem dX10_line_54 : decode cX10_line 54 = .ok (.lconst 0, 1) := by decide +kernel
theorem dX10_line_55 : decode cX10_line 55 = .ok (.aload_n 0, 1) := by decide +kernel
theorem dX10_line_56 : decode cX10_line 56 = .ok (.getfield 29, 3) := by decide +kernel
theorem dX10_line_59 : decode cX10_line 59 = .ok (.iload_n 3, 1) := by decide +kernel
theorem dX10_line_60 : decode cX10_line 60 = .ok (.iaload, 1) := by decide +kernel
theorem dX10_line_61 : decode cX10_line 61 = .ok (.iconst 1, 1) := by decide +kernel
theorem dX10_line_62 : decode cX10_line 62 = .ok (.isub, 1) := by decide +kernel
theorem dX10_line_63 : decode cX10_line 63 = .ok (.i2l, 1) := by decide +kernel
theorem dX10_line_64 : decode cX10_line 64 = .ok (.invokestatic 134, 3) := by decide +kernel
theorem dX10_line_67 : decode cX10_line 67 = .ok (.ifCond .eq 16, 3) := by decide +kernel
theorem dX10_line_70 : decode cX10_line 70 = .ok (.aload_n 0, 1) := by decide +kernel
theorem dX10_line_71 : decode cX10_line 71 = .ok (.getfield 29, 3) := by decide +kernel
theorem dX10_line_74 : decode cX10_line 74 = .ok (.iload_n 3, 1) := by decide +kernel
theorem dX10_line_75 : decode cX10_line 75 = .ok (.iconst 1, 1) := by decide +kernel
theorem dX10_line_76 : decode cX10_line 76 = .ok (.iadd, 1) := by decide +kernel
theorem dX10_line_77 : decode cX10_line 77 = .ok (.iload_n 2, 1) := by decide +kernel
theorem dX10_line_78 : decode cX10_line 78 = .ok (.iadd, 1) := by decide +kernel
theorem dX10_line_79 : decode cX10_line 79 = .ok (.iaload, 1) := by decide +kernel
theorem dX10_line_80 : decode cX10_line 80 = .ok (.goto 4, 3) := by decide +kernel
theorem dX10_line_83 : decode cX10_line 83 = .ok (.iconst (-1), 1) := by decide +kernel
theorem dX10_line_84 : decode cX10_line 84 = .ok (.ireturn, 1) := by decide +kernel
theorem dX10_would_0 : decode cX10_would 0 = .ok (.aload_n 0, 1) := by decide +kernel
theorem dX10_would_1 : decode cX10_would 1 = .ok (.iconst 0, 1) := by decide +kernel
theorem dX10_would_2 : decode cX10_would 2 = .ok (.putfield 73, 3) := by decide +kernel
theorem dX10_would_5 : decode cX10_would 5 = .ok (.aload_n 0, 1) := by decide +kernel
theorem dX10_would_6 : decode cX10_would 6 = .ok (.getfield 157, 3) := by decide +kernel
theorem dX10_would_9 : decode cX10_would 9 = .ok (.ifCond .eq 15, 3) := by decide +kernel
theorem dX10_would_12 : decode cX10_would 12 = .ok (.iload_n 2, 1) := by decide +kernel
theorem dX10_would_13 : decode cX10_would 13 = .ok (.i2l, 1) := by decide +kernel
theorem dX10_would_14 : decode cX10_would 14 = .ok (.lconst 0, 1) := by decide +kernel
theorem dX10_would_15 : decode cX10_would 15 = .ok (.ldc2_w 283, 3) := by decide +kernel
theorem dX10_would_18 : decode cX10_would 18 = .ok (.invokestatic 134, 3) := by decide +kernel
theorem dX10_would_21 : decode cX10_would 21 = .ok (.ifCond .ne 5, 3) := by decide +kernel
theorem dX10_would_24 : decode cX10_would 24 = .ok (.iconst (-1), 1) := by decide +kernel
theorem dX10_would_25 : decode cX10_would 25 = .ok (.ireturn, 1) := by decide +kernel
theorem dX10_would_26 : decode cX10_would 26 = .ok (.aload_n 0, 1) := by decide +kernel
theorem dX10_would_27 : decode cX10_would 27 = .ok (.getfield 29, 3) := by decide +kernel
theorem dX10_would_30 : decode cX10_would 30 = .ok (.iconst 0, 1) := by decide +kernel
theorem dX10_would_31 : decode cX10_would 31 = .ok (.aload_n 0, 1) := by decide +kernel
theorem dX10_would_32 : decode cX10_would 32 = .ok (.getfield 32, 3) := by decide +kernel
theorem dX10_would_35 : decode cX10_would 35 = .ok (.iconst 0, 1) := by decide +kernel
theorem dX10_would_36 : decode cX10_would 36 = .ok (.invokestatic 232, 3) := by decide +kernel
theorem dX10_would_39 : decode cX10_would 39 = .ok (.iload_n 1, 1) := by decide +kernel
theorem dX10_would_40 : decode cX10_would 40 = .ok (.ifCond .eq 14, 3) := by decide +kernel
theorem dX10_would_43 : decode cX10_would 43 = .ok (.aload_n 0, 1) := by decide +kernel
theorem dX10_would_44 : decode cX10_would 44 = .ok (.aload_n 0, 1) := by decide +kernel
theorem dX10_would_45 : decode cX10_would 45 = .ok (.getfield 32, 3) := by decide +kernel
theorem dX10_would_48 : decode cX10_would 48 = .ok (.invokevirtual 315, 3) := by decide +kernel
theorem dX10_would_51 : decode cX10_would 51 = .ok (.goto 16, 3) := by decide +kernel
theorem dX10_would_54 : decode cX10_would 54 = .ok (.aload_n 0, 1) := by decide +kernel
theorem dX10_would_55 : decode cX10_would 55 = .ok (.aload_n 0, 1) := by decide +kernel
theorem dX10_would_56 : decode cX10_would 56 = .ok (.getfield 32, 3) := by decide +kernel
theorem dX10_would_59 : decode cX10_would 59 = .ok (.invokevirtual 311, 3) := by decide +kernel
theorem dX10_would_62 : decode cX10_would 62 = .ok (.ifCond .ne 5, 3) := by decide +kernel
theorem dX10_would_65 : decode cX10_would 65 = .ok (.iconst (-1), 1) := by decide +kernel
theorem dX10_would_66 : decode cX10_would 66 = .ok (.ireturn, 1) := by decide +kernel
theorem dX10_would_67 : decode cX10_would 67 = .ok (.iload_n 2, 1) := by decide +kernel
theorem dX10_would_68 : decode cX10_would 68 = .ok (.tableswitch 102 0 3 #[32, 61, 79, 84], 32) := by decide +kernel
theorem dX10_would_100 : decode cX10_would 100 = .ok (.iload_n 1, 1) := by decide +kernel
theorem dX10_would_101 : decode cX10_would 101 = .ok (.ifCond .eq 10, 3) := by decide +kernel
theorem dX10_would_104 : decode cX10_would 104 = .ok (.aload_n 0, 1) := by decide +kernel
theorem dX10_would_105 : decode cX10_would 105 = .ok (.getfield 274, 3) := by decide +kernel
theorem dX10_would_108 : decode cX10_would 108 = .ok (.goto 20, 3) := by decide +kernel
theorem dX10_would_111 : decode cX10_would 111 = .ok (.aload_n 0, 1) := by decide +kernel
theorem dX10_would_112 : decode cX10_would 112 = .ok (.getfield 32, 3) := by decide +kernel
theorem dX10_would_115 : decode cX10_would 115 = .ok (.sipush 1367, 3) := by decide +kernel
theorem dX10_would_118 : decode cX10_would 118 = .ok (.iaload, 1) := by decide +kernel
theorem dX10_would_119 : decode cX10_would 119 = .ok (.aload_n 0, 1) := by decide +kernel
theorem dX10_would_120 : decode cX10_would 120 = .ok (.getfield 29, 3) := by decide +kernel
theorem dX10_would_123 : decode cX10_would 123 = .ok (.sipush 1367, 3) := by decide +kernel
theorem dX10_would_126 : decode cX10_would 126 = .ok (.iaload, 1) := by decide +kernel
theorem dX10_would_127 : decode cX10_would 127 = .ok (.isub, 1) := by decide +kernel
theorem dX10_would_128 : decode cX10_would 128 = .ok (.ireturn, 1) := by decide +kernel
theorem dX10_would_129 : decode cX10_would 129 = .ok (.aload_n 0, 1) := by decide +kernel
theorem dX10_would_130 : decode cX10_would 130 = .ok (.getfield 32, 3) := by decide +kernel
theorem dX10_would_133 : decode cX10_would 133 = .ok (.sipush 1368, 3) := by decide +kernel
theorem dX10_would_136 : decode cX10_would 136 = .ok (.iaload, 1) := by decide +kernel
theorem dX10_would_137 : decode cX10_would 137 = .ok (.aload_n 0, 1) := by decide +kernel
theorem dX10_would_138 : decode cX10_would 138 = .ok (.getfield 29, 3) := by decide +kernel
theorem dX10_would_141 : decode cX10_would 141 = .ok (.sipush 1368, 3) := by decide +kernel
theorem dX10_would_144 : decode cX10_would 144 = .ok (.iaload, 1) := by decide +kernel
theorem dX10_would_145 : decode cX10_would 145 = .ok (.isub, 1) := by decide +kernel
theorem dX10_would_146 : decode cX10_would 146 = .ok (.ireturn, 1) := by decide +kernel
theorem dX10_would_147 : decode cX10_would 147 = .ok (.aload_n 0, 1) := by decide +kernel
theorem dX10_would_148 : decode cX10_would 148 = .ok (.getfield 250, 3) := by decide +kernel
theorem dX10_would_151 : decode cX10_would 151 = .ok (.ireturn, 1) := by decide +kernel
theorem dX10_would_152 : decode cX10_would 152 = .ok (.aload_n 0, 1) := by decide +kernel
theorem dX10_would_153 : decode cX10_would 153 = .ok (.getfield 32, 3) := by decide +kernel
theorem dX10_would_156 : decode cX10_would 156 = .ok (.sipush 1370, 3) := by decide +kernel
theorem dX10_would_159 : decode cX10_would 159 = .ok (.iaload, 1) := by decide +kernel
theorem dX10_would_160 : decode cX10_would 160 = .ok (.aload_n 0, 1) := by decide +kernel
theorem dX10_would_161 : decode cX10_would 161 = .ok (.getfield 29, 3) := by decide +kernel
theorem dX10_would_164 : decode cX10_would 164 = .ok (.sipush 1370, 3) := by decide +kernel
theorem dX10_would_167 : decode cX10_would 167 = .ok (.iaload, 1) := by decide +kernel
theorem dX10_would_168 : decode cX10_would 168 = .ok (.isub, 1) := by decide +kernel
theorem dX10_would_169 : decode cX10_would 169 = .ok (.ireturn, 1) := by decide +kernel
theorem dX10_would_170 : decode cX10_would 170 = .ok (.aload_n 0, 1) := by decide +kernel
theorem dX10_would_171 : decode cX10_would 171 = .ok (.getfield 32, 3) := by decide +kernel
theorem dX10_would_174 : decode cX10_would 174 = .ok (.sipush 1371, 3) := by decide +kernel
theorem dX10_would_177 : decode cX10_would 177 = .ok (.iaload, 1) := by decide +kernel
theorem dX10_would_178 : decode cX10_would 178 = .ok (.aload_n 0, 1) := by decide +kernel
theorem dX10_would_179 : decode cX10_would 179 = .ok (.getfield 29, 3) := by decide +kernel
theorem dX10_would_182 : decode cX10_would 182 = .ok (.sipush 1371, 3) := by decide +kernel
theorem dX10_would_185 : decode cX10_would 185 = .ok (.iaload, 1) := by decide +kernel
theorem dX10_would_186 : decode cX10_would 186 = .ok (.isub, 1) := by decide +kernel
theorem dX10_would_187 : decode cX10_would 187 = .ok (.ireturn, 1) := by decide +kernel
theorem dX10_walks_0 : decode cX10_walks 0 = .ok (.aload_n 0, 1) := by decide +kernel
theorem dX10_walks_1 : decode cX10_walks 1 = .ok (.invokevirtual 207, 3) := by decide +kernel
theorem dX10_walks_4 : decode cX10_walks 4 = .ok (.iconst 0, 1) := by decide +kernel
theorem dX10_walks_5 : decode cX10_walks 5 = .ok (.istore_n 1, 1) := by decide +kernel
theorem dX10_walks_6 : decode cX10_walks 6 = .ok (.iload_n 1, 1) := by decide +kernel
theorem dX10_walks_7 : decode cX10_walks 7 = .ok (.bipush 8, 2) := by decide +kernel
theorem dX10_walks_9 : decode cX10_walks 9 = .ok (.if_icmp .ge 61, 3) := by decide +kernel
theorem dX10_walks_12 : decode cX10_walks 12 = .ok (.aload_n 0, 1) := by decide +kernel
theorem dX10_walks_13 : decode cX10_walks 13 = .ok (.getfield 29, 3) := by decide +kernel
theorem dX10_walks_16 : decode cX10_walks 16 = .ok (.iload_n 1, 1) := by decide +kernel
theorem dX10_walks_17 : decode cX10_walks 17 = .ok (.invokestatic 291, 3) := by decide +kernel
theorem dX10_walks_20 : decode cX10_walks 20 = .ok (.istore_n 2, 1) := by decide +kernel
theorem dX10_walks_21 : decode cX10_walks 21 = .ok (.iload_n 2, 1) := by decide +kernel
theorem dX10_walks_22 : decode cX10_walks 22 = .ok (.iconst (-1), 1) := by decide +kernel
theorem dX10_walks_23 : decode cX10_walks 23 = .ok (.if_icmp .eq 41, 3) := by decide +kernel
theorem dX10_walks_26 : decode cX10_walks 26 = .ok (.aload_n 0, 1) := by decide +kernel
theorem dX10_walks_27 : decode cX10_walks 27 = .ok (.getfield 45, 3) := by decide +kernel
theorem dX10_walks_30 : decode cX10_walks 30 = .ok (.iload_n 2, 1) := by decide +kernel
theorem dX10_walks_31 : decode cX10_walks 31 = .ok (.baload, 1) := by decide +kernel
theorem dX10_walks_32 : decode cX10_walks 32 = .ok (.ifCond .eq 6, 3) := by decide +kernel
theorem dX10_walks_35 : decode cX10_walks 35 = .ok (.goto 29, 3) := by decide +kernel
theorem dX10_walks_38 : decode cX10_walks 38 = .ok (.aload_n 0, 1) := by decide +kernel
theorem dX10_walks_39 : decode cX10_walks 39 = .ok (.getfield 58, 3) := by decide +kernel
theorem dX10_walks_42 : decode cX10_walks 42 = .ok (.iload_n 2, 1) := by decide +kernel
theorem dX10_walks_43 : decode cX10_walks 43 = .ok (.iconst (-1), 1) := by decide +kernel
theorem dX10_walks_44 : decode cX10_walks 44 = .ok (.iastore, 1) := by decide +kernel
theorem dX10_walks_45 : decode cX10_walks 45 = .ok (.aload_n 0, 1) := by decide +kernel
theorem dX10_walks_46 : decode cX10_walks 46 = .ok (.getfield 61, 3) := by decide +kernel
theorem dX10_walks_49 : decode cX10_walks 49 = .ok (.iload_n 2, 1) := by decide +kernel
theorem dX10_walks_50 : decode cX10_walks 50 = .ok (.iload_n 1, 1) := by decide +kernel
theorem dX10_walks_51 : decode cX10_walks 51 = .ok (.iastore, 1) := by decide +kernel
theorem dX10_walks_52 : decode cX10_walks 52 = .ok (.aload_n 0, 1) := by decide +kernel
theorem dX10_walks_53 : decode cX10_walks 53 = .ok (.getfield 64, 3) := by decide +kernel
theorem dX10_walks_56 : decode cX10_walks 56 = .ok (.iload_n 2, 1) := by decide +kernel
theorem dX10_walks_57 : decode cX10_walks 57 = .ok (.iconst 0, 1) := by decide +kernel
theorem dX10_walks_58 : decode cX10_walks 58 = .ok (.iastore, 1) := by decide +kernel
theorem dX10_walks_59 : decode cX10_walks 59 = .ok (.aload_n 0, 1) := by decide +kernel
theorem dX10_walks_60 : decode cX10_walks 60 = .ok (.iload_n 2, 1) := by decide +kernel
theorem dX10_walks_61 : decode cX10_walks 61 = .ok (.invokevirtual 204, 3) := by decide +kernel
theorem dX10_walks_64 : decode cX10_walks 64 = .ok (.iinc 1 1, 3) := by decide +kernel
theorem dX10_walks_67 : decode cX10_walks 67 = .ok (.goto (-61), 3) := by decide +kernel
theorem dX10_walks_70 : decode cX10_walks 70 = .ok (.aload_n 0, 1) := by decide +kernel
theorem dX10_walks_71 : decode cX10_walks 71 = .ok (.invokevirtual 375, 3) := by decide +kernel
theorem dX10_walks_74 : decode cX10_walks 74 = .ok (.return_, 1) := by decide +kernel
theorem dX10_walksOn_0 : decode cX10_walksOn 0 = .ok (.iconst 0, 1) := by decide +kernel
theorem dX10_walksOn_1 : decode cX10_walksOn 1 = .ok (.istore_n 1, 1) := by decide +kernel
theorem dX10_walksOn_2 : decode cX10_walksOn 2 = .ok (.iload_n 1, 1) := by decide +kernel
theorem dX10_walksOn_3 : decode cX10_walksOn 3 = .ok (.aload_n 0, 1) := by decide +kernel
theorem dX10_walksOn_4 : decode cX10_walksOn 4 = .ok (.getfield 195, 3) := by decide +kernel
theorem dX10_walksOn_7 : decode cX10_walksOn 7 = .ok (.if_icmp .ge 130, 3) := by decide +kernel
theorem dX10_walksOn_10 : decode cX10_walksOn 10 = .ok (.aload_n 0, 1) := by decide +kernel
theorem dX10_walksOn_11 : decode cX10_walksOn 11 = .ok (.getfield 49, 3) := by decide +kernel
theorem dX10_walksOn_14 : decode cX10_walksOn 14 = .ok (.iload_n 1, 1) := by decide +kernel
theorem dX10_walksOn_15 : decode cX10_walksOn 15 = .ok (.iaload, 1) := by decide +kernel
theorem dX10_walksOn_16 : decode cX10_walksOn 16 = .ok (.istore_n 2, 1) := by decide +kernel
theorem dX10_walksOn_17 : decode cX10_walksOn 17 = .ok (.iconst 0, 1) := by decide +kernel
theorem dX10_walksOn_18 : decode cX10_walksOn 18 = .ok (.istore_n 3, 1) := by decide +kernel
theorem dX10_walksOn_19 : decode cX10_walksOn 19 = .ok (.iload_n 3, 1) := by decide +kernel
theorem dX10_walksOn_20 : decode cX10_walksOn 20 = .ok (.aload_n 0, 1) := by decide +kernel
theorem dX10_walksOn_21 : decode cX10_walksOn 21 = .ok (.getfield 29, 3) := by decide +kernel
theorem dX10_walksOn_24 : decode cX10_walksOn 24 = .ok (.iload_n 2, 1) := by decide +kernel
theorem dX10_walksOn_25 : decode cX10_walksOn 25 = .ok (.iconst 2, 1) := by decide +kernel
theorem dX10_walksOn_26 : decode cX10_walksOn 26 = .ok (.invokestatic 167, 3) := by decide +kernel
theorem dX10_walksOn_29 : decode cX10_walksOn 29 = .ok (.if_icmp .ge 102, 3) := by decide +kernel
theorem dX10_walksOn_32 : decode cX10_walksOn 32 = .ok (.aload_n 0, 1) := by decide +kernel
theorem dX10_walksOn_33 : decode cX10_walksOn 33 = .ok (.getfield 29, 3) := by decide +kernel
theorem dX10_walksOn_36 : decode cX10_walksOn 36 = .ok (.iload_n 2, 1) := by decide +kernel
theorem dX10_walksOn_37 : decode cX10_walksOn 37 = .ok (.iload_n 3, 1) := by decide +kernel
theorem dX10_walksOn_38 : decode cX10_walksOn 38 = .ok (.invokestatic 201, 3) := by decide +kernel
theorem dX10_walksOn_41 : decode cX10_walksOn 41 = .ok (.ifCond .eq 7, 3) := by decide +kernel
theorem dX10_walksOn_44 : decode cX10_walksOn 44 = .ok (.iconst (-1), 1) := by decide +kernel
theorem dX10_walksOn_45 : decode cX10_walksOn 45 = .ok (.goto 22, 3) := by decide +kernel
theorem dX10_walksOn_48 : decode cX10_walksOn 48 = .ok (.aload_n 0, 1) := by decide +kernel
theorem dX10_walksOn_49 : decode cX10_walksOn 49 = .ok (.getfield 29, 3) := by decide +kernel
theorem dX10_walksOn_52 : decode cX10_walksOn 52 = .ok (.aload_n 0, 1) := by decide +kernel
theorem dX10_walksOn_53 : decode cX10_walksOn 53 = .ok (.getfield 29, 3) := by decide +kernel
theorem dX10_walksOn_56 : decode cX10_walksOn 56 = .ok (.iload_n 2, 1) := by decide +kernel
theorem dX10_walksOn_57 : decode cX10_walksOn 57 = .ok (.bipush 7, 2) := by decide +kernel
theorem dX10_walksOn_59 : decode cX10_walksOn 59 = .ok (.iload_n 3, 1) := by decide +kernel
theorem dX10_walksOn_60 : decode cX10_walksOn 60 = .ok (.iadd, 1) := by decide +kernel
theorem dX10_walksOn_61 : decode cX10_walksOn 61 = .ok (.invokestatic 167, 3) := by decide +kernel
theorem dX10_walksOn_64 : decode cX10_walksOn 64 = .ok (.invokestatic 182, 3) := by decide +kernel
theorem dX10_walksOn_67 : decode cX10_walksOn 67 = .ok (.istore 4, 2) := by decide +kernel
theorem dX10_walksOn_69 : decode cX10_walksOn 69 = .ok (.iload 4, 2) := by decide +kernel
theorem dX10_walksOn_71 : decode cX10_walksOn 71 = .ok (.iconst (-1), 1) := by decide +kernel
theorem dX10_walksOn_72 : decode cX10_walksOn 72 = .ok (.if_icmp .eq 53, 3) := by decide +kernel
theorem dX10_walksOn_75 : decode cX10_walksOn 75 = .ok (.aload_n 0, 1) := by decide +kernel
theorem dX10_walksOn_76 : decode cX10_walksOn 76 = .ok (.getfield 45, 3) := by decide +kernel
theorem dX10_walksOn_79 : decode cX10_walksOn 79 = .ok (.iload 4, 2) := by decide +kernel
theorem dX10_walksOn_81 : decode cX10_walksOn 81 = .ok (.baload, 1) := by decide +kernel
theorem dX10_walksOn_82 : decode cX10_walksOn 82 = .ok (.ifCond .eq 6, 3) := by decide +kernel
theorem dX10_walksOn_85 : decode cX10_walksOn 85 = .ok (.goto 40, 3) := by decide +kernel
theorem dX10_walksOn_88 : decode cX10_walksOn 88 = .ok (.aload_n 0, 1) := by decide +kernel
theorem dX10_walksOn_89 : decode cX10_walksOn 89 = .ok (.getfield 58, 3) := by decide +kernel
theorem dX10_walksOn_92 : decode cX10_walksOn 92 = .ok (.iload 4, 2) := by decide +kernel
theorem dX10_walksOn_94 : decode cX10_walksOn 94 = .ok (.iload_n 2, 1) := by decide +kernel
theorem dX10_walksOn_95 : decode cX10_walksOn 95 = .ok (.iastore, 1) := by decide +kernel
theorem dX10_walksOn_96 : decode cX10_walksOn 96 = .ok (.aload_n 0, 1) := by decide +kernel
theorem dX10_walksOn_97 : decode cX10_walksOn 97 = .ok (.getfield 61, 3) := by decide +kernel
theorem dX10_walksOn_100 : decode cX10_walksOn 100 = .ok (.iload 4, 2) := by decide +kernel
theorem dX10_walksOn_102 : decode cX10_walksOn 102 = .ok (.iload_n 3, 1) := by decide +kernel
theorem dX10_walksOn_103 : decode cX10_walksOn 103 = .ok (.iastore, 1) := by decide +kernel
theorem dX10_walksOn_104 : decode cX10_walksOn 104 = .ok (.aload_n 0, 1) := by decide +kernel
theorem dX10_walksOn_105 : decode cX10_walksOn 105 = .ok (.getfield 64, 3) := by decide +kernel
theorem dX10_walksOn_108 : decode cX10_walksOn 108 = .ok (.iload 4, 2) := by decide +kernel
theorem dX10_walksOn_110 : decode cX10_walksOn 110 = .ok (.aload_n 0, 1) := by decide +kernel
theorem dX10_walksOn_111 : decode cX10_walksOn 111 = .ok (.getfield 64, 3) := by decide +kernel
theorem dX10_walksOn_114 : decode cX10_walksOn 114 = .ok (.iload_n 2, 1) := by decide +kernel
theorem dX10_walksOn_115 : decode cX10_walksOn 115 = .ok (.iaload, 1) := by decide +kernel
theorem dX10_walksOn_116 : decode cX10_walksOn 116 = .ok (.iconst 1, 1) := by decide +kernel
theorem dX10_walksOn_117 : decode cX10_walksOn 117 = .ok (.iadd, 1) := by decide +kernel
theorem dX10_walksOn_118 : decode cX10_walksOn 118 = .ok (.iastore, 1) := by decide +kernel
theorem dX10_walksOn_119 : decode cX10_walksOn 119 = .ok (.aload_n 0, 1) := by decide +kernel
theorem dX10_walksOn_120 : decode cX10_walksOn 120 = .ok (.iload 4, 2) := by decide +kernel
theorem dX10_walksOn_122 : decode cX10_walksOn 122 = .ok (.invokevirtual 204, 3) := by decide +kernel
theorem dX10_walksOn_125 : decode cX10_walksOn 125 = .ok (.iinc 3 1, 3) := by decide +kernel
theorem dX10_walksOn_128 : decode cX10_walksOn 128 = .ok (.goto (-109), 3) := by decide +kernel
theorem dX10_walksOn_131 : decode cX10_walksOn 131 = .ok (.iinc 1 1, 3) := by decide +kernel
theorem dX10_walksOn_134 : decode cX10_walksOn 134 = .ok (.goto (-132), 3) := by decide +kernel
theorem dX10_walksOn_137 : decode cX10_walksOn 137 = .ok (.return_, 1) := by decide +kernel
theorem dX10_path_0 : decode cX10_path 0 = .ok (.aload_n 0, 1) := by decide +kernel
theorem dX10_path_1 : decode cX10_path 1 = .ok (.iconst 0, 1) := by decide +kernel
theorem dX10_path_2 : decode cX10_path 2 = .ok (.putfield 73, 3) := by decide +kernel
theorem dX10_path_5 : decode cX10_path 5 = .ok (.iload_n 1, 1) := by decide +kernel
theorem dX10_path_6 : decode cX10_path 6 = .ok (.ifCond .le 14, 3) := by decide +kernel
theorem dX10_path_9 : decode cX10_path 9 = .ok (.aload_n 0, 1) := by decide +kernel
theorem dX10_path_10 : decode cX10_path 10 = .ok (.getfield 29, 3) := by decide +kernel
theorem dX10_path_13 : decode cX10_path 13 = .ok (.iload_n 1, 1) := by decide +kernel
theorem dX10_path_14 : decode cX10_path 14 = .ok (.invokestatic 182, 3) := by decide +kernel
theorem dX10_path_17 : decode cX10_path 17 = .ok (.goto 4, 3) := by decide +kernel
theorem dX10_path_20 : decode cX10_path 20 = .ok (.iconst (-1), 1) := by decide +kernel
theorem dX10_path_21 : decode cX10_path 21 = .ok (.istore_n 3, 1) := by decide +kernel
theorem dX10_path_22 : decode cX10_path 22 = .ok (.iload_n 3, 1) := by decide +kernel
theorem dX10_path_23 : decode cX10_path 23 = .ok (.iconst (-1), 1) := by decide +kernel
theorem dX10_path_24 : decode cX10_path 24 = .ok (.if_icmp .ne 5, 3) := by decide +kernel
theorem dX10_path_27 : decode cX10_path 27 = .ok (.iconst (-1), 1) := by decide +kernel
theorem dX10_path_28 : decode cX10_path 28 = .ok (.ireturn, 1) := by decide +kernel
theorem dX10_path_29 : decode cX10_path 29 = .ok (.aload_n 0, 1) := by decide +kernel
theorem dX10_path_30 : decode cX10_path 30 = .ok (.invokevirtual 378, 3) := by decide +kernel
theorem dX10_path_33 : decode cX10_path 33 = .ok (.aload_n 0, 1) := by decide +kernel
theorem dX10_path_34 : decode cX10_path 34 = .ok (.getfield 45, 3) := by decide +kernel
theorem dX10_path_37 : decode cX10_path 37 = .ok (.iload_n 3, 1) := by decide +kernel
theorem dX10_path_38 : decode cX10_path 38 = .ok (.baload, 1) := by decide +kernel
theorem dX10_path_39 : decode cX10_path 39 = .ok (.ifCond .eq 18, 3) := by decide +kernel
theorem dX10_path_42 : decode cX10_path 42 = .ok (.iload_n 2, 1) := by decide +kernel
theorem dX10_path_43 : decode cX10_path 43 = .ok (.iconst (-1), 1) := by decide +kernel
theorem dX10_path_44 : decode cX10_path 44 = .ok (.if_icmp .lt 13, 3) := by decide +kernel
theorem dX10_path_47 : decode cX10_path 47 = .ok (.iload_n 2, 1) := by decide +kernel
theorem dX10_path_48 : decode cX10_path 48 = .ok (.aload_n 0, 1) := by decide +kernel
theorem dX10_path_49 : decode cX10_path 49 = .ok (.getfield 64, 3) := by decide +kernel
theorem dX10_path_52 : decode cX10_path 52 = .ok (.iload_n 3, 1) := by decide +kernel
theorem dX10_path_53 : decode cX10_path 53 = .ok (.iaload, 1) := by decide +kernel
theorem dX10_path_54 : decode cX10_path 54 = .ok (.if_icmp .le 5, 3) := by decide +kernel
theorem dX10_path_57 : decode cX10_path 57 = .ok (.iconst (-1), 1) := by decide +kernel
theorem dX10_path_58 : decode cX10_path 58 = .ok (.ireturn, 1) := by decide +kernel
theorem dX10_path_59 : decode cX10_path 59 = .ok (.iload_n 2, 1) := by decide +kernel
theorem dX10_path_60 : decode cX10_path 60 = .ok (.iconst (-1), 1) := by decide +kernel
theorem dX10_path_61 : decode cX10_path 61 = .ok (.if_icmp .ne 10, 3) := by decide +kernel
theorem dX10_path_64 : decode cX10_path 64 = .ok (.aload_n 0, 1) := by decide +kernel
theorem dX10_path_65 : decode cX10_path 65 = .ok (.getfield 64, 3) := by decide +kernel
theorem dX10_path_68 : decode cX10_path 68 = .ok (.iload_n 3, 1) := by decide +kernel
theorem dX10_path_69 : decode cX10_path 69 = .ok (.iaload, 1) := by decide +kernel
theorem dX10_path_70 : decode cX10_path 70 = .ok (.ireturn, 1) := by decide +kernel
theorem dX10_path_71 : decode cX10_path 71 = .ok (.iload_n 3, 1) := by decide +kernel
theorem dX10_path_72 : decode cX10_path 72 = .ok (.istore 4, 2) := by decide +kernel
theorem dX10_path_74 : decode cX10_path 74 = .ok (.aload_n 0, 1) := by decide +kernel
theorem dX10_path_75 : decode cX10_path 75 = .ok (.getfield 64, 3) := by decide +kernel
theorem dX10_path_78 : decode cX10_path 78 = .ok (.iload 4, 2) := by decide +kernel
theorem dX10_path_80 : decode cX10_path 80 = .ok (.iaload, 1) := by decide +kernel
theorem dX10_path_81 : decode cX10_path 81 = .ok (.iload_n 2, 1) := by decide +kernel
theorem dX10_path_82 : decode cX10_path 82 = .ok (.if_icmp .le 15, 3) := by decide +kernel
theorem dX10_path_85 : decode cX10_path 85 = .ok (.aload_n 0, 1) := by decide +kernel
theorem dX10_path_86 : decode cX10_path 86 = .ok (.getfield 58, 3) := by decide +kernel
theorem dX10_path_89 : decode cX10_path 89 = .ok (.iload 4, 2) := by decide +kernel
theorem dX10_path_91 : decode cX10_path 91 = .ok (.iaload, 1) := by decide +kernel
theorem dX10_path_92 : decode cX10_path 92 = .ok (.istore 4, 2) := by decide +kernel
theorem dX10_path_94 : decode cX10_path 94 = .ok (.goto (-20), 3) := by decide +kernel
theorem dX10_path_97 : decode cX10_path 97 = .ok (.aload_n 0, 1) := by decide +kernel
theorem dX10_path_98 : decode cX10_path 98 = .ok (.getfield 61, 3) := by decide +kernel
theorem dX10_path_101 : decode cX10_path 101 = .ok (.iload 4, 2) := by decide +kernel
theorem dX10_path_103 : decode cX10_path 103 = .ok (.iaload, 1) := by decide +kernel
theorem dX10_path_104 : decode cX10_path 104 = .ok (.ireturn, 1) := by decide +kernel
theorem dX10_alone_0 : decode cX10_alone 0 = .ok (.aload_n 0, 1) := by decide +kernel
theorem dX10_alone_1 : decode cX10_alone 1 = .ok (.iconst 0, 1) := by decide +kernel
theorem dX10_alone_2 : decode cX10_alone 2 = .ok (.putfield 73, 3) := by decide +kernel
theorem dX10_alone_5 : decode cX10_alone 5 = .ok (.aload_n 0, 1) := by decide +kernel
theorem dX10_alone_6 : decode cX10_alone 6 = .ok (.iload_n 1, 1) := by decide +kernel
theorem dX10_alone_7 : decode cX10_alone 7 = .ok (.invokevirtual 277, 3) := by decide +kernel
theorem dX10_alone_10 : decode cX10_alone 10 = .ok (.ifCond .eq 26, 3) := by decide +kernel
theorem dX10_alone_13 : decode cX10_alone 13 = .ok (.aload_n 0, 1) := by decide +kernel
theorem dX10_alone_14 : decode cX10_alone 14 = .ok (.getfield 29, 3) := by decide +kernel
theorem dX10_alone_17 : decode cX10_alone 17 = .ok (.sipush 881, 3) := by decide +kernel
theorem dX10_alone_20 : decode cX10_alone 20 = .ok (.iload_n 1, 1) := by decide +kernel
theorem dX10_alone_21 : decode cX10_alone 21 = .ok (.iadd, 1) := by decide +kernel
theorem dX10_alone_22 : decode cX10_alone 22 = .ok (.iaload, 1) := by decide +kernel
theorem dX10_alone_23 : decode cX10_alone 23 = .ok (.ifCond .eq 13, 3) := by decide +kernel
theorem dX10_alone_26 : decode cX10_alone 26 = .ok (.iload_n 2, 1) := by decide +kernel
theorem dX10_alone_27 : decode cX10_alone 27 = .ok (.i2l, 1) := by decide +kernel
theorem dX10_alone_28 : decode cX10_alone 28 = .ok (.lconst 0, 1) := by decide +kernel
theorem dX10_alone_29 : decode cX10_alone 29 = .ok (.lconst 1, 1) := by decide +kernel
theorem dX10_alone_30 : decode cX10_alone 30 = .ok (.invokestatic 134, 3) := by decide +kernel
theorem dX10_alone_33 : decode cX10_alone 33 = .ok (.ifCond .ne 5, 3) := by decide +kernel
theorem dX10_alone_36 : decode cX10_alone 36 = .ok (.iconst (-1), 1) := by decide +kernel
theorem dX10_alone_37 : decode cX10_alone 37 = .ok (.ireturn, 1) := by decide +kernel
theorem dX10_alone_38 : decode cX10_alone 38 = .ok (.aload_n 0, 1) := by decide +kernel
theorem dX10_alone_39 : decode cX10_alone 39 = .ok (.aload_n 0, 1) := by decide +kernel
theorem dX10_alone_40 : decode cX10_alone 40 = .ok (.getfield 29, 3) := by decide +kernel
theorem dX10_alone_43 : decode cX10_alone 43 = .ok (.iconst (-1), 1) := by decide +kernel
theorem dX10_alone_44 : decode cX10_alone 44 = .ok (.iconst 1, 1) := by decide +kernel
theorem dX10_alone_45 : decode cX10_alone 45 = .ok (.invokevirtual 268, 3) := by decide +kernel
theorem dX10_alone_48 : decode cX10_alone 48 = .ok (.aload_n 0, 1) := by decide +kernel
theorem dX10_alone_49 : decode cX10_alone 49 = .ok (.getfield 195, 3) := by decide +kernel
theorem dX10_alone_52 : decode cX10_alone 52 = .ok (.istore_n 3, 1) := by decide +kernel
theorem dX10_alone_53 : decode cX10_alone 53 = .ok (.aload_n 0, 1) := by decide +kernel
theorem dX10_alone_54 : decode cX10_alone 54 = .ok (.invokevirtual 381, 3) := by decide +kernel
theorem dX10_alone_57 : decode cX10_alone 57 = .ok (.istore 4, 2) := by decide +kernel
theorem dX10_alone_59 : decode cX10_alone 59 = .ok (.aload_n 0, 1) := by decide +kernel
theorem dX10_alone_60 : decode cX10_alone 60 = .ok (.aload_n 0, 1) := by decide +kernel
theorem dX10_alone_61 : decode cX10_alone 61 = .ok (.getfield 29, 3) := by decide +kernel
theorem dX10_alone_64 : decode cX10_alone 64 = .ok (.iload_n 1, 1) := by decide +kernel
theorem dX10_alone_65 : decode cX10_alone 65 = .ok (.iconst 1, 1) := by decide +kernel
theorem dX10_alone_66 : decode cX10_alone 66 = .ok (.invokevirtual 268, 3) := by decide +kernel
theorem dX10_alone_69 : decode cX10_alone 69 = .ok (.iload_n 2, 1) := by decide +kernel
theorem dX10_alone_70 : decode cX10_alone 70 = .ok (.ifCond .ne 12, 3) := by decide +kernel
theorem dX10_alone_73 : decode cX10_alone 73 = .ok (.iload_n 3, 1) := by decide +kernel
theorem dX10_alone_74 : decode cX10_alone 74 = .ok (.aload_n 0, 1) := by decide +kernel
theorem dX10_alone_75 : decode cX10_alone 75 = .ok (.getfield 195, 3) := by decide +kernel
theorem dX10_alone_78 : decode cX10_alone 78 = .ok (.isub, 1) := by decide +kernel
theorem dX10_alone_79 : decode cX10_alone 79 = .ok (.goto 10, 3) := by decide +kernel
theorem dX10_alone_82 : decode cX10_alone 82 = .ok (.iload 4, 2) := by decide +kernel
theorem dX10_alone_84 : decode cX10_alone 84 = .ok (.aload_n 0, 1) := by decide +kernel
theorem dX10_alone_85 : decode cX10_alone 85 = .ok (.invokevirtual 381, 3) := by decide +kernel
theorem dX10_alone_88 : decode cX10_alone 88 = .ok (.isub, 1) := by decide +kernel
theorem dX10_alone_89 : decode cX10_alone 89 = .ok (.ireturn, 1) := by decide +kernel
theorem dX10_metCells_0 : decode cX10_metCells 0 = .ok (.iconst 0, 1) := by decide +kernel
theorem dX10_metCells_1 : decode cX10_metCells 1 = .ok (.istore_n 1, 1) := by decide +kernel
theorem dX10_metCells_2 : decode cX10_metCells 2 = .ok (.iconst 0, 1) := by decide +kernel
theorem dX10_metCells_3 : decode cX10_metCells 3 = .ok (.istore_n 2, 1) := by decide +kernel
theorem dX10_metCells_4 : decode cX10_metCells 4 = .ok (.iload_n 2, 1) := by decide +kernel
theorem dX10_metCells_5 : decode cX10_metCells 5 = .ok (.aload_n 0, 1) := by decide +kernel
theorem dX10_metCells_6 : decode cX10_metCells 6 = .ok (.getfield 195, 3) := by decide +kernel
theorem dX10_metCells_9 : decode cX10_metCells 9 = .ok (.if_icmp .ge 25, 3) := by decide +kernel
theorem dX10_metCells_12 : decode cX10_metCells 12 = .ok (.iload_n 1, 1) := by decide +kernel
theorem dX10_metCells_13 : decode cX10_metCells 13 = .ok (.aload_n 0, 1) := by decide +kernel
theorem dX10_metCells_14 : decode cX10_metCells 14 = .ok (.getfield 29, 3) := by decide +kernel
theorem dX10_metCells_17 : decode cX10_metCells 17 = .ok (.aload_n 0, 1) := by decide +kernel
theorem dX10_metCells_18 : decode cX10_metCells 18 = .ok (.getfield 49, 3) := by decide +kernel
theorem dX10_metCells_21 : decode cX10_metCells 21 = .ok (.iload_n 2, 1) := by decide +kernel
theorem dX10_metCells_22 : decode cX10_metCells 22 = .ok (.iaload, 1) := by decide +kernel
theorem dX10_metCells_23 : decode cX10_metCells 23 = .ok (.invokestatic 171, 3) := by decide +kernel
theorem dX10_metCells_26 : decode cX10_metCells 26 = .ok (.iadd, 1) := by decide +kernel
theorem dX10_metCells_27 : decode cX10_metCells 27 = .ok (.istore_n 1, 1) := by decide +kernel
theorem dX10_metCells_28 : decode cX10_metCells 28 = .ok (.iinc 2 1, 3) := by decide +kernel
theorem dX10_metCells_31 : decode cX10_metCells 31 = .ok (.goto (-27), 3) := by decide +kernel
theorem dX10_metCells_34 : decode cX10_metCells 34 = .ok (.iload_n 1, 1) := by decide +kernel
theorem dX10_metCells_35 : decode cX10_metCells 35 = .ok (.ireturn, 1) := by decide +kernel
theorem dX10_holders_0 : decode cX10_holders 0 = .ok (.aload_n 0, 1) := by decide +kernel
theorem dX10_holders_1 : decode cX10_holders 1 = .ok (.iconst 0, 1) := by decide +kernel
theorem dX10_holders_2 : decode cX10_holders 2 = .ok (.putfield 73, 3) := by decide +kernel
theorem dX10_holders_5 : decode cX10_holders 5 = .ok (.iload_n 1, 1) := by decide +kernel
theorem dX10_holders_6 : decode cX10_holders 6 = .ok (.iconst 1, 1) := by decide +kernel
theorem dX10_holders_7 : decode cX10_holders 7 = .ok (.if_icmp .lt 15, 3) := by decide +kernel
theorem dX10_holders_10 : decode cX10_holders 10 = .ok (.aload_n 0, 1) := by decide +kernel
theorem dX10_holders_11 : decode cX10_holders 11 = .ok (.getfield 29, 3) := by decide +kernel
theorem dX10_holders_14 : decode cX10_holders 14 = .ok (.iload_n 1, 1) := by decide +kernel
theorem dX10_holders_15 : decode cX10_holders 15 = .ok (.invokestatic 182, 3) := by decide +kernel
theorem dX10_holders_18 : decode cX10_holders 18 = .ok (.iconst (-1), 1) := by decide +kernel
theorem dX10_holders_19 : decode cX10_holders 19 = .ok (.if_icmp .ne 5, 3) := by decide +kernel
theorem dX10_holders_22 : decode cX10_holders 22 = .ok (.iconst (-1), 1) := by decide +kernel
theorem dX10_holders_23 : decode cX10_holders 23 = .ok (.ireturn, 1) := by decide +kernel
theorem dX10_holders_24 : decode cX10_holders 24 = .ok (.aload_n 0, 1) := by decide +kernel
theorem dX10_holders_25 : decode cX10_holders 25 = .ok (.aload_n 0, 1) := by decide +kernel
theorem dX10_holders_26 : decode cX10_holders 26 = .ok (.getfield 29, 3) := by decide +kernel
theorem dX10_holders_29 : decode cX10_holders 29 = .ok (.iconst (-1), 1) := by decide +kernel
theorem dX10_holders_30 : decode cX10_holders 30 = .ok (.iconst 1, 1) := by decide +kernel
theorem dX10_holders_31 : decode cX10_holders 31 = .ok (.invokevirtual 268, 3) := by decide +kernel
theorem dX10_holders_34 : decode cX10_holders 34 = .ok (.iconst 0, 1) := by decide +kernel
theorem dX10_holders_35 : decode cX10_holders 35 = .ok (.istore_n 2, 1) := by decide +kernel
theorem dX10_holders_36 : decode cX10_holders 36 = .ok (.iconst 0, 1) := by decide +kernel
theorem dX10_holders_37 : decode cX10_holders 37 = .ok (.istore_n 3, 1) := by decide +kernel
theorem dX10_holders_38 : decode cX10_holders 38 = .ok (.iload_n 3, 1) := by decide +kernel
theorem dX10_holders_39 : decode cX10_holders 39 = .ok (.bipush 8, 2) := by decide +kernel
theorem dX10_holders_41 : decode cX10_holders 41 = .ok (.if_icmp .ge 31, 3) := by decide +kernel
theorem dX10_holders_44 : decode cX10_holders 44 = .ok (.iload_n 2, 1) := by decide +kernel
theorem dX10_holders_45 : decode cX10_holders 45 = .ok (.aload_n 0, 1) := by decide +kernel
theorem dX10_holders_46 : decode cX10_holders 46 = .ok (.getfield 29, 3) := by decide +kernel
theorem dX10_holders_49 : decode cX10_holders 49 = .ok (.sipush 881, 3) := by decide +kernel
theorem dX10_holders_52 : decode cX10_holders 52 = .ok (.iload_n 3, 1) := by decide +kernel
theorem dX10_holders_53 : decode cX10_holders 53 = .ok (.iadd, 1) := by decide +kernel
theorem dX10_holders_54 : decode cX10_holders 54 = .ok (.iaload, 1) := by decide +kernel
theorem dX10_holders_55 : decode cX10_holders 55 = .ok (.iload_n 1, 1) := by decide +kernel
theorem dX10_holders_56 : decode cX10_holders 56 = .ok (.if_icmp .ne 7, 3) := by decide +kernel
theorem dX10_holders_59 : decode cX10_holders 59 = .ok (.iconst 1, 1) := by decide +kernel
theorem dX10_holders_60 : decode cX10_holders 60 = .ok (.goto 4, 3) := by decide +kernel
theorem dX10_holders_63 : decode cX10_holders 63 = .ok (.iconst 0, 1) := by decide +kernel
theorem dX10_holders_64 : decode cX10_holders 64 = .ok (.iadd, 1) := by decide +kernel
theorem dX10_holders_65 : decode cX10_holders 65 = .ok (.istore_n 2, 1) := by decide +kernel
theorem dX10_holders_66 : decode cX10_holders 66 = .ok (.iinc 3 1, 3) := by decide +kernel
theorem dX10_holders_69 : decode cX10_holders 69 = .ok (.goto (-31), 3) := by decide +kernel
theorem dX10_holders_72 : decode cX10_holders 72 = .ok (.iconst 0, 1) := by decide +kernel
theorem dX10_holders_73 : decode cX10_holders 73 = .ok (.istore_n 3, 1) := by decide +kernel
theorem dX10_holders_74 : decode cX10_holders 74 = .ok (.iload_n 3, 1) := by decide +kernel
theorem dX10_holders_75 : decode cX10_holders 75 = .ok (.aload_n 0, 1) := by decide +kernel
theorem dX10_holders_76 : decode cX10_holders 76 = .ok (.getfield 195, 3) := by decide +kernel
theorem dX10_holders_79 : decode cX10_holders 79 = .ok (.if_icmp .ge 85, 3) := by decide +kernel
theorem dX10_holders_82 : decode cX10_holders 82 = .ok (.iconst 0, 1) := by decide +kernel
theorem dX10_holders_83 : decode cX10_holders 83 = .ok (.istore 4, 2) := by decide +kernel
theorem dX10_holders_85 : decode cX10_holders 85 = .ok (.iload 4, 2) := by decide +kernel
theorem dX10_holders_87 : decode cX10_holders 87 = .ok (.aload_n 0, 1) := by decide +kernel
theorem dX10_holders_88 : decode cX10_holders 88 = .ok (.getfield 29, 3) := by decide +kernel
theorem dX10_holders_91 : decode cX10_holders 91 = .ok (.aload_n 0, 1) := by decide +kernel
theorem dX10_holders_92 : decode cX10_holders 92 = .ok (.getfield 49, 3) := by decide +kernel
theorem dX10_holders_95 : decode cX10_holders 95 = .ok (.iload_n 3, 1) := by decide +kernel
theorem dX10_holders_96 : decode cX10_holders 96 = .ok (.iaload, 1) := by decide +kernel
theorem dX10_holders_97 : decode cX10_holders 97 = .ok (.iconst 2, 1) := by decide +kernel
theorem dX10_holders_98 : decode cX10_holders 98 = .ok (.invokestatic 167, 3) := by decide +kernel
theorem dX10_holders_101 : decode cX10_holders 101 = .ok (.if_icmp .ge 57, 3) := by decide +kernel
theorem dX10_holders_104 : decode cX10_holders 104 = .ok (.iload_n 2, 1) := by decide +kernel
theorem dX10_holders_105 : decode cX10_holders 105 = .ok (.aload_n 0, 1) := by decide +kernel
theorem dX10_holders_106 : decode cX10_holders 106 = .ok (.getfield 29, 3) := by decide +kernel
theorem dX10_holders_109 : decode cX10_holders 109 = .ok (.aload_n 0, 1) := by decide +kernel
theorem dX10_holders_110 : decode cX10_holders 110 = .ok (.getfield 49, 3) := by decide +kernel
theorem dX10_holders_113 : decode cX10_holders 113 = .ok (.iload_n 3, 1) := by decide +kernel
theorem dX10_holders_114 : decode cX10_holders 114 = .ok (.iaload, 1) := by decide +kernel
theorem dX10_holders_115 : decode cX10_holders 115 = .ok (.iload 4, 2) := by decide +kernel
theorem dX10_holders_117 : decode cX10_holders 117 = .ok (.invokestatic 201, 3) := by decide +kernel
theorem dX10_holders_120 : decode cX10_holders 120 = .ok (.ifCond .ne 29, 3) := by decide +kernel
theorem dX10_holders_123 : decode cX10_holders 123 = .ok (.aload_n 0, 1) := by decide +kernel
theorem dX10_holders_124 : decode cX10_holders 124 = .ok (.getfield 29, 3) := by decide +kernel
theorem dX10_holders_127 : decode cX10_holders 127 = .ok (.aload_n 0, 1) := by decide +kernel
theorem dX10_holders_128 : decode cX10_holders 128 = .ok (.getfield 49, 3) := by decide +kernel
theorem dX10_holders_131 : decode cX10_holders 131 = .ok (.iload_n 3, 1) := by decide +kernel
theorem dX10_holders_132 : decode cX10_holders 132 = .ok (.iaload, 1) := by decide +kernel
theorem dX10_holders_133 : decode cX10_holders 133 = .ok (.bipush 7, 2) := by decide +kernel
theorem dX10_holders_135 : decode cX10_holders 135 = .ok (.iload 4, 2) := by decide +kernel
theorem dX10_holders_137 : decode cX10_holders 137 = .ok (.iadd, 1) := by decide +kernel
theorem dX10_holders_138 : decode cX10_holders 138 = .ok (.invokestatic 167, 3) := by decide +kernel
theorem dX10_holders_141 : decode cX10_holders 141 = .ok (.iload_n 1, 1) := by decide +kernel
theorem dX10_holders_142 : decode cX10_holders 142 = .ok (.if_icmp .ne 7, 3) := by decide +kernel
theorem dX10_holders_145 : decode cX10_holders 145 = .ok (.iconst 1, 1) := by decide +kernel
theorem dX10_holders_146 : decode cX10_holders 146 = .ok (.goto 4, 3) := by decide +kernel
theorem dX10_holders_149 : decode cX10_holders 149 = .ok (.iconst 0, 1) := by decide +kernel
theorem dX10_holders_150 : decode cX10_holders 150 = .ok (.iadd, 1) := by decide +kernel
theorem dX10_holders_151 : decode cX10_holders 151 = .ok (.istore_n 2, 1) := by decide +kernel
theorem dX10_holders_152 : decode cX10_holders 152 = .ok (.iinc 4 1, 3) := by decide +kernel
theorem dX10_holders_155 : decode cX10_holders 155 = .ok (.goto (-70), 3) := by decide +kernel
theorem dX10_holders_158 : decode cX10_holders 158 = .ok (.iinc 3 1, 3) := by decide +kernel
theorem dX10_holders_161 : decode cX10_holders 161 = .ok (.goto (-87), 3) := by decide +kernel
theorem dX10_holders_164 : decode cX10_holders 164 = .ok (.iload_n 2, 1) := by decide +kernel
theorem dX10_holders_165 : decode cX10_holders 165 = .ok (.ireturn, 1) := by decide +kernel
theorem dX10_round_0 : decode cX10_round 0 = .ok (.aload_n 0, 1) := by decide +kernel
theorem dX10_round_1 : decode cX10_round 1 = .ok (.iconst 0, 1) := by decide +kernel
theorem dX10_round_2 : decode cX10_round 2 = .ok (.putfield 73, 3) := by decide +kernel
theorem dX10_round_5 : decode cX10_round 5 = .ok (.iload_n 1, 1) := by decide +kernel
theorem dX10_round_6 : decode cX10_round 6 = .ok (.ifCond .le 14, 3) := by decide +kernel
theorem dX10_round_9 : decode cX10_round 9 = .ok (.aload_n 0, 1) := by decide +kernel
theorem dX10_round_10 : decode cX10_round 10 = .ok (.getfield 29, 3) := by decide +kernel
theorem dX10_round_13 : decode cX10_round 13 = .ok (.iload_n 1, 1) := by decide +kernel
theorem dX10_round_14 : decode cX10_round 14 = .ok (.invokestatic 182, 3) := by decide +kernel
theorem dX10_round_17 : decode cX10_round 17 = .ok (.goto 4, 3) := by decide +kernel
theorem dX10_round_20 : decode cX10_round 20 = .ok (.iconst (-1), 1) := by decide +kernel
theorem dX10_round_21 : decode cX10_round 21 = .ok (.istore_n 2, 1) := by decide +kernel
theorem dX10_round_22 : decode cX10_round 22 = .ok (.iload_n 2, 1) := by decide +kernel
theorem dX10_round_23 : decode cX10_round 23 = .ok (.iconst (-1), 1) := by decide +kernel
theorem dX10_round_24 : decode cX10_round 24 = .ok (.if_icmp .ne 5, 3) := by decide +kernel
theorem dX10_round_27 : decode cX10_round 27 = .ok (.iconst (-1), 1) := by decide +kernel
theorem dX10_round_28 : decode cX10_round 28 = .ok (.ireturn, 1) := by decide +kernel
theorem dX10_round_29 : decode cX10_round 29 = .ok (.aload_n 0, 1) := by decide +kernel
theorem dX10_round_30 : decode cX10_round 30 = .ok (.invokevirtual 207, 3) := by decide +kernel
theorem dX10_round_33 : decode cX10_round 33 = .ok (.aload_n 0, 1) := by decide +kernel
theorem dX10_round_34 : decode cX10_round 34 = .ok (.getfield 64, 3) := by decide +kernel
theorem dX10_round_37 : decode cX10_round 37 = .ok (.iload_n 2, 1) := by decide +kernel
theorem dX10_round_38 : decode cX10_round 38 = .ok (.iconst 0, 1) := by decide +kernel
theorem dX10_round_39 : decode cX10_round 39 = .ok (.iastore, 1) := by decide +kernel
theorem dX10_round_40 : decode cX10_round 40 = .ok (.aload_n 0, 1) := by decide +kernel
theorem dX10_round_41 : decode cX10_round 41 = .ok (.iload_n 2, 1) := by decide +kernel
theorem dX10_round_42 : decode cX10_round 42 = .ok (.invokevirtual 204, 3) := by decide +kernel
theorem dX10_round_45 : decode cX10_round 45 = .ok (.aload_n 0, 1) := by decide +kernel
theorem dX10_round_46 : decode cX10_round 46 = .ok (.invokevirtual 375, 3) := by decide +kernel
theorem dX10_round_49 : decode cX10_round 49 = .ok (.iconst (-1), 1) := by decide +kernel
theorem dX10_round_50 : decode cX10_round 50 = .ok (.istore_n 3, 1) := by decide +kernel
theorem dX10_round_51 : decode cX10_round 51 = .ok (.iconst 0, 1) := by decide +kernel
theorem dX10_round_52 : decode cX10_round 52 = .ok (.istore 4, 2) := by decide +kernel
theorem dX10_round_54 : decode cX10_round 54 = .ok (.iload 4, 2) := by decide +kernel
theorem dX10_round_56 : decode cX10_round 56 = .ok (.aload_n 0, 1) := by decide +kernel
theorem dX10_round_57 : decode cX10_round 57 = .ok (.getfield 195, 3) := by decide +kernel
theorem dX10_round_60 : decode cX10_round 60 = .ok (.if_icmp .ge 118, 3) := by decide +kernel
theorem dX10_round_63 : decode cX10_round 63 = .ok (.iconst 0, 1) := by decide +kernel
theorem dX10_round_64 : decode cX10_round 64 = .ok (.istore 5, 2) := by decide +kernel
theorem dX10_round_66 : decode cX10_round 66 = .ok (.iload 5, 2) := by decide +kernel
theorem dX10_round_68 : decode cX10_round 68 = .ok (.aload_n 0, 1) := by decide +kernel
theorem dX10_round_69 : decode cX10_round 69 = .ok (.getfield 29, 3) := by decide +kernel
theorem dX10_round_72 : decode cX10_round 72 = .ok (.aload_n 0, 1) := by decide +kernel
theorem dX10_round_73 : decode cX10_round 73 = .ok (.getfield 49, 3) := by decide +kernel
theorem dX10_round_76 : decode cX10_round 76 = .ok (.iload 4, 2) := by decide +kernel
theorem dX10_round_78 : decode cX10_round 78 = .ok (.iaload, 1) := by decide +kernel
theorem dX10_round_79 : decode cX10_round 79 = .ok (.iconst 2, 1) := by decide +kernel
theorem dX10_round_80 : decode cX10_round 80 = .ok (.invokestatic 167, 3) := by decide +kernel
theorem dX10_round_83 : decode cX10_round 83 = .ok (.if_icmp .ge 89, 3) := by decide +kernel
theorem dX10_round_86 : decode cX10_round 86 = .ok (.aload_n 0, 1) := by decide +kernel
theorem dX10_round_87 : decode cX10_round 87 = .ok (.getfield 29, 3) := by decide +kernel
theorem dX10_round_90 : decode cX10_round 90 = .ok (.aload_n 0, 1) := by decide +kernel
theorem dX10_round_91 : decode cX10_round 91 = .ok (.getfield 49, 3) := by decide +kernel
theorem dX10_round_94 : decode cX10_round 94 = .ok (.iload 4, 2) := by decide +kernel
theorem dX10_round_96 : decode cX10_round 96 = .ok (.iaload, 1) := by decide +kernel
theorem dX10_round_97 : decode cX10_round 97 = .ok (.iload 5, 2) := by decide +kernel
theorem dX10_round_99 : decode cX10_round 99 = .ok (.invokestatic 201, 3) := by decide +kernel
theorem dX10_round_102 : decode cX10_round 102 = .ok (.ifCond .ne 64, 3) := by decide +kernel
theorem dX10_round_105 : decode cX10_round 105 = .ok (.aload_n 0, 1) := by decide +kernel
theorem dX10_round_106 : decode cX10_round 106 = .ok (.getfield 29, 3) := by decide +kernel
theorem dX10_round_109 : decode cX10_round 109 = .ok (.aload_n 0, 1) := by decide +kernel
theorem dX10_round_110 : decode cX10_round 110 = .ok (.getfield 49, 3) := by decide +kernel
theorem dX10_round_113 : decode cX10_round 113 = .ok (.iload 4, 2) := by decide +kernel
theorem dX10_round_115 : decode cX10_round 115 = .ok (.iaload, 1) := by decide +kernel
theorem dX10_round_116 : decode cX10_round 116 = .ok (.bipush 7, 2) := by decide +kernel
theorem dX10_round_118 : decode cX10_round 118 = .ok (.iload 5, 2) := by decide +kernel
theorem dX10_round_120 : decode cX10_round 120 = .ok (.iadd, 1) := by decide +kernel
theorem dX10_round_121 : decode cX10_round 121 = .ok (.invokestatic 167, 3) := by decide +kernel
theorem dX10_round_124 : decode cX10_round 124 = .ok (.iload_n 1, 1) := by decide +kernel
theorem dX10_round_125 : decode cX10_round 125 = .ok (.if_icmp .ne 41, 3) := by decide +kernel
theorem dX10_round_128 : decode cX10_round 128 = .ok (.iload_n 3, 1) := by decide +kernel
theorem dX10_round_129 : decode cX10_round 129 = .ok (.iconst (-1), 1) := by decide +kernel
theorem dX10_round_130 : decode cX10_round 130 = .ok (.if_icmp .eq 21, 3) := by decide +kernel
theorem dX10_round_133 : decode cX10_round 133 = .ok (.aload_n 0, 1) := by decide +kernel
theorem dX10_round_134 : decode cX10_round 134 = .ok (.getfield 64, 3) := by decide +kernel
theorem dX10_round_137 : decode cX10_round 137 = .ok (.aload_n 0, 1) := by decide +kernel
theorem dX10_round_138 : decode cX10_round 138 = .ok (.getfield 49, 3) := by decide +kernel
theorem dX10_round_141 : decode cX10_round 141 = .ok (.iload 4, 2) := by decide +kernel
theorem dX10_round_143 : decode cX10_round 143 = .ok (.iaload, 1) := by decide +kernel
theorem dX10_round_144 : decode cX10_round 144 = .ok (.iaload, 1) := by decide +kernel
theorem dX10_round_145 : decode cX10_round 145 = .ok (.iconst 1, 1) := by decide +kernel
theorem dX10_round_146 : decode cX10_round 146 = .ok (.iadd, 1) := by decide +kernel
theorem dX10_round_147 : decode cX10_round 147 = .ok (.iload_n 3, 1) := by decide +kernel
theorem dX10_round_148 : decode cX10_round 148 = .ok (.if_icmp .ge 18, 3) := by decide +kernel
theorem dX10_round_151 : decode cX10_round 151 = .ok (.aload_n 0, 1) := by decide +kernel
theorem dX10_round_152 : decode cX10_round 152 = .ok (.getfield 64, 3) := by decide +kernel
theorem dX10_round_155 : decode cX10_round 155 = .ok (.aload_n 0, 1) := by decide +kernel
theorem dX10_round_156 : decode cX10_round 156 = .ok (.getfield 49, 3) := by decide +kernel
theorem dX10_round_159 : decode cX10_round 159 = .ok (.iload 4, 2) := by decide +kernel
theorem dX10_round_161 : decode cX10_round 161 = .ok (.iaload, 1) := by decide +kernel
theorem dX10_round_162 : decode cX10_round 162 = .ok (.iaload, 1) := by decide +kernel
theorem dX10_round_163 : decode cX10_round 163 = .ok (.iconst 1, 1) := by decide +kernel
theorem dX10_round_164 : decode cX10_round 164 = .ok (.iadd, 1) := by decide +kernel
theorem dX10_round_165 : decode cX10_round 165 = .ok (.istore_n 3, 1) := by decide +kernel
theorem dX10_round_166 : decode cX10_round 166 = .ok (.iinc 5 1, 3) := by decide +kernel
theorem dX10_round_169 : decode cX10_round 169 = .ok (.goto (-103), 3) := by decide +kernel
theorem dX10_round_172 : decode cX10_round 172 = .ok (.iinc 4 1, 3) := by decide +kernel
theorem dX10_round_175 : decode cX10_round 175 = .ok (.goto (-121), 3) := by decide +kernel
theorem dX10_round_178 : decode cX10_round 178 = .ok (.iload_n 3, 1) := by decide +kernel
theorem dX10_round_179 : decode cX10_round 179 = .ok (.ireturn, 1) := by decide +kernel
theorem dX10_room_0 : decode cX10_room 0 = .ok (.aload_n 0, 1) := by decide +kernel
theorem dX10_room_1 : decode cX10_room 1 = .ok (.iconst 0, 1) := by decide +kernel
theorem dX10_room_2 : decode cX10_room 2 = .ok (.putfield 73, 3) := by decide +kernel
theorem dX10_room_5 : decode cX10_room 5 = .ok (.aload_n 0, 1) := by decide +kernel
theorem dX10_room_6 : decode cX10_room 6 = .ok (.getfield 157, 3) := by decide +kernel
theorem dX10_room_9 : decode cX10_room 9 = .ok (.ifCond .eq 37, 3) := by decide +kernel
theorem dX10_room_12 : decode cX10_room 12 = .ok (.iload_n 1, 1) := by decide +kernel
theorem dX10_room_13 : decode cX10_room 13 = .ok (.i2l, 1) := by decide +kernel
theorem dX10_room_14 : decode cX10_room 14 = .ok (.lconst 0, 1) := by decide +kernel
theorem dX10_room_15 : decode cX10_room 15 = .ok (.ldc2_w 283, 3) := by decide +kernel
theorem dX10_room_18 : decode cX10_room 18 = .ok (.invokestatic 134, 3) := by decide +kernel
theorem dX10_room_21 : decode cX10_room 21 = .ok (.ifCond .eq 25, 3) := by decide +kernel
theorem dX10_room_24 : decode cX10_room 24 = .ok (.aload_n 0, 1) := by decide +kernel
theorem dX10_room_25 : decode cX10_room 25 = .ok (.getfield 17, 3) := by decide +kernel
theorem dX10_room_28 : decode cX10_room 28 = .ok (.iconst 0, 1) := by decide +kernel
theorem dX10_room_29 : decode cX10_room 29 = .ok (.iaload, 1) := by decide +kernel
theorem dX10_room_30 : decode cX10_room 30 = .ok (.aload_n 0, 1) := by decide +kernel
theorem dX10_room_31 : decode cX10_room 31 = .ok (.getfield 29, 3) := by decide +kernel
theorem dX10_room_34 : decode cX10_room 34 = .ok (.iconst 0, 1) := by decide +kernel
theorem dX10_room_35 : decode cX10_room 35 = .ok (.invokestatic 175, 3) := by decide +kernel
theorem dX10_room_38 : decode cX10_room 38 = .ok (.isub, 1) := by decide +kernel
theorem dX10_room_39 : decode cX10_room 39 = .ok (.iconst 3, 1) := by decide +kernel
theorem dX10_room_40 : decode cX10_room 40 = .ok (.iload_n 1, 1) := by decide +kernel
theorem dX10_room_41 : decode cX10_room 41 = .ok (.iadd, 1) := by decide +kernel
theorem dX10_room_42 : decode cX10_room 42 = .ok (.idiv, 1) := by decide +kernel
theorem dX10_room_43 : decode cX10_room 43 = .ok (.goto 4, 3) := by decide +kernel
theorem dX10_room_46 : decode cX10_room 46 = .ok (.iconst (-1), 1) := by decide +kernel
theorem dX10_room_47 : decode cX10_room 47 = .ok (.ireturn, 1) := by decide +kernel
theorem dX10_areSet_0 : decode cX10_areSet 0 = .ok (.iload_n 1, 1) := by decide +kernel
theorem dX10_areSet_1 : decode cX10_areSet 1 = .ok (.iconst (-1), 1) := by decide +kernel
theorem dX10_areSet_2 : decode cX10_areSet 2 = .ok (.if_icmp .eq 8, 3) := by decide +kernel
theorem dX10_areSet_5 : decode cX10_areSet 5 = .ok (.iload_n 2, 1) := by decide +kernel
theorem dX10_areSet_6 : decode cX10_areSet 6 = .ok (.iconst (-1), 1) := by decide +kernel
theorem dX10_areSet_7 : decode cX10_areSet 7 = .ok (.if_icmp .ne 14, 3) := by decide +kernel
theorem dX10_areSet_10 : decode cX10_areSet 10 = .ok (.iload_n 1, 1) := by decide +kernel
theorem dX10_areSet_11 : decode cX10_areSet 11 = .ok (.iload_n 2, 1) := by decide +kernel
theorem dX10_areSet_12 : decode cX10_areSet 12 = .ok (.if_icmp .ne 7, 3) := by decide +kernel
theorem dX10_areSet_15 : decode cX10_areSet 15 = .ok (.iconst 1, 1) := by decide +kernel
theorem dX10_areSet_16 : decode cX10_areSet 16 = .ok (.goto 4, 3) := by decide +kernel
theorem dX10_areSet_19 : decode cX10_areSet 19 = .ok (.iconst 0, 1) := by decide +kernel
theorem dX10_areSet_20 : decode cX10_areSet 20 = .ok (.ireturn, 1) := by decide +kernel
theorem dX10_areSet_21 : decode cX10_areSet 21 = .ok (.aload_n 0, 1) := by decide +kernel
theorem dX10_areSet_22 : decode cX10_areSet 22 = .ok (.getfield 67, 3) := by decide +kernel
theorem dX10_areSet_25 : decode cX10_areSet 25 = .ok (.iload_n 1, 1) := by decide +kernel
theorem dX10_areSet_26 : decode cX10_areSet 26 = .ok (.iaload, 1) := by decide +kernel
theorem dX10_areSet_27 : decode cX10_areSet 27 = .ok (.iconst (-1), 1) := by decide +kernel
theorem dX10_areSet_28 : decode cX10_areSet 28 = .ok (.if_icmp .ne 13, 3) := by decide +kernel
theorem dX10_areSet_31 : decode cX10_areSet 31 = .ok (.aload_n 0, 1) := by decide +kernel
theorem dX10_areSet_32 : decode cX10_areSet 32 = .ok (.getfield 70, 3) := by decide +kernel
theorem dX10_areSet_35 : decode cX10_areSet 35 = .ok (.iload_n 2, 1) := by decide +kernel
theorem dX10_areSet_36 : decode cX10_areSet 36 = .ok (.iaload, 1) := by decide +kernel
theorem dX10_areSet_37 : decode cX10_areSet 37 = .ok (.iconst (-1), 1) := by decide +kernel
theorem dX10_areSet_38 : decode cX10_areSet 38 = .ok (.if_icmp .eq 29, 3) := by decide +kernel
theorem dX10_areSet_41 : decode cX10_areSet 41 = .ok (.aload_n 0, 1) := by decide +kernel
theorem dX10_areSet_42 : decode cX10_areSet 42 = .ok (.getfield 67, 3) := by decide +kernel
theorem dX10_areSet_45 : decode cX10_areSet 45 = .ok (.iload_n 1, 1) := by decide +kernel
theorem dX10_areSet_46 : decode cX10_areSet 46 = .ok (.iaload, 1) := by decide +kernel
theorem dX10_areSet_47 : decode cX10_areSet 47 = .ok (.iload_n 2, 1) := by decide +kernel
theorem dX10_areSet_48 : decode cX10_areSet 48 = .ok (.if_icmp .ne 17, 3) := by decide +kernel
theorem dX10_areSet_51 : decode cX10_areSet 51 = .ok (.aload_n 0, 1) := by decide +kernel
theorem dX10_areSet_52 : decode cX10_areSet 52 = .ok (.getfield 70, 3) := by decide +kernel
theorem dX10_areSet_55 : decode cX10_areSet 55 = .ok (.iload_n 2, 1) := by decide +kernel
theorem dX10_areSet_56 : decode cX10_areSet 56 = .ok (.iaload, 1) := by decide +kernel
theorem dX10_areSet_57 : decode cX10_areSet 57 = .ok (.iload_n 1, 1) := by decide +kernel
theorem dX10_areSet_58 : decode cX10_areSet 58 = .ok (.if_icmp .ne 7, 3) := by decide +kernel
theorem dX10_areSet_61 : decode cX10_areSet 61 = .ok (.iconst 1, 1) := by decide +kernel
theorem dX10_areSet_62 : decode cX10_areSet 62 = .ok (.goto 4, 3) := by decide +kernel
theorem dX10_areSet_65 : decode cX10_areSet 65 = .ok (.iconst 0, 1) := by decide +kernel
theorem dX10_areSet_66 : decode cX10_areSet 66 = .ok (.ireturn, 1) := by decide +kernel
theorem dX10_areSet_67 : decode cX10_areSet 67 = .ok (.aload_n 0, 1) := by decide +kernel
theorem dX10_areSet_68 : decode cX10_areSet 68 = .ok (.getfield 29, 3) := by decide +kernel
theorem dX10_areSet_71 : decode cX10_areSet 71 = .ok (.iload_n 1, 1) := by decide +kernel
theorem dX10_areSet_72 : decode cX10_areSet 72 = .ok (.iconst 1, 1) := by decide +kernel
theorem dX10_areSet_73 : decode cX10_areSet 73 = .ok (.invokestatic 167, 3) := by decide +kernel
theorem dX10_areSet_76 : decode cX10_areSet 76 = .ok (.aload_n 0, 1) := by decide +kernel
theorem dX10_areSet_77 : decode cX10_areSet 77 = .ok (.getfield 29, 3) := by decide +kernel
theorem dX10_areSet_80 : decode cX10_areSet 80 = .ok (.iload_n 2, 1) := by decide +kernel
theorem dX10_areSet_81 : decode cX10_areSet 81 = .ok (.iconst 1, 1) := by decide +kernel
theorem dX10_areSet_82 : decode cX10_areSet 82 = .ok (.invokestatic 167, 3) := by decide +kernel
theorem dX10_areSet_85 : decode cX10_areSet 85 = .ok (.if_icmp .ne 45, 3) := by decide +kernel
theorem dX10_areSet_88 : decode cX10_areSet 88 = .ok (.aload_n 0, 1) := by decide +kernel
theorem dX10_areSet_89 : decode cX10_areSet 89 = .ok (.getfield 29, 3) := by decide +kernel
theorem dX10_areSet_92 : decode cX10_areSet 92 = .ok (.iload_n 1, 1) := by decide +kernel
theorem dX10_areSet_93 : decode cX10_areSet 93 = .ok (.iconst 3, 1) := by decide +kernel
theorem dX10_areSet_94 : decode cX10_areSet 94 = .ok (.invokestatic 167, 3) := by decide +kernel
theorem dX10_areSet_97 : decode cX10_areSet 97 = .ok (.aload_n 0, 1) := by decide +kernel
theorem dX10_areSet_98 : decode cX10_areSet 98 = .ok (.getfield 29, 3) := by decide +kernel
theorem dX10_areSet_101 : decode cX10_areSet 101 = .ok (.iload_n 2, 1) := by decide +kernel
theorem dX10_areSet_102 : decode cX10_areSet 102 = .ok (.iconst 3, 1) := by decide +kernel
theorem dX10_areSet_103 : decode cX10_areSet 103 = .ok (.invokestatic 167, 3) := by decide +kernel
theorem dX10_areSet_106 : decode cX10_areSet 106 = .ok (.if_icmp .ne 24, 3) := by decide +kernel
theorem dX10_areSet_109 : decode cX10_areSet 109 = .ok (.aload_n 0, 1) := by decide +kernel
theorem dX10_areSet_110 : decode cX10_areSet 110 = .ok (.getfield 29, 3) := by decide +kernel
theorem dX10_areSet_113 : decode cX10_areSet 113 = .ok (.iload_n 1, 1) := by decide +kernel
theorem dX10_areSet_114 : decode cX10_areSet 114 = .ok (.iconst 2, 1) := by decide +kernel
theorem dX10_areSet_115 : decode cX10_areSet 115 = .ok (.invokestatic 167, 3) := by decide +kernel
theorem dX10_areSet_118 : decode cX10_areSet 118 = .ok (.aload_n 0, 1) := by decide +kernel
theorem dX10_areSet_119 : decode cX10_areSet 119 = .ok (.getfield 29, 3) := by decide +kernel
theorem dX10_areSet_122 : decode cX10_areSet 122 = .ok (.iload_n 2, 1) := by decide +kernel
theorem dX10_areSet_123 : decode cX10_areSet 123 = .ok (.iconst 2, 1) := by decide +kernel
theorem dX10_areSet_124 : decode cX10_areSet 124 = .ok (.invokestatic 167, 3) := by decide +kernel
theorem dX10_areSet_127 : decode cX10_areSet 127 = .ok (.if_icmp .eq 5, 3) := by decide +kernel
theorem dX10_areSet_130 : decode cX10_areSet 130 = .ok (.iconst 0, 1) := by decide +kernel
theorem dX10_areSet_131 : decode cX10_areSet 131 = .ok (.ireturn, 1) := by decide +kernel
theorem dX10_areSet_132 : decode cX10_areSet 132 = .ok (.aload_n 0, 1) := by decide +kernel
theorem dX10_areSet_133 : decode cX10_areSet 133 = .ok (.getfield 67, 3) := by decide +kernel
theorem dX10_areSet_136 : decode cX10_areSet 136 = .ok (.iload_n 1, 1) := by decide +kernel
theorem dX10_areSet_137 : decode cX10_areSet 137 = .ok (.iload_n 2, 1) := by decide +kernel
theorem dX10_areSet_138 : decode cX10_areSet 138 = .ok (.iastore, 1) := by decide +kernel
theorem dX10_areSet_139 : decode cX10_areSet 139 = .ok (.aload_n 0, 1) := by decide +kernel
theorem dX10_areSet_140 : decode cX10_areSet 140 = .ok (.getfield 70, 3) := by decide +kernel
theorem dX10_areSet_143 : decode cX10_areSet 143 = .ok (.iload_n 2, 1) := by decide +kernel
theorem dX10_areSet_144 : decode cX10_areSet 144 = .ok (.iload_n 1, 1) := by decide +kernel
theorem dX10_areSet_145 : decode cX10_areSet 145 = .ok (.iastore, 1) := by decide +kernel
theorem dX10_areSet_146 : decode cX10_areSet 146 = .ok (.aload_n 0, 1) := by decide +kernel
theorem dX10_areSet_147 : decode cX10_areSet 147 = .ok (.getfield 49, 3) := by decide +kernel
theorem dX10_areSet_150 : decode cX10_areSet 150 = .ok (.aload_n 0, 1) := by decide +kernel
theorem dX10_areSet_151 : decode cX10_areSet 151 = .ok (.getfield 195, 3) := by decide +kernel
theorem dX10_areSet_154 : decode cX10_areSet 154 = .ok (.iload_n 1, 1) := by decide +kernel
theorem dX10_areSet_155 : decode cX10_areSet 155 = .ok (.iastore, 1) := by decide +kernel
theorem dX10_areSet_156 : decode cX10_areSet 156 = .ok (.aload_n 0, 1) := by decide +kernel
theorem dX10_areSet_157 : decode cX10_areSet 157 = .ok (.dup, 1) := by decide +kernel
theorem dX10_areSet_158 : decode cX10_areSet 158 = .ok (.getfield 195, 3) := by decide +kernel
theorem dX10_areSet_161 : decode cX10_areSet 161 = .ok (.iconst 1, 1) := by decide +kernel
theorem dX10_areSet_162 : decode cX10_areSet 162 = .ok (.iadd, 1) := by decide +kernel
theorem dX10_areSet_163 : decode cX10_areSet 163 = .ok (.putfield 195, 3) := by decide +kernel
theorem dX10_areSet_166 : decode cX10_areSet 166 = .ok (.iconst 1, 1) := by decide +kernel
theorem dX10_areSet_167 : decode cX10_areSet 167 = .ok (.ireturn, 1) := by decide +kernel
theorem dX10_alike_0 : decode cX10_alike 0 = .ok (.aload_n 0, 1) := by decide +kernel
theorem dX10_alike_1 : decode cX10_alike 1 = .ok (.iconst 0, 1) := by decide +kernel
theorem dX10_alike_2 : decode cX10_alike 2 = .ok (.putfield 73, 3) := by decide +kernel
theorem dX10_alike_5 : decode cX10_alike 5 = .ok (.aload_n 0, 1) := by decide +kernel
theorem dX10_alike_6 : decode cX10_alike 6 = .ok (.iload_n 1, 1) := by decide +kernel
theorem dX10_alike_7 : decode cX10_alike 7 = .ok (.invokevirtual 277, 3) := by decide +kernel
theorem dX10_alike_10 : decode cX10_alike 10 = .ok (.ifCond .eq 37, 3) := by decide +kernel
theorem dX10_alike_13 : decode cX10_alike 13 = .ok (.aload_n 0, 1) := by decide +kernel
theorem dX10_alike_14 : decode cX10_alike 14 = .ok (.iload_n 2, 1) := by decide +kernel
theorem dX10_alike_15 : decode cX10_alike 15 = .ok (.invokevirtual 277, 3) := by decide +kernel
theorem dX10_alike_18 : decode cX10_alike 18 = .ok (.ifCond .eq 29, 3) := by decide +kernel
theorem dX10_alike_21 : decode cX10_alike 21 = .ok (.aload_n 0, 1) := by decide +kernel
theorem dX10_alike_22 : decode cX10_alike 22 = .ok (.getfield 29, 3) := by decide +kernel
theorem dX10_alike_25 : decode cX10_alike 25 = .ok (.sipush 881, 3) := by decide +kernel
theorem dX10_alike_28 : decode cX10_alike 28 = .ok (.iload_n 1, 1) := by decide +kernel
theorem dX10_alike_29 : decode cX10_alike 29 = .ok (.iadd, 1) := by decide +kernel
theorem dX10_alike_30 : decode cX10_alike 30 = .ok (.iaload, 1) := by decide +kernel
theorem dX10_alike_31 : decode cX10_alike 31 = .ok (.ifCond .eq 16, 3) := by decide +kernel
theorem dX10_alike_34 : decode cX10_alike 34 = .ok (.aload_n 0, 1) := by decide +kernel
theorem dX10_alike_35 : decode cX10_alike 35 = .ok (.getfield 29, 3) := by decide +kernel
theorem dX10_alike_38 : decode cX10_alike 38 = .ok (.sipush 881, 3) := by decide +kernel
theorem dX10_alike_41 : decode cX10_alike 41 = .ok (.iload_n 2, 1) := by decide +kernel
theorem dX10_alike_42 : decode cX10_alike 42 = .ok (.iadd, 1) := by decide +kernel
theorem dX10_alike_43 : decode cX10_alike 43 = .ok (.iaload, 1) := by decide +kernel
theorem dX10_alike_44 : decode cX10_alike 44 = .ok (.ifCond .ne 5, 3) := by decide +kernel
theorem dX10_alike_47 : decode cX10_alike 47 = .ok (.iconst 0, 1) := by decide +kernel
theorem dX10_alike_48 : decode cX10_alike 48 = .ok (.ireturn, 1) := by decide +kernel
theorem dX10_alike_49 : decode cX10_alike 49 = .ok (.iconst 0, 1) := by decide +kernel
theorem dX10_alike_50 : decode cX10_alike 50 = .ok (.istore_n 3, 1) := by decide +kernel
theorem dX10_alike_51 : decode cX10_alike 51 = .ok (.iload_n 3, 1) := by decide +kernel
theorem dX10_alike_52 : decode cX10_alike 52 = .ok (.bipush 80, 2) := by decide +kernel
theorem dX10_alike_54 : decode cX10_alike 54 = .ok (.if_icmp .ge 23, 3) := by decide +kernel
theorem dX10_alike_57 : decode cX10_alike 57 = .ok (.aload_n 0, 1) := by decide +kernel
theorem dX10_alike_58 : decode cX10_alike 58 = .ok (.getfield 67, 3) := by decide +kernel
theorem dX10_alike_61 : decode cX10_alike 61 = .ok (.iload_n 3, 1) := by decide +kernel
theorem dX10_alike_62 : decode cX10_alike 62 = .ok (.iconst (-1), 1) := by decide +kernel
theorem dX10_alike_63 : decode cX10_alike 63 = .ok (.iastore, 1) := by decide +kernel
theorem dX10_alike_64 : decode cX10_alike 64 = .ok (.aload_n 0, 1) := by decide +kernel
theorem dX10_alike_65 : decode cX10_alike 65 = .ok (.getfield 70, 3) := by decide +kernel
theorem dX10_alike_68 : decode cX10_alike 68 = .ok (.iload_n 3, 1) := by decide +kernel
theorem dX10_alike_69 : decode cX10_alike 69 = .ok (.iconst (-1), 1) := by decide +kernel
theorem dX10_alike_70 : decode cX10_alike 70 = .ok (.iastore, 1) := by decide +kernel
theorem dX10_alike_71 : decode cX10_alike 71 = .ok (.iinc 3 1, 3) := by decide +kernel
theorem dX10_alike_74 : decode cX10_alike 74 = .ok (.goto (-23), 3) := by decide +kernel
theorem dX10_alike_77 : decode cX10_alike 77 = .ok (.aload_n 0, 1) := by decide +kernel
theorem dX10_alike_78 : decode cX10_alike 78 = .ok (.iconst 0, 1) := by decide +kernel
theorem dX10_alike_79 : decode cX10_alike 79 = .ok (.putfield 195, 3) := by decide +kernel
theorem dX10_alike_82 : decode cX10_alike 82 = .ok (.aload_n 0, 1) := by decide +kernel
theorem dX10_alike_83 : decode cX10_alike 83 = .ok (.aload_n 0, 1) := by decide +kernel
theorem dX10_alike_84 : decode cX10_alike 84 = .ok (.getfield 29, 3) := by decide +kernel
theorem dX10_alike_87 : decode cX10_alike 87 = .ok (.iload_n 1, 1) := by decide +kernel
theorem dX10_alike_88 : decode cX10_alike 88 = .ok (.invokestatic 291, 3) := by decide +kernel
theorem dX10_alike_91 : decode cX10_alike 91 = .ok (.aload_n 0, 1) := by decide +kernel
theorem dX10_alike_92 : decode cX10_alike 92 = .ok (.getfield 29, 3) := by decide +kernel
theorem dX10_alike_95 : decode cX10_alike 95 = .ok (.iload_n 2, 1) := by decide +kernel
theorem dX10_alike_96 : decode cX10_alike 96 = .ok (.invokestatic 291, 3) := by decide +kernel
theorem dX10_alike_99 : decode cX10_alike 99 = .ok (.invokevirtual 384, 3) := by decide +kernel
theorem dX10_alike_102 : decode cX10_alike 102 = .ok (.ifCond .ne 5, 3) := by decide +kernel
theorem dX10_alike_105 : decode cX10_alike 105 = .ok (.iconst 0, 1) := by decide +kernel
theorem dX10_alike_106 : decode cX10_alike 106 = .ok (.ireturn, 1) := by decide +kernel
theorem dX10_alike_107 : decode cX10_alike 107 = .ok (.iconst 0, 1) := by decide +kernel
theorem dX10_alike_108 : decode cX10_alike 108 = .ok (.istore_n 3, 1) := by decide +kernel
theorem dX10_alike_109 : decode cX10_alike 109 = .ok (.iload_n 3, 1) := by decide +kernel
theorem dX10_alike_110 : decode cX10_alike 110 = .ok (.aload_n 0, 1) := by decide +kernel
theorem dX10_alike_111 : decode cX10_alike 111 = .ok (.getfield 195, 3) := by decide +kernel
theorem dX10_alike_114 : decode cX10_alike 114 = .ok (.if_icmp .ge 101, 3) := by decide +kernel
theorem dX10_alike_117 : decode cX10_alike 117 = .ok (.iconst 0, 1) := by decide +kernel
theorem dX10_alike_118 : decode cX10_alike 118 = .ok (.istore 4, 2) := by decide +kernel
theorem dX10_alike_120 : decode cX10_alike 120 = .ok (.iload 4, 2) := by decide +kernel
theorem dX10_alike_122 : decode cX10_alike 122 = .ok (.aload_n 0, 1) := by decide +kernel
theorem dX10_alike_123 : decode cX10_alike 123 = .ok (.getfield 29, 3) := by decide +kernel
theorem dX10_alike_126 : decode cX10_alike 126 = .ok (.aload_n 0, 1) := by decide +kernel
theorem dX10_alike_127 : decode cX10_alike 127 = .ok (.getfield 49, 3) := by decide +kernel
theorem dX10_alike_130 : decode cX10_alike 130 = .ok (.iload_n 3, 1) := by decide +kernel
theorem dX10_alike_131 : decode cX10_alike 131 = .ok (.iaload, 1) := by decide +kernel
theorem dX10_alike_132 : decode cX10_alike 132 = .ok (.iconst 2, 1) := by decide +kernel
theorem dX10_alike_133 : decode cX10_alike 133 = .ok (.invokestatic 167, 3) := by decide +kernel
theorem dX10_alike_136 : decode cX10_alike 136 = .ok (.if_icmp .ge 73, 3) := by decide +kernel
theorem dX10_alike_139 : decode cX10_alike 139 = .ok (.aload_n 0, 1) := by decide +kernel
theorem dX10_alike_140 : decode cX10_alike 140 = .ok (.aload_n 0, 1) := by decide +kernel
theorem dX10_alike_141 : decode cX10_alike 141 = .ok (.getfield 29, 3) := by decide +kernel
theorem dX10_alike_144 : decode cX10_alike 144 = .ok (.aload_n 0, 1) := by decide +kernel
theorem dX10_alike_145 : decode cX10_alike 145 = .ok (.getfield 29, 3) := by decide +kernel
theorem dX10_alike_148 : decode cX10_alike 148 = .ok (.aload_n 0, 1) := by decide +kernel
theorem dX10_alike_149 : decode cX10_alike 149 = .ok (.getfield 49, 3) := by decide +kernel
theorem dX10_alike_152 : decode cX10_alike 152 = .ok (.iload_n 3, 1) := by decide +kernel
theorem dX10_alike_153 : decode cX10_alike 153 = .ok (.iaload, 1) := by decide +kernel
theorem dX10_alike_154 : decode cX10_alike 154 = .ok (.bipush 7, 2) := by decide +kernel
theorem dX10_alike_156 : decode cX10_alike 156 = .ok (.iload 4, 2) := by decide +kernel
theorem dX10_alike_158 : decode cX10_alike 158 = .ok (.iadd, 1) := by decide +kernel
theorem dX10_alike_159 : decode cX10_alike 159 = .ok (.invokestatic 167, 3) := by decide +kernel
theorem dX10_alike_162 : decode cX10_alike 162 = .ok (.invokestatic 182, 3) := by decide +kernel
theorem dX10_alike_165 : decode cX10_alike 165 = .ok (.aload_n 0, 1) := by decide +kernel
theorem dX10_alike_166 : decode cX10_alike 166 = .ok (.getfield 29, 3) := by decide +kernel
theorem dX10_alike_169 : decode cX10_alike 169 = .ok (.aload_n 0, 1) := by decide +kernel
theorem dX10_alike_170 : decode cX10_alike 170 = .ok (.getfield 29, 3) := by decide +kernel
theorem dX10_alike_173 : decode cX10_alike 173 = .ok (.aload_n 0, 1) := by decide +kernel
theorem dX10_alike_174 : decode cX10_alike 174 = .ok (.getfield 67, 3) := by decide +kernel
theorem dX10_alike_177 : decode cX10_alike 177 = .ok (.aload_n 0, 1) := by decide +kernel
theorem dX10_alike_178 : decode cX10_alike 178 = .ok (.getfield 49, 3) := by decide +kernel
theorem dX10_alike_181 : decode cX10_alike 181 = .ok (.iload_n 3, 1) := by decide +kernel
theorem dX10_alike_182 : decode cX10_alike 182 = .ok (.iaload, 1) := by decide +kernel
theorem dX10_alike_183 : decode cX10_alike 183 = .ok (.iaload, 1) := by decide +kernel
theorem dX10_alike_184 : decode cX10_alike 184 = .ok (.bipush 7, 2) := by decide +kernel
theorem dX10_alike_186 : decode cX10_alike 186 = .ok (.iload 4, 2) := by decide +kernel
theorem dX10_alike_188 : decode cX10_alike 188 = .ok (.iadd, 1) := by decide +kernel
theorem dX10_alike_189 : decode cX10_alike 189 = .ok (.invokestatic 167, 3) := by decide +kernel
theorem dX10_alike_192 : decode cX10_alike 192 = .ok (.invokestatic 182, 3) := by decide +kernel
theorem dX10_alike_195 : decode cX10_alike 195 = .ok (.invokevirtual 384, 3) := by decide +kernel
theorem dX10_alike_198 : decode cX10_alike 198 = .ok (.ifCond .ne 5, 3) := by decide +kernel
theorem dX10_alike_201 : decode cX10_alike 201 = .ok (.iconst 0, 1) := by decide +kernel
theorem dX10_alike_202 : decode cX10_alike 202 = .ok (.ireturn, 1) := by decide +kernel
theorem dX10_alike_203 : decode cX10_alike 203 = .ok (.iinc 4 1, 3) := by decide +kernel
theorem dX10_alike_206 : decode cX10_alike 206 = .ok (.goto (-86), 3) := by decide +kernel
theorem dX10_alike_209 : decode cX10_alike 209 = .ok (.iinc 3 1, 3) := by decide +kernel
theorem dX10_alike_212 : decode cX10_alike 212 = .ok (.goto (-103), 3) := by decide +kernel
theorem dX10_alike_215 : decode cX10_alike 215 = .ok (.iconst 1, 1) := by decide +kernel
theorem dX10_alike_216 : decode cX10_alike 216 = .ok (.ireturn, 1) := by decide +kernel
theorem dX10_until_0 : decode cX10_until 0 = .ok (.aload_n 0, 1) := by decide +kernel
theorem dX10_until_1 : decode cX10_until 1 = .ok (.iconst 0, 1) := by decide +kernel
theorem dX10_until_2 : decode cX10_until 2 = .ok (.putfield 73, 3) := by decide +kernel
theorem dX10_until_5 : decode cX10_until 5 = .ok (.iload_n 1, 1) := by decide +kernel
theorem dX10_until_6 : decode cX10_until 6 = .ok (.iconst 1, 1) := by decide +kernel
theorem dX10_until_7 : decode cX10_until 7 = .ok (.if_icmp .lt 15, 3) := by decide +kernel
theorem dX10_until_10 : decode cX10_until 10 = .ok (.aload_n 0, 1) := by decide +kernel
theorem dX10_until_11 : decode cX10_until 11 = .ok (.getfield 29, 3) := by decide +kernel
theorem dX10_until_14 : decode cX10_until 14 = .ok (.iload_n 1, 1) := by decide +kernel
theorem dX10_until_15 : decode cX10_until 15 = .ok (.invokestatic 182, 3) := by decide +kernel
theorem dX10_until_18 : decode cX10_until 18 = .ok (.iconst (-1), 1) := by decide +kernel
theorem dX10_until_19 : decode cX10_until 19 = .ok (.if_icmp .ne 5, 3) := by decide +kernel
theorem dX10_until_22 : decode cX10_until 22 = .ok (.iconst (-1), 1) := by decide +kernel
theorem dX10_until_23 : decode cX10_until 23 = .ok (.ireturn, 1) := by decide +kernel
theorem dX10_until_24 : decode cX10_until 24 = .ok (.aload_n 0, 1) := by decide +kernel
theorem dX10_until_25 : decode cX10_until 25 = .ok (.getfield 29, 3) := by decide +kernel
theorem dX10_until_28 : decode cX10_until 28 = .ok (.iconst 0, 1) := by decide +kernel
theorem dX10_until_29 : decode cX10_until 29 = .ok (.aload_n 0, 1) := by decide +kernel
theorem dX10_until_30 : decode cX10_until 30 = .ok (.getfield 32, 3) := by decide +kernel
theorem dX10_until_33 : decode cX10_until 33 = .ok (.iconst 0, 1) := by decide +kernel
theorem dX10_until_34 : decode cX10_until 34 = .ok (.invokestatic 232, 3) := by decide +kernel
theorem dX10_until_37 : decode cX10_until 37 = .ok (.iconst 0, 1) := by decide +kernel
theorem dX10_until_38 : decode cX10_until 38 = .ok (.istore_n 2, 1) := by decide +kernel
theorem dX10_until_39 : decode cX10_until 39 = .ok (.iload_n 2, 1) := by decide +kernel
theorem dX10_until_40 : decode cX10_until 40 = .ok (.bipush 9, 2) := by decide +kernel
theorem dX10_until_42 : decode cX10_until 42 = .ok (.if_icmp .gt 57, 3) := by decide +kernel
theorem dX10_until_45 : decode cX10_until 45 = .ok (.aload_n 0, 1) := by decide +kernel
theorem dX10_until_46 : decode cX10_until 46 = .ok (.getfield 32, 3) := by decide +kernel
theorem dX10_until_49 : decode cX10_until 49 = .ok (.iload_n 1, 1) := by decide +kernel
theorem dX10_until_50 : decode cX10_until 50 = .ok (.invokestatic 182, 3) := by decide +kernel
theorem dX10_until_53 : decode cX10_until 53 = .ok (.istore_n 3, 1) := by decide +kernel
theorem dX10_until_54 : decode cX10_until 54 = .ok (.iload_n 3, 1) := by decide +kernel
theorem dX10_until_55 : decode cX10_until 55 = .ok (.iconst (-1), 1) := by decide +kernel
theorem dX10_until_56 : decode cX10_until 56 = .ok (.if_icmp .ne 5, 3) := by decide +kernel
theorem dX10_until_59 : decode cX10_until 59 = .ok (.iconst (-1), 1) := by decide +kernel
theorem dX10_until_60 : decode cX10_until 60 = .ok (.ireturn, 1) := by decide +kernel
theorem dX10_until_61 : decode cX10_until 61 = .ok (.aload_n 0, 1) := by decide +kernel
theorem dX10_until_62 : decode cX10_until 62 = .ok (.getfield 32, 3) := by decide +kernel
theorem dX10_until_65 : decode cX10_until 65 = .ok (.iload_n 3, 1) := by decide +kernel
theorem dX10_until_66 : decode cX10_until 66 = .ok (.invokestatic 184, 3) := by decide +kernel
theorem dX10_until_69 : decode cX10_until 69 = .ok (.ifCond .eq 5, 3) := by decide +kernel
theorem dX10_until_72 : decode cX10_until 72 = .ok (.iload_n 2, 1) := by decide +kernel
theorem dX10_until_73 : decode cX10_until 73 = .ok (.ireturn, 1) := by decide +kernel
theorem dX10_until_74 : decode cX10_until 74 = .ok (.iload_n 2, 1) := by decide +kernel
theorem dX10_until_75 : decode cX10_until 75 = .ok (.bipush 9, 2) := by decide +kernel
theorem dX10_until_77 : decode cX10_until 77 = .ok (.if_icmp .eq 14, 3) := by decide +kernel
theorem dX10_until_80 : decode cX10_until 80 = .ok (.aload_n 0, 1) := by decide +kernel
theorem dX10_until_81 : decode cX10_until 81 = .ok (.aload_n 0, 1) := by decide +kernel
theorem dX10_until_82 : decode cX10_until 82 = .ok (.getfield 32, 3) := by decide +kernel
theorem dX10_until_85 : decode cX10_until 85 = .ok (.invokevirtual 311, 3) := by decide +kernel
theorem dX10_until_88 : decode cX10_until 88 = .ok (.ifCond .ne 5, 3) := by decide +kernel
theorem dX10_until_91 : decode cX10_until 91 = .ok (.iconst (-1), 1) := by decide +kernel
theorem dX10_until_92 : decode cX10_until 92 = .ok (.ireturn, 1) := by decide +kernel
theorem dX10_until_93 : decode cX10_until 93 = .ok (.iinc 2 1, 3) := by decide +kernel
theorem dX10_until_96 : decode cX10_until 96 = .ok (.goto (-57), 3) := by decide +kernel
theorem dX10_until_99 : decode cX10_until 99 = .ok (.iconst (-1), 1) := by decide +kernel
theorem dX10_until_100 : decode cX10_until 100 = .ok (.ireturn, 1) := by decide +kernel
theorem dX10_garbage_0 : decode cX10_garbage 0 = .ok (.aload_n 0, 1) := by decide +kernel
theorem dX10_garbage_1 : decode cX10_garbage 1 = .ok (.iconst 0, 1) := by decide +kernel
theorem dX10_garbage_2 : decode cX10_garbage 2 = .ok (.putfield 73, 3) := by decide +kernel
theorem dX10_garbage_5 : decode cX10_garbage 5 = .ok (.aload_n 0, 1) := by decide +kernel
theorem dX10_garbage_6 : decode cX10_garbage 6 = .ok (.getfield 157, 3) := by decide +kernel
theorem dX10_garbage_9 : decode cX10_garbage 9 = .ok (.ifCond .eq 15, 3) := by decide +kernel
theorem dX10_garbage_12 : decode cX10_garbage 12 = .ok (.iload_n 1, 1) := by decide +kernel
theorem dX10_garbage_13 : decode cX10_garbage 13 = .ok (.i2l, 1) := by decide +kernel
theorem dX10_garbage_14 : decode cX10_garbage 14 = .ok (.lconst 0, 1) := by decide +kernel
theorem dX10_garbage_15 : decode cX10_garbage 15 = .ok (.ldc2_w 281, 3) := by decide +kernel
theorem dX10_garbage_18 : decode cX10_garbage 18 = .ok (.invokestatic 134, 3) := by decide +kernel
theorem dX10_garbage_21 : decode cX10_garbage 21 = .ok (.ifCond .ne 5, 3) := by decide +kernel
theorem dX10_garbage_24 : decode cX10_garbage 24 = .ok (.iconst (-1), 1) := by decide +kernel
theorem dX10_garbage_25 : decode cX10_garbage 25 = .ok (.ireturn, 1) := by decide +kernel
theorem dX10_garbage_26 : decode cX10_garbage 26 = .ok (.aload_n 0, 1) := by decide +kernel
theorem dX10_garbage_27 : decode cX10_garbage 27 = .ok (.aload_n 0, 1) := by decide +kernel
theorem dX10_garbage_28 : decode cX10_garbage 28 = .ok (.getfield 29, 3) := by decide +kernel
theorem dX10_garbage_31 : decode cX10_garbage 31 = .ok (.iconst (-1), 1) := by decide +kernel
theorem dX10_garbage_32 : decode cX10_garbage 32 = .ok (.iconst 1, 1) := by decide +kernel
theorem dX10_garbage_33 : decode cX10_garbage 33 = .ok (.invokevirtual 268, 3) := by decide +kernel
theorem dX10_garbage_36 : decode cX10_garbage 36 = .ok (.iconst 0, 1) := by decide +kernel
theorem dX10_garbage_37 : decode cX10_garbage 37 = .ok (.istore_n 2, 1) := by decide +kernel
theorem dX10_garbage_38 : decode cX10_garbage 38 = .ok (.iconst 0, 1) := by decide +kernel
theorem dX10_garbage_39 : decode cX10_garbage 39 = .ok (.istore_n 3, 1) := by decide +kernel
theorem dX10_garbage_40 : decode cX10_garbage 40 = .ok (.iload_n 3, 1) := by decide +kernel
theorem dX10_garbage_41 : decode cX10_garbage 41 = .ok (.aload_n 0, 1) := by decide +kernel
theorem dX10_garbage_42 : decode cX10_garbage 42 = .ok (.getfield 29, 3) := by decide +kernel
theorem dX10_garbage_45 : decode cX10_garbage 45 = .ok (.iconst 0, 1) := by decide +kernel
theorem dX10_garbage_46 : decode cX10_garbage 46 = .ok (.iaload, 1) := by decide +kernel
theorem dX10_garbage_47 : decode cX10_garbage 47 = .ok (.if_icmp .ge 46, 3) := by decide +kernel
theorem dX10_garbage_50 : decode cX10_garbage 50 = .ok (.iload_n 2, 1) := by decide +kernel
theorem dX10_garbage_51 : decode cX10_garbage 51 = .ok (.aload_n 0, 1) := by decide +kernel
theorem dX10_garbage_52 : decode cX10_garbage 52 = .ok (.getfield 45, 3) := by decide +kernel
theorem dX10_garbage_55 : decode cX10_garbage 55 = .ok (.iload_n 3, 1) := by decide +kernel
theorem dX10_garbage_56 : decode cX10_garbage 56 = .ok (.baload, 1) := by decide +kernel
theorem dX10_garbage_57 : decode cX10_garbage 57 = .ok (.ifCond .ne 27, 3) := by decide +kernel
theorem dX10_garbage_60 : decode cX10_garbage 60 = .ok (.aload_n 0, 1) := by decide +kernel
theorem dX10_garbage_61 : decode cX10_garbage 61 = .ok (.getfield 29, 3) := by decide +kernel
theorem dX10_garbage_64 : decode cX10_garbage 64 = .ok (.iload_n 3, 1) := by decide +kernel
theorem dX10_garbage_65 : decode cX10_garbage 65 = .ok (.iconst 5, 1) := by decide +kernel
theorem dX10_garbage_66 : decode cX10_garbage 66 = .ok (.invokestatic 167, 3) := by decide +kernel
theorem dX10_garbage_69 : decode cX10_garbage 69 = .ok (.iload_n 1, 1) := by decide +kernel
theorem dX10_garbage_70 : decode cX10_garbage 70 = .ok (.if_icmp .ne 14, 3) := by decide +kernel
theorem dX10_garbage_73 : decode cX10_garbage 73 = .ok (.aload_n 0, 1) := by decide +kernel
theorem dX10_garbage_74 : decode cX10_garbage 74 = .ok (.getfield 29, 3) := by decide +kernel
theorem dX10_garbage_77 : decode cX10_garbage 77 = .ok (.iload_n 3, 1) := by decide +kernel
theorem dX10_garbage_78 : decode cX10_garbage 78 = .ok (.invokestatic 171, 3) := by decide +kernel
theorem dX10_garbage_81 : decode cX10_garbage 81 = .ok (.goto 4, 3) := by decide +kernel
theorem dX10_garbage_84 : decode cX10_garbage 84 = .ok (.iconst 0, 1) := by decide +kernel
theorem dX10_garbage_85 : decode cX10_garbage 85 = .ok (.iadd, 1) := by decide +kernel
theorem dX10_garbage_86 : decode cX10_garbage 86 = .ok (.istore_n 2, 1) := by decide +kernel
theorem dX10_garbage_87 : decode cX10_garbage 87 = .ok (.iinc 3 1, 3) := by decide +kernel
theorem dX10_garbage_90 : decode cX10_garbage 90 = .ok (.goto (-50), 3) := by decide +kernel
theorem dX10_garbage_93 : decode cX10_garbage 93 = .ok (.iload_n 2, 1) := by decide +kernel
theorem dX10_garbage_94 : decode cX10_garbage 94 = .ok (.ireturn, 1) := by decide +kernel
theorem dX10_isScript_0 : decode cX10_isScript 0 = .ok (.iload_n 1, 1) := by decide +kernel
theorem dX10_isScript_1 : decode cX10_isScript 1 = .ok (.i2l, 1) := by decide +kernel
theorem dX10_isScript_2 : decode cX10_isScript 2 = .ok (.lconst 0, 1) := by decide +kernel
theorem dX10_isScript_3 : decode cX10_isScript 3 = .ok (.aload_n 0, 1) := by decide +kernel
theorem dX10_isScript_4 : decode cX10_isScript 4 = .ok (.getfield 152, 3) := by decide +kernel
theorem dX10_isScript_7 : decode cX10_isScript 7 = .ok (.iconst 1, 1) := by decide +kernel
theorem dX10_isScript_8 : decode cX10_isScript 8 = .ok (.isub, 1) := by decide +kernel
theorem dX10_isScript_9 : decode cX10_isScript 9 = .ok (.i2l, 1) := by decide +kernel
theorem dX10_isScript_10 : decode cX10_isScript 10 = .ok (.invokestatic 134, 3) := by decide +kernel
theorem dX10_isScript_13 : decode cX10_isScript 13 = .ok (.ireturn, 1) := by decide +kernel
theorem dX10_step_0 : decode cX10_step 0 = .ok (.aload_n 0, 1) := by decide +kernel
theorem dX10_step_1 : decode cX10_step 1 = .ok (.iconst 0, 1) := by decide +kernel
theorem dX10_step_2 : decode cX10_step 2 = .ok (.putfield 73, 3) := by decide +kernel
theorem dX10_step_5 : decode cX10_step 5 = .ok (.aload_n 0, 1) := by decide +kernel
theorem dX10_step_6 : decode cX10_step 6 = .ok (.iload_n 1, 1) := by decide +kernel
theorem dX10_step_7 : decode cX10_step 7 = .ok (.invokevirtual 387, 3) := by decide +kernel
theorem dX10_step_10 : decode cX10_step 10 = .ok (.ifCond .eq 33, 3) := by decide +kernel
theorem dX10_step_13 : decode cX10_step 13 = .ok (.iload_n 2, 1) := by decide +kernel
theorem dX10_step_14 : decode cX10_step 14 = .ok (.i2l, 1) := by decide +kernel
theorem dX10_step_15 : decode cX10_step 15 = .ok (.lconst 0, 1) := by decide +kernel
theorem dX10_step_16 : decode cX10_step 16 = .ok (.aload_n 0, 1) := by decide +kernel
theorem dX10_step_17 : decode cX10_step 17 = .ok (.getfield 26, 3) := by decide +kernel
theorem dX10_step_20 : decode cX10_step 20 = .ok (.iload_n 1, 1) := by decide +kernel
theorem dX10_step_21 : decode cX10_step 21 = .ok (.iaload, 1) := by decide +kernel
theorem dX10_step_22 : decode cX10_step 22 = .ok (.iconst 1, 1) := by decide +kernel
theorem dX10_step_23 : decode cX10_step 23 = .ok (.isub, 1) := by decide +kernel
theorem dX10_step_24 : decode cX10_step 24 = .ok (.i2l, 1) := by decide +kernel
theorem dX10_step_25 : decode cX10_step 25 = .ok (.invokestatic 134, 3) := by decide +kernel
theorem dX10_step_28 : decode cX10_step 28 = .ok (.ifCond .eq 15, 3) := by decide +kernel
theorem dX10_step_31 : decode cX10_step 31 = .ok (.iload_n 3, 1) := by decide +kernel
theorem dX10_step_32 : decode cX10_step 32 = .ok (.i2l, 1) := by decide +kernel
theorem dX10_step_33 : decode cX10_step 33 = .ok (.lconst 0, 1) := by decide +kernel
theorem dX10_step_34 : decode cX10_step 34 = .ok (.ldc2_w 283, 3) := by decide +kernel
theorem dX10_step_37 : decode cX10_step 37 = .ok (.invokestatic 134, 3) := by decide +kernel
theorem dX10_step_40 : decode cX10_step 40 = .ok (.ifCond .ne 7, 3) := by decide +kernel
theorem dX10_step_43 : decode cX10_step 43 = .ok (.ldc_w 369, 3) := by decide +kernel
theorem dX10_step_46 : decode cX10_step 46 = .ok (.ireturn, 1) := by decide +kernel
theorem dX10_step_47 : decode cX10_step 47 = .ok (.aload_n 0, 1) := by decide +kernel
theorem dX10_step_48 : decode cX10_step 48 = .ok (.getfield 23, 3) := by decide +kernel
theorem dX10_step_51 : decode cX10_step 51 = .ok (.iconst 5, 1) := by decide +kernel
theorem dX10_step_52 : decode cX10_step 52 = .ok (.bipush 16, 2) := by decide +kernel
theorem dX10_step_54 : decode cX10_step 54 = .ok (.iload_n 1, 1) := by decide +kernel
theorem dX10_step_55 : decode cX10_step 55 = .ok (.imul, 1) := by decide +kernel
theorem dX10_step_56 : decode cX10_step 56 = .ok (.iload_n 2, 1) := by decide +kernel
theorem dX10_step_57 : decode cX10_step 57 = .ok (.iadd, 1) := by decide +kernel
theorem dX10_step_58 : decode cX10_step 58 = .ok (.imul, 1) := by decide +kernel
theorem dX10_step_59 : decode cX10_step 59 = .ok (.iload_n 3, 1) := by decide +kernel
theorem dX10_step_60 : decode cX10_step 60 = .ok (.iadd, 1) := by decide +kernel
theorem dX10_step_61 : decode cX10_step 61 = .ok (.iaload, 1) := by decide +kernel
theorem dX10_step_62 : decode cX10_step 62 = .ok (.ireturn, 1) := by decide +kernel
theorem dX10_run_0 : decode cX10_run 0 = .ok (.aload_n 0, 1) := by decide +kernel
theorem dX10_run_1 : decode cX10_run 1 = .ok (.iconst 0, 1) := by decide +kernel
theorem dX10_run_2 : decode cX10_run 2 = .ok (.putfield 73, 3) := by decide +kernel
theorem dX10_run_5 : decode cX10_run 5 = .ok (.aload_n 0, 1) := by decide +kernel
theorem dX10_run_6 : decode cX10_run 6 = .ok (.iload_n 1, 1) := by decide +kernel
theorem dX10_run_7 : decode cX10_run 7 = .ok (.invokevirtual 387, 3) := by decide +kernel
theorem dX10_run_10 : decode cX10_run 10 = .ok (.ifCond .eq 20, 3) := by decide +kernel
theorem dX10_run_13 : decode cX10_run 13 = .ok (.aload_n 0, 1) := by decide +kernel
theorem dX10_run_14 : decode cX10_run 14 = .ok (.getfield 157, 3) := by decide +kernel
theorem dX10_run_17 : decode cX10_run 17 = .ok (.ifCond .eq 13, 3) := by decide +kernel
theorem dX10_run_20 : decode cX10_run 20 = .ok (.iload_n 2, 1) := by decide +kernel
theorem dX10_run_21 : decode cX10_run 21 = .ok (.i2l, 1) := by decide +kernel
theorem dX10_run_22 : decode cX10_run 22 = .ok (.lconst 0, 1) := by decide +kernel
theorem dX10_run_23 : decode cX10_run 23 = .ok (.lconst 1, 1) := by decide +kernel
theorem dX10_run_24 : decode cX10_run 24 = .ok (.invokestatic 134, 3) := by decide +kernel
theorem dX10_run_27 : decode cX10_run 27 = .ok (.ifCond .ne 7, 3) := by decide +kernel
theorem dX10_run_30 : decode cX10_run 30 = .ok (.ldc_w 369, 3) := by decide +kernel
theorem dX10_run_33 : decode cX10_run 33 = .ok (.ireturn, 1) := by decide +kernel
theorem dX10_run_34 : decode cX10_run 34 = .ok (.aload_n 0, 1) := by decide +kernel
theorem dX10_run_35 : decode cX10_run 35 = .ok (.getfield 29, 3) := by decide +kernel
theorem dX10_run_38 : decode cX10_run 38 = .ok (.iconst 0, 1) := by decide +kernel
theorem dX10_run_39 : decode cX10_run 39 = .ok (.aload_n 0, 1) := by decide +kernel
theorem dX10_run_40 : decode cX10_run 40 = .ok (.getfield 32, 3) := by decide +kernel
theorem dX10_run_43 : decode cX10_run 43 = .ok (.iconst 0, 1) := by decide +kernel
theorem dX10_run_44 : decode cX10_run 44 = .ok (.invokestatic 232, 3) := by decide +kernel
theorem dX10_run_47 : decode cX10_run 47 = .ok (.iconst 0, 1) := by decide +kernel
theorem dX10_run_48 : decode cX10_run 48 = .ok (.istore_n 3, 1) := by decide +kernel
theorem dX10_run_49 : decode cX10_run 49 = .ok (.iconst 1, 1) := by decide +kernel
theorem dX10_run_50 : decode cX10_run 50 = .ok (.istore 4, 2) := by decide +kernel
theorem dX10_run_52 : decode cX10_run 52 = .ok (.iload 4, 2) := by decide +kernel
theorem dX10_run_54 : decode cX10_run 54 = .ok (.ifCond .eq 96, 3) := by decide +kernel
theorem dX10_run_57 : decode cX10_run 57 = .ok (.iload_n 3, 1) := by decide +kernel
theorem dX10_run_58 : decode cX10_run 58 = .ok (.aload_n 0, 1) := by decide +kernel
theorem dX10_run_59 : decode cX10_run 59 = .ok (.getfield 26, 3) := by decide +kernel
theorem dX10_run_62 : decode cX10_run 62 = .ok (.iload_n 1, 1) := by decide +kernel
theorem dX10_run_63 : decode cX10_run 63 = .ok (.iaload, 1) := by decide +kernel
theorem dX10_run_64 : decode cX10_run 64 = .ok (.if_icmp .ge 86, 3) := by decide +kernel
theorem dX10_run_67 : decode cX10_run 67 = .ok (.iconst 5, 1) := by decide +kernel
theorem dX10_run_68 : decode cX10_run 68 = .ok (.bipush 16, 2) := by decide +kernel
theorem dX10_run_70 : decode cX10_run 70 = .ok (.iload_n 1, 1) := by decide +kernel
theorem dX10_run_71 : decode cX10_run 71 = .ok (.imul, 1) := by decide +kernel
theorem dX10_run_72 : decode cX10_run 72 = .ok (.iload_n 3, 1) := by decide +kernel
theorem dX10_run_73 : decode cX10_run 73 = .ok (.iadd, 1) := by decide +kernel
theorem dX10_run_74 : decode cX10_run 74 = .ok (.imul, 1) := by decide +kernel
theorem dX10_run_75 : decode cX10_run 75 = .ok (.istore 5, 2) := by decide +kernel
theorem dX10_run_77 : decode cX10_run 77 = .ok (.aload_n 0, 1) := by decide +kernel
theorem dX10_run_78 : decode cX10_run 78 = .ok (.aload_n 0, 1) := by decide +kernel
theorem dX10_run_79 : decode cX10_run 79 = .ok (.getfield 32, 3) := by decide +kernel
theorem dX10_run_82 : decode cX10_run 82 = .ok (.aload_n 0, 1) := by decide +kernel
theorem dX10_run_83 : decode cX10_run 83 = .ok (.getfield 23, 3) := by decide +kernel
theorem dX10_run_86 : decode cX10_run 86 = .ok (.iload 5, 2) := by decide +kernel
theorem dX10_run_88 : decode cX10_run 88 = .ok (.iaload, 1) := by decide +kernel
theorem dX10_run_89 : decode cX10_run 89 = .ok (.aload_n 0, 1) := by decide +kernel
theorem dX10_run_90 : decode cX10_run 90 = .ok (.getfield 23, 3) := by decide +kernel
theorem dX10_run_93 : decode cX10_run 93 = .ok (.iload 5, 2) := by decide +kernel
theorem dX10_run_95 : decode cX10_run 95 = .ok (.iconst 1, 1) := by decide +kernel
theorem dX10_run_96 : decode cX10_run 96 = .ok (.iadd, 1) := by decide +kernel
theorem dX10_run_97 : decode cX10_run 97 = .ok (.iaload, 1) := by decide +kernel
theorem dX10_run_98 : decode cX10_run 98 = .ok (.aload_n 0, 1) := by decide +kernel
theorem dX10_run_99 : decode cX10_run 99 = .ok (.getfield 23, 3) := by decide +kernel
theorem dX10_run_102 : decode cX10_run 102 = .ok (.iload 5, 2) := by decide +kernel
theorem dX10_run_104 : decode cX10_run 104 = .ok (.iconst 2, 1) := by decide +kernel
theorem dX10_run_105 : decode cX10_run 105 = .ok (.iadd, 1) := by decide +kernel
theorem dX10_run_106 : decode cX10_run 106 = .ok (.iaload, 1) := by decide +kernel
theorem dX10_run_107 : decode cX10_run 107 = .ok (.aload_n 0, 1) := by decide +kernel
theorem dX10_run_108 : decode cX10_run 108 = .ok (.getfield 23, 3) := by decide +kernel
theorem dX10_run_111 : decode cX10_run 111 = .ok (.iload 5, 2) := by decide +kernel
theorem dX10_run_113 : decode cX10_run 113 = .ok (.iconst 3, 1) := by decide +kernel
theorem dX10_run_114 : decode cX10_run 114 = .ok (.iadd, 1) := by decide +kernel
theorem dX10_run_115 : decode cX10_run 115 = .ok (.iaload, 1) := by decide +kernel
theorem dX10_run_116 : decode cX10_run 116 = .ok (.aload_n 0, 1) := by decide +kernel
theorem dX10_run_117 : decode cX10_run 117 = .ok (.getfield 23, 3) := by decide +kernel
theorem dX10_run_120 : decode cX10_run 120 = .ok (.iload 5, 2) := by decide +kernel
theorem dX10_run_122 : decode cX10_run 122 = .ok (.iconst 4, 1) := by decide +kernel
theorem dX10_run_123 : decode cX10_run 123 = .ok (.iadd, 1) := by decide +kernel
theorem dX10_run_124 : decode cX10_run 124 = .ok (.iaload, 1) := by decide +kernel
theorem dX10_run_125 : decode cX10_run 125 = .ok (.invokevirtual 335, 3) := by decide +kernel
theorem dX10_run_128 : decode cX10_run 128 = .ok (.iconst (-1), 1) := by decide +kernel
theorem dX10_run_129 : decode cX10_run 129 = .ok (.if_icmp .ne 7, 3) := by decide +kernel
theorem dX10_run_132 : decode cX10_run 132 = .ok (.iconst 1, 1) := by decide +kernel
theorem dX10_run_133 : decode cX10_run 133 = .ok (.goto 4, 3) := by decide +kernel
theorem dX10_run_136 : decode cX10_run 136 = .ok (.iconst 0, 1) := by decide +kernel
theorem dX10_run_137 : decode cX10_run 137 = .ok (.istore 4, 2) := by decide +kernel
theorem dX10_run_139 : decode cX10_run 139 = .ok (.iload 4, 2) := by decide +kernel
theorem dX10_run_141 : decode cX10_run 141 = .ok (.ifCond .eq 6, 3) := by decide +kernel
theorem dX10_run_144 : decode cX10_run 144 = .ok (.iinc 3 1, 3) := by decide +kernel
theorem dX10_run_147 : decode cX10_run 147 = .ok (.goto (-95), 3) := by decide +kernel
theorem dX10_run_150 : decode cX10_run 150 = .ok (.iload_n 2, 1) := by decide +kernel
theorem dX10_run_151 : decode cX10_run 151 = .ok (.iconst 1, 1) := by decide +kernel
theorem dX10_run_152 : decode cX10_run 152 = .ok (.if_icmp .ne 13, 3) := by decide +kernel
theorem dX10_run_155 : decode cX10_run 155 = .ok (.aload_n 0, 1) := by decide +kernel
theorem dX10_run_156 : decode cX10_run 156 = .ok (.getfield 32, 3) := by decide +kernel
theorem dX10_run_159 : decode cX10_run 159 = .ok (.invokestatic 331, 3) := by decide +kernel
theorem dX10_run_162 : decode cX10_run 162 = .ok (.goto 18, 3) := by decide +kernel
theorem dX10_run_165 : decode cX10_run 165 = .ok (.iload_n 3, 1) := by decide +kernel
theorem dX10_run_166 : decode cX10_run 166 = .ok (.aload_n 0, 1) := by decide +kernel
theorem dX10_run_167 : decode cX10_run 167 = .ok (.getfield 26, 3) := by decide +kernel
theorem dX10_run_170 : decode cX10_run 170 = .ok (.iload_n 1, 1) := by decide +kernel
theorem dX10_run_171 : decode cX10_run 171 = .ok (.iaload, 1) := by decide +kernel
theorem dX10_run_172 : decode cX10_run 172 = .ok (.if_icmp .ne 7, 3) := by decide +kernel
theorem dX10_run_175 : decode cX10_run 175 = .ok (.iconst (-1), 1) := by decide +kernel
theorem dX10_run_176 : decode cX10_run 176 = .ok (.goto 4, 3) := by decide +kernel
theorem dX10_run_179 : decode cX10_run 179 = .ok (.iload_n 3, 1) := by decide +kernel
theorem dX10_run_180 : decode cX10_run 180 = .ok (.ireturn, 1) := by decide +kernel
theorem dX10_perform_0 : decode cX10_perform 0 = .ok (.aload_n 0, 1) := by decide +kernel
theorem dX10_perform_1 : decode cX10_perform 1 = .ok (.iconst 0, 1) := by decide +kernel
theorem dX10_perform_2 : decode cX10_perform 2 = .ok (.putfield 73, 3) := by decide +kernel
theorem dX10_perform_5 : decode cX10_perform 5 = .ok (.aload_n 0, 1) := by decide +kernel
theorem dX10_perform_6 : decode cX10_perform 6 = .ok (.iload_n 1, 1) := by decide +kernel
theorem dX10_perform_7 : decode cX10_perform 7 = .ok (.invokevirtual 387, 3) := by decide +kernel
theorem dX10_perform_10 : decode cX10_perform 10 = .ok (.ifCond .eq 10, 3) := by decide +kernel
theorem dX10_perform_13 : decode cX10_perform 13 = .ok (.aload_n 0, 1) := by decide +kernel
theorem dX10_perform_14 : decode cX10_perform 14 = .ok (.getfield 157, 3) := by decide +kernel
theorem dX10_perform_17 : decode cX10_perform 17 = .ok (.ifCond .ne 5, 3) := by decide +kernel
theorem dX10_perform_20 : decode cX10_perform 20 = .ok (.iconst (-1), 1) := by decide +kernel
theorem dX10_perform_21 : decode cX10_perform 21 = .ok (.ireturn, 1) := by decide +kernel
theorem dX10_perform_22 : decode cX10_perform 22 = .ok (.iconst 0, 1) := by decide +kernel
theorem dX10_perform_23 : decode cX10_perform 23 = .ok (.istore_n 2, 1) := by decide +kernel
theorem dX10_perform_24 : decode cX10_perform 24 = .ok (.iconst 1, 1) := by decide +kernel
theorem dX10_perform_25 : decode cX10_perform 25 = .ok (.istore_n 3, 1) := by decide +kernel
theorem dX10_perform_26 : decode cX10_perform 26 = .ok (.iload_n 3, 1) := by decide +kernel
theorem dX10_perform_27 : decode cX10_perform 27 = .ok (.ifCond .eq 90, 3) := by decide +kernel
theorem dX10_perform_30 : decode cX10_perform 30 = .ok (.iload_n 2, 1) := by decide +kernel
theorem dX10_perform_31 : decode cX10_perform 31 = .ok (.aload_n 0, 1) := by decide +kernel
theorem dX10_perform_32 : decode cX10_perform 32 = .ok (.getfield 26, 3) := by decide +kernel
theorem dX10_perform_35 : decode cX10_perform 35 = .ok (.iload_n 1, 1) := by decide +kernel
theorem dX10_perform_36 : decode cX10_perform 36 = .ok (.iaload, 1) := by decide +kernel
theorem dX10_perform_37 : decode cX10_perform 37 = .ok (.if_icmp .ge 80, 3) := by decide +kernel
theorem dX10_perform_40 : decode cX10_perform 40 = .ok (.iconst 5, 1) := by decide +kernel
theorem dX10_perform_41 : decode cX10_perform 41 = .ok (.bipush 16, 2) := by decide +kernel
theorem dX10_perform_43 : decode cX10_perform 43 = .ok (.iload_n 1, 1) := by decide +kernel
theorem dX10_perform_44 : decode cX10_perform 44 = .ok (.imul, 1) := by decide +kernel
theorem dX10_perform_45 : decode cX10_perform 45 = .ok (.iload_n 2, 1) := by decide +kernel
theorem dX10_perform_46 : decode cX10_perform 46 = .ok (.iadd, 1) := by decide +kernel
theorem dX10_perform_47 : decode cX10_perform 47 = .ok (.imul, 1) := by decide +kernel
theorem dX10_perform_48 : decode cX10_perform 48 = .ok (.istore 4, 2) := by decide +kernel
theorem dX10_perform_50 : decode cX10_perform 50 = .ok (.aload_n 0, 1) := by decide +kernel
theorem dX10_perform_51 : decode cX10_perform 51 = .ok (.aload_n 0, 1) := by decide +kernel
theorem dX10_perform_52 : decode cX10_perform 52 = .ok (.getfield 23, 3) := by decide +kernel
theorem dX10_perform_55 : decode cX10_perform 55 = .ok (.iload 4, 2) := by decide +kernel
theorem dX10_perform_57 : decode cX10_perform 57 = .ok (.iaload, 1) := by decide +kernel
theorem dX10_perform_58 : decode cX10_perform 58 = .ok (.aload_n 0, 1) := by decide +kernel
theorem dX10_perform_59 : decode cX10_perform 59 = .ok (.getfield 23, 3) := by decide +kernel
theorem dX10_perform_62 : decode cX10_perform 62 = .ok (.iload 4, 2) := by decide +kernel
theorem dX10_perform_64 : decode cX10_perform 64 = .ok (.iconst 1, 1) := by decide +kernel
theorem dX10_perform_65 : decode cX10_perform 65 = .ok (.iadd, 1) := by decide +kernel
theorem dX10_perform_66 : decode cX10_perform 66 = .ok (.iaload, 1) := by decide +kernel
theorem dX10_perform_67 : decode cX10_perform 67 = .ok (.aload_n 0, 1) := by decide +kernel
theorem dX10_perform_68 : decode cX10_perform 68 = .ok (.getfield 23, 3) := by decide +kernel
theorem dX10_perform_71 : decode cX10_perform 71 = .ok (.iload 4, 2) := by decide +kernel
theorem dX10_perform_73 : decode cX10_perform 73 = .ok (.iconst 2, 1) := by decide +kernel
theorem dX10_perform_74 : decode cX10_perform 74 = .ok (.iadd, 1) := by decide +kernel
theorem dX10_perform_75 : decode cX10_perform 75 = .ok (.iaload, 1) := by decide +kernel
theorem dX10_perform_76 : decode cX10_perform 76 = .ok (.aload_n 0, 1) := by decide +kernel
theorem dX10_perform_77 : decode cX10_perform 77 = .ok (.getfield 23, 3) := by decide +kernel
theorem dX10_perform_80 : decode cX10_perform 80 = .ok (.iload 4, 2) := by decide +kernel
theorem dX10_perform_82 : decode cX10_perform 82 = .ok (.iconst 3, 1) := by decide +kernel
theorem dX10_perform_83 : decode cX10_perform 83 = .ok (.iadd, 1) := by decide +kernel
theorem dX10_perform_84 : decode cX10_perform 84 = .ok (.iaload, 1) := by decide +kernel
theorem dX10_perform_85 : decode cX10_perform 85 = .ok (.aload_n 0, 1) := by decide +kernel
theorem dX10_perform_86 : decode cX10_perform 86 = .ok (.getfield 23, 3) := by decide +kernel
theorem dX10_perform_89 : decode cX10_perform 89 = .ok (.iload 4, 2) := by decide +kernel
theorem dX10_perform_91 : decode cX10_perform 91 = .ok (.iconst 4, 1) := by decide +kernel
theorem dX10_perform_92 : decode cX10_perform 92 = .ok (.iadd, 1) := by decide +kernel
theorem dX10_perform_93 : decode cX10_perform 93 = .ok (.iaload, 1) := by decide +kernel
theorem dX10_perform_94 : decode cX10_perform 94 = .ok (.invokevirtual 344, 3) := by decide +kernel
theorem dX10_perform_97 : decode cX10_perform 97 = .ok (.iconst (-1), 1) := by decide +kernel
theorem dX10_perform_98 : decode cX10_perform 98 = .ok (.if_icmp .ne 7, 3) := by decide +kernel
theorem dX10_perform_101 : decode cX10_perform 101 = .ok (.iconst 1, 1) := by decide +kernel
theorem dX10_perform_102 : decode cX10_perform 102 = .ok (.goto 4, 3) := by decide +kernel
theorem dX10_perform_105 : decode cX10_perform 105 = .ok (.iconst 0, 1) := by decide +kernel
theorem dX10_perform_106 : decode cX10_perform 106 = .ok (.istore_n 3, 1) := by decide +kernel
theorem dX10_perform_107 : decode cX10_perform 107 = .ok (.iload_n 3, 1) := by decide +kernel
theorem dX10_perform_108 : decode cX10_perform 108 = .ok (.ifCond .eq 6, 3) := by decide +kernel
theorem dX10_perform_111 : decode cX10_perform 111 = .ok (.iinc 2 1, 3) := by decide +kernel
theorem dX10_perform_114 : decode cX10_perform 114 = .ok (.goto (-88), 3) := by decide +kernel
theorem dX10_perform_117 : decode cX10_perform 117 = .ok (.iload_n 2, 1) := by decide +kernel
theorem dX10_perform_118 : decode cX10_perform 118 = .ok (.ireturn, 1) := by decide +kernel
theorem dX10_reached_0 : decode cX10_reached 0 = .ok (.aload_n 0, 1) := by decide +kernel
theorem dX10_reached_1 : decode cX10_reached 1 = .ok (.aload_n 0, 1) := by decide +kernel
theorem dX10_reached_2 : decode cX10_reached 2 = .ok (.getfield 29, 3) := by decide +kernel
theorem dX10_reached_5 : decode cX10_reached 5 = .ok (.iconst (-1), 1) := by decide +kernel
theorem dX10_reached_6 : decode cX10_reached 6 = .ok (.iconst 1, 1) := by decide +kernel
theorem dX10_reached_7 : decode cX10_reached 7 = .ok (.invokevirtual 268, 3) := by decide +kernel
theorem dX10_reached_10 : decode cX10_reached 10 = .ok (.aload_n 0, 1) := by decide +kernel
theorem dX10_reached_11 : decode cX10_reached 11 = .ok (.getfield 195, 3) := by decide +kernel
theorem dX10_reached_14 : decode cX10_reached 14 = .ok (.ireturn, 1) := by decide +kernel
theorem dX10_oldest_0 : decode cX10_oldest 0 = .ok (.iconst 0, 1) := by decide +kernel
theorem dX10_oldest_1 : decode cX10_oldest 1 = .ok (.istore_n 1, 1) := by decide +kernel
theorem dX10_oldest_2 : decode cX10_oldest 2 = .ok (.iconst 0, 1) := by decide +kernel
theorem dX10_oldest_3 : decode cX10_oldest 3 = .ok (.istore_n 2, 1) := by decide +kernel
theorem dX10_oldest_4 : decode cX10_oldest 4 = .ok (.iload_n 2, 1) := by decide +kernel
theorem dX10_oldest_5 : decode cX10_oldest 5 = .ok (.aload_n 0, 1) := by decide +kernel
theorem dX10_oldest_6 : decode cX10_oldest 6 = .ok (.getfield 29, 3) := by decide +kernel
theorem dX10_oldest_9 : decode cX10_oldest 9 = .ok (.iconst 0, 1) := by decide +kernel
theorem dX10_oldest_10 : decode cX10_oldest 10 = .ok (.iaload, 1) := by decide +kernel
theorem dX10_oldest_11 : decode cX10_oldest 11 = .ok (.if_icmp .ge 32, 3) := by decide +kernel
theorem dX10_oldest_14 : decode cX10_oldest 14 = .ok (.aload_n 0, 1) := by decide +kernel
theorem dX10_oldest_15 : decode cX10_oldest 15 = .ok (.getfield 29, 3) := by decide +kernel
theorem dX10_oldest_18 : decode cX10_oldest 18 = .ok (.iload_n 2, 1) := by decide +kernel
theorem dX10_oldest_19 : decode cX10_oldest 19 = .ok (.iconst 4, 1) := by decide +kernel
theorem dX10_oldest_20 : decode cX10_oldest 20 = .ok (.invokestatic 167, 3) := by decide +kernel
theorem dX10_oldest_23 : decode cX10_oldest 23 = .ok (.iload_n 1, 1) := by decide +kernel
theorem dX10_oldest_24 : decode cX10_oldest 24 = .ok (.if_icmp .le 13, 3) := by decide +kernel
theorem dX10_oldest_27 : decode cX10_oldest 27 = .ok (.aload_n 0, 1) := by decide +kernel
theorem dX10_oldest_28 : decode cX10_oldest 28 = .ok (.getfield 29, 3) := by decide +kernel
theorem dX10_oldest_31 : decode cX10_oldest 31 = .ok (.iload_n 2, 1) := by decide +kernel
theorem dX10_oldest_32 : decode cX10_oldest 32 = .ok (.iconst 4, 1) := by decide +kernel
theorem dX10_oldest_33 : decode cX10_oldest 33 = .ok (.invokestatic 167, 3) := by decide +kernel
theorem dX10_oldest_36 : decode cX10_oldest 36 = .ok (.istore_n 1, 1) := by decide +kernel
theorem dX10_oldest_37 : decode cX10_oldest 37 = .ok (.iinc 2 1, 3) := by decide +kernel
theorem dX10_oldest_40 : decode cX10_oldest 40 = .ok (.goto (-36), 3) := by decide +kernel
theorem dX10_oldest_43 : decode cX10_oldest 43 = .ok (.iload_n 1, 1) := by decide +kernel
theorem dX10_oldest_44 : decode cX10_oldest 44 = .ok (.ireturn, 1) := by decide +kernel
theorem dX10_linked_0 : decode cX10_linked 0 = .ok (.iconst 0, 1) := by decide +kernel
theorem dX10_linked_1 : decode cX10_linked 1 = .ok (.istore_n 1, 1) := by decide +kernel
theorem dX10_linked_2 : decode cX10_linked 2 = .ok (.iconst 0, 1) := by decide +kernel
theorem dX10_linked_3 : decode cX10_linked 3 = .ok (.istore_n 2, 1) := by decide +kernel
theorem dX10_linked_4 : decode cX10_linked 4 = .ok (.iload_n 2, 1) := by decide +kernel
theorem dX10_linked_5 : decode cX10_linked 5 = .ok (.bipush 8, 2) := by decide +kernel
theorem dX10_linked_7 : decode cX10_linked 7 = .ok (.if_icmp .ge 32, 3) := by decide +kernel
theorem dX10_linked_10 : decode cX10_linked 10 = .ok (.iload_n 1, 1) := by decide +kernel
theorem dX10_linked_11 : decode cX10_linked 11 = .ok (.aload_n 0, 1) := by decide +kernel
theorem dX10_linked_12 : decode cX10_linked 12 = .ok (.getfield 29, 3) := by decide +kernel
theorem dX10_linked_15 : decode cX10_linked 15 = .ok (.sipush 881, 3) := by decide +kernel
theorem dX10_linked_18 : decode cX10_linked 18 = .ok (.iload_n 2, 1) := by decide +kernel
theorem dX10_linked_19 : decode cX10_linked 19 = .ok (.iadd, 1) := by decide +kernel
theorem dX10_linked_20 : decode cX10_linked 20 = .ok (.iaload, 1) := by decide +kernel
theorem dX10_linked_21 : decode cX10_linked 21 = .ok (.ifCond .ne 7, 3) := by decide +kernel
theorem dX10_linked_24 : decode cX10_linked 24 = .ok (.iconst 0, 1) := by decide +kernel
theorem dX10_linked_25 : decode cX10_linked 25 = .ok (.goto 6, 3) := by decide +kernel
theorem dX10_linked_28 : decode cX10_linked 28 = .ok (.iconst 1, 1) := by decide +kernel
theorem dX10_linked_29 : decode cX10_linked 29 = .ok (.iload_n 2, 1) := by decide +kernel
theorem dX10_linked_30 : decode cX10_linked 30 = .ok (.ishl, 1) := by decide +kernel
theorem dX10_linked_31 : decode cX10_linked 31 = .ok (.ior, 1) := by decide +kernel
theorem dX10_linked_32 : decode cX10_linked 32 = .ok (.istore_n 1, 1) := by decide +kernel
theorem dX10_linked_33 : decode cX10_linked 33 = .ok (.iinc 2 1, 3) := by decide +kernel
theorem dX10_linked_36 : decode cX10_linked 36 = .ok (.goto (-32), 3) := by decide +kernel
theorem dX10_linked_39 : decode cX10_linked 39 = .ok (.iload_n 1, 1) := by decide +kernel
theorem dX10_linked_40 : decode cX10_linked 40 = .ok (.ireturn, 1) := by decide +kernel
theorem dX10_most_0 : decode cX10_most 0 = .ok (.aload_n 0, 1) := by decide +kernel
theorem dX10_most_1 : decode cX10_most 1 = .ok (.iconst 0, 1) := by decide +kernel
theorem dX10_most_2 : decode cX10_most 2 = .ok (.putfield 73, 3) := by decide +kernel
theorem dX10_most_5 : decode cX10_most 5 = .ok (.aload_n 0, 1) := by decide +kernel
theorem dX10_most_6 : decode cX10_most 6 = .ok (.getfield 157, 3) := by decide +kernel
theorem dX10_most_9 : decode cX10_most 9 = .ok (.ifCond .ne 7, 3) := by decide +kernel
theorem dX10_most_12 : decode cX10_most 12 = .ok (.ldc_w 369, 3) := by decide +kernel
theorem dX10_most_15 : decode cX10_most 15 = .ok (.ireturn, 1) := by decide +kernel
theorem dX10_most_16 : decode cX10_most 16 = .ok (.iload_n 1, 1) := by decide +kernel
theorem dX10_most_17 : decode cX10_most 17 = .ok (.tableswitch 119 0 15 #[79, 79, 79, 88, 95, 119, 119, 119, 119, 119, 119, 119, 119, 100, 105, 110], 79) := by decide +kernel
theorem dX10_most_96 : decode cX10_most 96 = .ok (.aload_n 0, 1) := by decide +kernel
theorem dX10_most_97 : decode cX10_most 97 = .ok (.getfield 29, 3) := by decide +kernel
theorem dX10_most_100 : decode cX10_most 100 = .ok (.iload_n 1, 1) := by decide +kernel
theorem dX10_most_101 : decode cX10_most 101 = .ok (.invokestatic 175, 3) := by decide +kernel
theorem dX10_most_104 : decode cX10_most 104 = .ok (.ireturn, 1) := by decide +kernel
theorem dX10_most_105 : decode cX10_most 105 = .ok (.aload_n 0, 1) := by decide +kernel
theorem dX10_most_106 : decode cX10_most 106 = .ok (.getfield 29, 3) := by decide +kernel
theorem dX10_most_109 : decode cX10_most 109 = .ok (.iconst 0, 1) := by decide +kernel
theorem dX10_most_110 : decode cX10_most 110 = .ok (.iaload, 1) := by decide +kernel
theorem dX10_most_111 : decode cX10_most 111 = .ok (.ireturn, 1) := by decide +kernel
theorem dX10_most_112 : decode cX10_most 112 = .ok (.aload_n 0, 1) := by decide +kernel
theorem dX10_most_113 : decode cX10_most 113 = .ok (.invokevirtual 390, 3) := by decide +kernel
theorem dX10_most_116 : decode cX10_most 116 = .ok (.ireturn, 1) := by decide +kernel
theorem dX10_most_117 : decode cX10_most 117 = .ok (.aload_n 0, 1) := by decide +kernel
theorem dX10_most_118 : decode cX10_most 118 = .ok (.invokevirtual 393, 3) := by decide +kernel
theorem dX10_most_121 : decode cX10_most 121 = .ok (.ireturn, 1) := by decide +kernel
theorem dX10_most_122 : decode cX10_most 122 = .ok (.aload_n 0, 1) := by decide +kernel
theorem dX10_most_123 : decode cX10_most 123 = .ok (.invokevirtual 396, 3) := by decide +kernel
theorem dX10_most_126 : decode cX10_most 126 = .ok (.ireturn, 1) := by decide +kernel
theorem dX10_most_127 : decode cX10_most 127 = .ok (.aload_n 0, 1) := by decide +kernel
theorem dX10_most_128 : decode cX10_most 128 = .ok (.getfield 29, 3) := by decide +kernel
theorem dX10_most_131 : decode cX10_most 131 = .ok (.sipush 1372, 3) := by decide +kernel
theorem dX10_most_134 : decode cX10_most 134 = .ok (.iaload, 1) := by decide +kernel
theorem dX10_most_135 : decode cX10_most 135 = .ok (.ireturn, 1) := by decide +kernel
theorem dX10_most_136 : decode cX10_most 136 = .ok (.iload_n 1, 1) := by decide +kernel
theorem dX10_most_137 : decode cX10_most 137 = .ok (.i2l, 1) := by decide +kernel
theorem dX10_most_138 : decode cX10_most 138 = .ok (.ldc2_w 399, 3) := by decide +kernel
theorem dX10_most_141 : decode cX10_most 141 = .ok (.ldc2_w 401, 3) := by decide +kernel
theorem dX10_most_144 : decode cX10_most 144 = .ok (.invokestatic 134, 3) := by decide +kernel
theorem dX10_most_147 : decode cX10_most 147 = .ok (.ifCond .eq 18, 3) := by decide +kernel
theorem dX10_most_150 : decode cX10_most 150 = .ok (.aload_n 0, 1) := by decide +kernel
theorem dX10_most_151 : decode cX10_most 151 = .ok (.getfield 29, 3) := by decide +kernel
theorem dX10_most_154 : decode cX10_most 154 = .ok (.sipush 1364, 3) := by decide +kernel
theorem dX10_most_157 : decode cX10_most 157 = .ok (.iload_n 1, 1) := by decide +kernel
theorem dX10_most_158 : decode cX10_most 158 = .ok (.iadd, 1) := by decide +kernel
theorem dX10_most_159 : decode cX10_most 159 = .ok (.iconst 5, 1) := by decide +kernel
theorem dX10_most_160 : decode cX10_most 160 = .ok (.isub, 1) := by decide +kernel
theorem dX10_most_161 : decode cX10_most 161 = .ok (.iaload, 1) := by decide +kernel
theorem dX10_most_162 : decode cX10_most 162 = .ok (.goto 6, 3) := by decide +kernel
theorem dX10_most_165 : decode cX10_most 165 = .ok (.ldc_w 369, 3) := by decide +kernel
theorem dX10_most_168 : decode cX10_most 168 = .ok (.ireturn, 1) := by decide +kernel
theorem dX10_count_0 : decode cX10_count 0 = .ok (.aload_n 0, 1) := by decide +kernel
theorem dX10_count_1 : decode cX10_count 1 = .ok (.iconst 0, 1) := by decide +kernel
theorem dX10_count_2 : decode cX10_count 2 = .ok (.putfield 73, 3) := by decide +kernel
theorem dX10_count_5 : decode cX10_count 5 = .ok (.iload_n 1, 1) := by decide +kernel
theorem dX10_count_6 : decode cX10_count 6 = .ok (.tableswitch 65 0 4 #[34, 41, 46, 51, 60], 34) := by decide +kernel
theorem dX10_count_40 : decode cX10_count 40 = .ok (.aload_n 0, 1) := by decide +kernel
theorem dX10_count_41 : decode cX10_count 41 = .ok (.getfield 29, 3) := by decide +kernel
theorem dX10_count_44 : decode cX10_count 44 = .ok (.iconst 0, 1) := by decide +kernel
theorem dX10_count_45 : decode cX10_count 45 = .ok (.iaload, 1) := by decide +kernel
theorem dX10_count_46 : decode cX10_count 46 = .ok (.ireturn, 1) := by decide +kernel
theorem dX10_count_47 : decode cX10_count 47 = .ok (.aload_n 0, 1) := by decide +kernel
theorem dX10_count_48 : decode cX10_count 48 = .ok (.getfield 152, 3) := by decide +kernel
theorem dX10_count_51 : decode cX10_count 51 = .ok (.ireturn, 1) := by decide +kernel
theorem dX10_count_52 : decode cX10_count 52 = .ok (.aload_n 0, 1) := by decide +kernel
theorem dX10_count_53 : decode cX10_count 53 = .ok (.getfield 77, 3) := by decide +kernel
theorem dX10_count_56 : decode cX10_count 56 = .ok (.ireturn, 1) := by decide +kernel
theorem dX10_count_57 : decode cX10_count 57 = .ok (.aload_n 0, 1) := by decide +kernel
theorem dX10_count_58 : decode cX10_count 58 = .ok (.getfield 29, 3) := by decide +kernel
theorem dX10_count_61 : decode cX10_count 61 = .ok (.sipush 1373, 3) := by decide +kernel
theorem dX10_count_64 : decode cX10_count 64 = .ok (.iaload, 1) := by decide +kernel
theorem dX10_count_65 : decode cX10_count 65 = .ok (.ireturn, 1) := by decide +kernel
theorem dX10_count_66 : decode cX10_count 66 = .ok (.aload_n 0, 1) := by decide +kernel
theorem dX10_count_67 : decode cX10_count 67 = .ok (.getfield 161, 3) := by decide +kernel
theorem dX10_count_70 : decode cX10_count 70 = .ok (.ireturn, 1) := by decide +kernel
theorem dX10_count_71 : decode cX10_count 71 = .ok (.ldc_w 369, 3) := by decide +kernel
theorem dX10_count_74 : decode cX10_count 74 = .ok (.ireturn, 1) := by decide +kernel
