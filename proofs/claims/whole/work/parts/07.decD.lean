theorem dX9_init_0 : decode cX9_init 0 = .ok (.aload_n 0, 1) := by decide +kernel
theorem dX9_init_1 : decode cX9_init 1 = .ok (.invokespecial 1, 3) := by decide +kernel
theorem dX9_init_4 : decode cX9_init 4 = .ok (.aload_n 0, 1) := by decide +kernel
theorem dX9_init_5 : decode cX9_init 5 = .ok (.new 7, 3) := by decide +kernel
theorem dX9_init_8 : decode cX9_init 8 = .ok (.dup, 1) := by decide +kernel
theorem dX9_init_9 : decode cX9_init 9 = .ok (.invokespecial 9, 3) := by decide +kernel
theorem dX9_init_12 : decode cX9_init 12 = .ok (.putfield 10, 3) := by decide +kernel
theorem dX9_init_15 : decode cX9_init 15 = .ok (.aload_n 0, 1) := by decide +kernel
theorem dX9_init_16 : decode cX9_init 16 = .ok (.new 16, 3) := by decide +kernel
theorem dX9_init_19 : decode cX9_init 19 = .ok (.dup, 1) := by decide +kernel
theorem dX9_init_20 : decode cX9_init 20 = .ok (.aload_n 0, 1) := by decide +kernel
theorem dX9_init_21 : decode cX9_init 21 = .ok (.getfield 10, 3) := by decide +kernel
theorem dX9_init_24 : decode cX9_init 24 = .ok (.invokespecial 18, 3) := by decide +kernel
theorem dX9_init_27 : decode cX9_init 27 = .ok (.putfield 21, 3) := by decide +kernel
theorem dX9_init_30 : decode cX9_init 30 = .ok (.aload_n 0, 1) := by decide +kernel
theorem dX9_init_31 : decode cX9_init 31 = .ok (.iconst 4, 1) := by decide +kernel
theorem dX9_init_32 : decode cX9_init 32 = .ok (.bipush 80, 2) := by decide +kernel
theorem dX9_init_34 : decode cX9_init 34 = .ok (.multianewarray 25 2, 4) := by decide +kernel
theorem dX9_init_38 : decode cX9_init 38 = .ok (.putfield 27, 3) := by decide +kernel
theorem dX9_init_41 : decode cX9_init 41 = .ok (.aload_n 0, 1) := by decide +kernel
theorem dX9_init_42 : decode cX9_init 42 = .ok (.iconst 4, 1) := by decide +kernel
theorem dX9_init_43 : decode cX9_init 43 = .ok (.newarray .int, 2) := by decide +kernel
theorem dX9_init_45 : decode cX9_init 45 = .ok (.putfield 30, 3) := by decide +kernel
theorem dX9_init_48 : decode cX9_init 48 = .ok (.aload_n 0, 1) := by decide +kernel
theorem dX9_init_49 : decode cX9_init 49 = .ok (.iconst 4, 1) := by decide +kernel
theorem dX9_init_50 : decode cX9_init 50 = .ok (.newarray .int, 2) := by decide +kernel
theorem dX9_init_52 : decode cX9_init 52 = .ok (.putfield 34, 3) := by decide +kernel
theorem dX9_init_55 : decode cX9_init 55 = .ok (.aload_n 0, 1) := by decide +kernel
theorem dX9_init_56 : decode cX9_init 56 = .ok (.new 37, 3) := by decide +kernel
theorem dX9_init_59 : decode cX9_init 59 = .ok (.dup, 1) := by decide +kernel
theorem dX9_init_60 : decode cX9_init 60 = .ok (.invokespecial 39, 3) := by decide +kernel
theorem dX9_init_63 : decode cX9_init 63 = .ok (.putfield 40, 3) := by decide +kernel
theorem dX9_init_66 : decode cX9_init 66 = .ok (.aload_n 0, 1) := by decide +kernel
theorem dX9_init_67 : decode cX9_init 67 = .ok (.new 37, 3) := by decide +kernel
theorem dX9_init_70 : decode cX9_init 70 = .ok (.dup, 1) := by decide +kernel
theorem dX9_init_71 : decode cX9_init 71 = .ok (.invokespecial 39, 3) := by decide +kernel
theorem dX9_init_74 : decode cX9_init 74 = .ok (.putfield 44, 3) := by decide +kernel
theorem dX9_init_77 : decode cX9_init 77 = .ok (.aload_n 0, 1) := by decide +kernel
theorem dX9_init_78 : decode cX9_init 78 = .ok (.new 37, 3) := by decide +kernel
theorem dX9_init_81 : decode cX9_init 81 = .ok (.dup, 1) := by decide +kernel
theorem dX9_init_82 : decode cX9_init 82 = .ok (.invokespecial 39, 3) := by decide +kernel
theorem dX9_init_85 : decode cX9_init 85 = .ok (.putfield 47, 3) := by decide +kernel
theorem dX9_init_88 : decode cX9_init 88 = .ok (.aload_n 0, 1) := by decide +kernel
theorem dX9_init_89 : decode cX9_init 89 = .ok (.new 50, 3) := by decide +kernel
theorem dX9_init_92 : decode cX9_init 92 = .ok (.dup, 1) := by decide +kernel
theorem dX9_init_93 : decode cX9_init 93 = .ok (.invokespecial 52, 3) := by decide +kernel
theorem dX9_init_96 : decode cX9_init 96 = .ok (.putfield 53, 3) := by decide +kernel
theorem dX9_init_99 : decode cX9_init 99 = .ok (.aload_n 0, 1) := by decide +kernel
theorem dX9_init_100 : decode cX9_init 100 = .ok (.new 57, 3) := by decide +kernel
theorem dX9_init_103 : decode cX9_init 103 = .ok (.dup, 1) := by decide +kernel
theorem dX9_init_104 : decode cX9_init 104 = .ok (.invokespecial 59, 3) := by decide +kernel
theorem dX9_init_107 : decode cX9_init 107 = .ok (.putfield 60, 3) := by decide +kernel
theorem dX9_init_110 : decode cX9_init 110 = .ok (.aload_n 0, 1) := by decide +kernel
theorem dX9_init_111 : decode cX9_init 111 = .ok (.new 64, 3) := by decide +kernel
theorem dX9_init_114 : decode cX9_init 114 = .ok (.dup, 1) := by decide +kernel
theorem dX9_init_115 : decode cX9_init 115 = .ok (.aload_n 0, 1) := by decide +kernel
theorem dX9_init_116 : decode cX9_init 116 = .ok (.getfield 34, 3) := by decide +kernel
theorem dX9_init_119 : decode cX9_init 119 = .ok (.aload_n 0, 1) := by decide +kernel
theorem dX9_init_120 : decode cX9_init 120 = .ok (.getfield 60, 3) := by decide +kernel
theorem dX9_init_123 : decode cX9_init 123 = .ok (.invokespecial 66, 3) := by decide +kernel
theorem dX9_init_126 : decode cX9_init 126 = .ok (.putfield 69, 3) := by decide +kernel
theorem dX9_init_129 : decode cX9_init 129 = .ok (.aload_n 0, 1) := by decide +kernel
theorem dX9_init_130 : decode cX9_init 130 = .ok (.new 73, 3) := by decide +kernel
theorem dX9_init_133 : decode cX9_init 133 = .ok (.dup, 1) := by decide +kernel
theorem dX9_init_134 : decode cX9_init 134 = .ok (.aload_n 0, 1) := by decide +kernel
theorem dX9_init_135 : decode cX9_init 135 = .ok (.getfield 34, 3) := by decide +kernel
theorem dX9_init_138 : decode cX9_init 138 = .ok (.aload_n 0, 1) := by decide +kernel
theorem dX9_init_139 : decode cX9_init 139 = .ok (.getfield 69, 3) := by decide +kernel
theorem dX9_init_142 : decode cX9_init 142 = .ok (.invokespecial 75, 3) := by decide +kernel
theorem dX9_init_145 : decode cX9_init 145 = .ok (.putfield 78, 3) := by decide +kernel
theorem dX9_init_148 : decode cX9_init 148 = .ok (.aload_n 0, 1) := by decide +kernel
theorem dX9_init_149 : decode cX9_init 149 = .ok (.iconst 4, 1) := by decide +kernel
theorem dX9_init_150 : decode cX9_init 150 = .ok (.newarray .int, 2) := by decide +kernel
theorem dX9_init_152 : decode cX9_init 152 = .ok (.putfield 82, 3) := by decide +kernel
theorem dX9_init_155 : decode cX9_init 155 = .ok (.return_, 1) := by decide +kernel
theorem dX9_feed_0 : decode cX9_feed 0 = .ok (.iload_n 1, 1) := by decide +kernel
theorem dX9_feed_1 : decode cX9_feed 1 = .ok (.invokestatic 85, 3) := by decide +kernel
theorem dX9_feed_4 : decode cX9_feed 4 = .ok (.iload_n 2, 1) := by decide +kernel
theorem dX9_feed_5 : decode cX9_feed 5 = .ok (.invokestatic 85, 3) := by decide +kernel
theorem dX9_feed_8 : decode cX9_feed 8 = .ok (.iadd, 1) := by decide +kernel
theorem dX9_feed_9 : decode cX9_feed 9 = .ok (.iload_n 3, 1) := by decide +kernel
theorem dX9_feed_10 : decode cX9_feed 10 = .ok (.invokestatic 85, 3) := by decide +kernel
theorem dX9_feed_13 : decode cX9_feed 13 = .ok (.iadd, 1) := by decide +kernel
theorem dX9_feed_14 : decode cX9_feed 14 = .ok (.iload 4, 2) := by decide +kernel
theorem dX9_feed_16 : decode cX9_feed 16 = .ok (.invokestatic 85, 3) := by decide +kernel
theorem dX9_feed_19 : decode cX9_feed 19 = .ok (.iadd, 1) := by decide +kernel
theorem dX9_feed_20 : decode cX9_feed 20 = .ok (.iload 5, 2) := by decide +kernel
theorem dX9_feed_22 : decode cX9_feed 22 = .ok (.invokestatic 85, 3) := by decide +kernel
theorem dX9_feed_25 : decode cX9_feed 25 = .ok (.iadd, 1) := by decide +kernel
theorem dX9_feed_26 : decode cX9_feed 26 = .ok (.istore 6, 2) := by decide +kernel
theorem dX9_feed_28 : decode cX9_feed 28 = .ok (.aload_n 0, 1) := by decide +kernel
theorem dX9_feed_29 : decode cX9_feed 29 = .ok (.getfield 10, 3) := by decide +kernel
theorem dX9_feed_32 : decode cX9_feed 32 = .ok (.getfield 89, 3) := by decide +kernel
theorem dX9_feed_35 : decode cX9_feed 35 = .ok (.iload 6, 2) := by decide +kernel
theorem dX9_feed_37 : decode cX9_feed 37 = .ok (.iadd, 1) := by decide +kernel
theorem dX9_feed_38 : decode cX9_feed 38 = .ok (.sipush 240, 3) := by decide +kernel
theorem dX9_feed_41 : decode cX9_feed 41 = .ok (.if_icmp .le 5, 3) := by decide +kernel
theorem dX9_feed_44 : decode cX9_feed 44 = .ok (.iconst (-1), 1) := by decide +kernel
theorem dX9_feed_45 : decode cX9_feed 45 = .ok (.ireturn, 1) := by decide +kernel
theorem dX9_feed_46 : decode cX9_feed 46 = .ok (.aload_n 0, 1) := by decide +kernel
theorem dX9_feed_47 : decode cX9_feed 47 = .ok (.getfield 10, 3) := by decide +kernel
theorem dX9_feed_50 : decode cX9_feed 50 = .ok (.iload_n 1, 1) := by decide +kernel
theorem dX9_feed_51 : decode cX9_feed 51 = .ok (.invokevirtual 93, 3) := by decide +kernel
theorem dX9_feed_54 : decode cX9_feed 54 = .ok (.aload_n 0, 1) := by decide +kernel
theorem dX9_feed_55 : decode cX9_feed 55 = .ok (.getfield 10, 3) := by decide +kernel
theorem dX9_feed_58 : decode cX9_feed 58 = .ok (.iload_n 2, 1) := by decide +kernel
theorem dX9_feed_59 : decode cX9_feed 59 = .ok (.invokevirtual 93, 3) := by decide +kernel
theorem dX9_feed_62 : decode cX9_feed 62 = .ok (.aload_n 0, 1) := by decide +kernel
theorem dX9_feed_63 : decode cX9_feed 63 = .ok (.getfield 10, 3) := by decide +kernel
theorem dX9_feed_66 : decode cX9_feed 66 = .ok (.iload_n 3, 1) := by decide +kernel
theorem dX9_feed_67 : decode cX9_feed 67 = .ok (.invokevirtual 93, 3) := by decide +kernel
theorem dX9_feed_70 : decode cX9_feed 70 = .ok (.aload_n 0, 1) := by decide +kernel
theorem dX9_feed_71 : decode cX9_feed 71 = .ok (.getfield 10, 3) := by decide +kernel
theorem dX9_feed_74 : decode cX9_feed 74 = .ok (.iload 4, 2) := by decide +kernel
theorem dX9_feed_76 : decode cX9_feed 76 = .ok (.invokevirtual 93, 3) := by decide +kernel
theorem dX9_feed_79 : decode cX9_feed 79 = .ok (.aload_n 0, 1) := by decide +kernel
theorem dX9_feed_80 : decode cX9_feed 80 = .ok (.getfield 10, 3) := by decide +kernel
theorem dX9_feed_83 : decode cX9_feed 83 = .ok (.iload 5, 2) := by decide +kernel
theorem dX9_feed_85 : decode cX9_feed 85 = .ok (.invokevirtual 93, 3) := by decide +kernel
theorem dX9_feed_88 : decode cX9_feed 88 = .ok (.aload_n 0, 1) := by decide +kernel
theorem dX9_feed_89 : decode cX9_feed 89 = .ok (.getfield 10, 3) := by decide +kernel
theorem dX9_feed_92 : decode cX9_feed 92 = .ok (.getfield 89, 3) := by decide +kernel
theorem dX9_feed_95 : decode cX9_feed 95 = .ok (.ireturn, 1) := by decide +kernel
theorem dX9_end_0 : decode cX9_end 0 = .ok (.iload_n 1, 1) := by decide +kernel
theorem dX9_end_1 : decode cX9_end 1 = .ok (.ifCond .lt 14, 3) := by decide +kernel
theorem dX9_end_4 : decode cX9_end 4 = .ok (.iload_n 1, 1) := by decide +kernel
theorem dX9_end_5 : decode cX9_end 5 = .ok (.aload_n 0, 1) := by decide +kernel
theorem dX9_end_6 : decode cX9_end 6 = .ok (.getfield 10, 3) := by decide +kernel
theorem dX9_end_9 : decode cX9_end 9 = .ok (.getfield 89, 3) := by decide +kernel
theorem dX9_end_12 : decode cX9_end 12 = .ok (.if_icmp .le 5, 3) := by decide +kernel
theorem dX9_end_15 : decode cX9_end 15 = .ok (.iconst 0, 1) := by decide +kernel
theorem dX9_end_16 : decode cX9_end 16 = .ok (.ireturn, 1) := by decide +kernel
theorem dX9_end_17 : decode cX9_end 17 = .ok (.aload_n 0, 1) := by decide +kernel
theorem dX9_end_18 : decode cX9_end 18 = .ok (.getfield 10, 3) := by decide +kernel
theorem dX9_end_21 : decode cX9_end 21 = .ok (.iload_n 1, 1) := by decide +kernel
theorem dX9_end_22 : decode cX9_end 22 = .ok (.putfield 89, 3) := by decide +kernel
theorem dX9_end_25 : decode cX9_end 25 = .ok (.iconst 1, 1) := by decide +kernel
theorem dX9_end_26 : decode cX9_end 26 = .ok (.ireturn, 1) := by decide +kernel
theorem dX9_fault_0 : decode cX9_fault 0 = .ok (.iload_n 1, 1) := by decide +kernel
theorem dX9_fault_1 : decode cX9_fault 1 = .ok (.ifCond .ne 11, 3) := by decide +kernel
theorem dX9_fault_4 : decode cX9_fault 4 = .ok (.aload_n 0, 1) := by decide +kernel
theorem dX9_fault_5 : decode cX9_fault 5 = .ok (.getfield 21, 3) := by decide +kernel
theorem dX9_fault_8 : decode cX9_fault 8 = .ok (.invokevirtual 97, 3) := by decide +kernel
theorem dX9_fault_11 : decode cX9_fault 11 = .ok (.ireturn, 1) := by decide +kernel
theorem dX9_fault_12 : decode cX9_fault 12 = .ok (.iload_n 1, 1) := by decide +kernel
theorem dX9_fault_13 : decode cX9_fault 13 = .ok (.iconst 1, 1) := by decide +kernel
theorem dX9_fault_14 : decode cX9_fault 14 = .ok (.if_icmp .ne 13, 3) := by decide +kernel
theorem dX9_fault_17 : decode cX9_fault 17 = .ok (.aload_n 0, 1) := by decide +kernel
theorem dX9_fault_18 : decode cX9_fault 18 = .ok (.getfield 21, 3) := by decide +kernel
theorem dX9_fault_21 : decode cX9_fault 21 = .ok (.invokevirtual 101, 3) := by decide +kernel
theorem dX9_fault_24 : decode cX9_fault 24 = .ok (.goto 5, 3) := by decide +kernel
theorem dX9_fault_27 : decode cX9_fault 27 = .ok (.bipush (-2), 2) := by decide +kernel
theorem dX9_fault_29 : decode cX9_fault 29 = .ok (.ireturn, 1) := by decide +kernel
theorem dX9_text_0 : decode cX9_text 0 = .ok (.iload_n 1, 1) := by decide +kernel
theorem dX9_text_1 : decode cX9_text 1 = .ok (.ifCond .ne 8, 3) := by decide +kernel
theorem dX9_text_4 : decode cX9_text 4 = .ok (.aload_n 0, 1) := by decide +kernel
theorem dX9_text_5 : decode cX9_text 5 = .ok (.invokevirtual 104, 3) := by decide +kernel
theorem dX9_text_8 : decode cX9_text 8 = .ok (.ireturn, 1) := by decide +kernel
theorem dX9_text_9 : decode cX9_text 9 = .ok (.iload_n 1, 1) := by decide +kernel
theorem dX9_text_10 : decode cX9_text 10 = .ok (.iconst 1, 1) := by decide +kernel
theorem dX9_text_11 : decode cX9_text 11 = .ok (.if_icmp .ne 10, 3) := by decide +kernel
theorem dX9_text_14 : decode cX9_text 14 = .ok (.aload_n 0, 1) := by decide +kernel
theorem dX9_text_15 : decode cX9_text 15 = .ok (.invokevirtual 107, 3) := by decide +kernel
theorem dX9_text_18 : decode cX9_text 18 = .ok (.goto 4, 3) := by decide +kernel
theorem dX9_text_21 : decode cX9_text 21 = .ok (.iconst (-1), 1) := by decide +kernel
theorem dX9_text_22 : decode cX9_text 22 = .ok (.ireturn, 1) := by decide +kernel
theorem dX9_takeHeap_0 : decode cX9_takeHeap 0 = .ok (.aload_n 0, 1) := by decide +kernel
theorem dX9_takeHeap_1 : decode cX9_takeHeap 1 = .ok (.getfield 21, 3) := by decide +kernel
theorem dX9_takeHeap_4 : decode cX9_takeHeap 4 = .ok (.invokevirtual 97, 3) := by decide +kernel
theorem dX9_takeHeap_7 : decode cX9_takeHeap 7 = .ok (.iconst (-1), 1) := by decide +kernel
theorem dX9_takeHeap_8 : decode cX9_takeHeap 8 = .ok (.if_icmp .eq 5, 3) := by decide +kernel
theorem dX9_takeHeap_11 : decode cX9_takeHeap 11 = .ok (.iconst (-1), 1) := by decide +kernel
theorem dX9_takeHeap_12 : decode cX9_takeHeap 12 = .ok (.ireturn, 1) := by decide +kernel
theorem dX9_takeHeap_13 : decode cX9_takeHeap 13 = .ok (.aload_n 0, 1) := by decide +kernel
theorem dX9_takeHeap_14 : decode cX9_takeHeap 14 = .ok (.getfield 21, 3) := by decide +kernel
theorem dX9_takeHeap_17 : decode cX9_takeHeap 17 = .ok (.getfield 110, 3) := by decide +kernel
theorem dX9_takeHeap_20 : decode cX9_takeHeap 20 = .ok (.iconst 0, 1) := by decide +kernel
theorem dX9_takeHeap_21 : decode cX9_takeHeap 21 = .ok (.aload_n 0, 1) := by decide +kernel
theorem dX9_takeHeap_22 : decode cX9_takeHeap 22 = .ok (.getfield 34, 3) := by decide +kernel
theorem dX9_takeHeap_25 : decode cX9_takeHeap 25 = .ok (.iconst 0, 1) := by decide +kernel
theorem dX9_takeHeap_26 : decode cX9_takeHeap 26 = .ok (.iconst 4, 1) := by decide +kernel
theorem dX9_takeHeap_27 : decode cX9_takeHeap 27 = .ok (.invokestatic 111, 3) := by decide +kernel
theorem dX9_takeHeap_30 : decode cX9_takeHeap 30 = .ok (.aload_n 0, 1) := by decide +kernel
theorem dX9_takeHeap_31 : decode cX9_takeHeap 31 = .ok (.getfield 10, 3) := by decide +kernel
theorem dX9_takeHeap_34 : decode cX9_takeHeap 34 = .ok (.iconst 0, 1) := by decide +kernel
theorem dX9_takeHeap_35 : decode cX9_takeHeap 35 = .ok (.putfield 89, 3) := by decide +kernel
theorem dX9_takeHeap_38 : decode cX9_takeHeap 38 = .ok (.aload_n 0, 1) := by decide +kernel
theorem dX9_takeHeap_39 : decode cX9_takeHeap 39 = .ok (.iconst 1, 1) := by decide +kernel
theorem dX9_takeHeap_40 : decode cX9_takeHeap 40 = .ok (.putfield 117, 3) := by decide +kernel
theorem dX9_takeHeap_43 : decode cX9_takeHeap 43 = .ok (.aload_n 0, 1) := by decide +kernel
theorem dX9_takeHeap_44 : decode cX9_takeHeap 44 = .ok (.iconst 0, 1) := by decide +kernel
theorem dX9_takeHeap_45 : decode cX9_takeHeap 45 = .ok (.putfield 121, 3) := by decide +kernel
theorem dX9_takeHeap_48 : decode cX9_takeHeap 48 = .ok (.aload_n 0, 1) := by decide +kernel
theorem dX9_takeHeap_49 : decode cX9_takeHeap 49 = .ok (.getfield 40, 3) := by decide +kernel
theorem dX9_takeHeap_52 : decode cX9_takeHeap 52 = .ok (.invokevirtual 124, 3) := by decide +kernel
theorem dX9_takeHeap_55 : decode cX9_takeHeap 55 = .ok (.aload_n 0, 1) := by decide +kernel
theorem dX9_takeHeap_56 : decode cX9_takeHeap 56 = .ok (.getfield 53, 3) := by decide +kernel
theorem dX9_takeHeap_59 : decode cX9_takeHeap 59 = .ok (.iconst 0, 1) := by decide +kernel
theorem dX9_takeHeap_60 : decode cX9_takeHeap 60 = .ok (.putfield 127, 3) := by decide +kernel
theorem dX9_takeHeap_63 : decode cX9_takeHeap 63 = .ok (.aload_n 0, 1) := by decide +kernel
theorem dX9_takeHeap_64 : decode cX9_takeHeap 64 = .ok (.getfield 34, 3) := by decide +kernel
theorem dX9_takeHeap_67 : decode cX9_takeHeap 67 = .ok (.iconst 0, 1) := by decide +kernel
theorem dX9_takeHeap_68 : decode cX9_takeHeap 68 = .ok (.iaload, 1) := by decide +kernel
theorem dX9_takeHeap_69 : decode cX9_takeHeap 69 = .ok (.iconst 2, 1) := by decide +kernel
theorem dX9_takeHeap_70 : decode cX9_takeHeap 70 = .ok (.aload_n 0, 1) := by decide +kernel
theorem dX9_takeHeap_71 : decode cX9_takeHeap 71 = .ok (.getfield 34, 3) := by decide +kernel
theorem dX9_takeHeap_74 : decode cX9_takeHeap 74 = .ok (.iconst 1, 1) := by decide +kernel
theorem dX9_takeHeap_75 : decode cX9_takeHeap 75 = .ok (.iaload, 1) := by decide +kernel
theorem dX9_takeHeap_76 : decode cX9_takeHeap 76 = .ok (.imul, 1) := by decide +kernel
theorem dX9_takeHeap_77 : decode cX9_takeHeap 77 = .ok (.iadd, 1) := by decide +kernel
theorem dX9_takeHeap_78 : decode cX9_takeHeap 78 = .ok (.aload_n 0, 1) := by decide +kernel
theorem dX9_takeHeap_79 : decode cX9_takeHeap 79 = .ok (.getfield 34, 3) := by decide +kernel
theorem dX9_takeHeap_82 : decode cX9_takeHeap 82 = .ok (.iconst 2, 1) := by decide +kernel
theorem dX9_takeHeap_83 : decode cX9_takeHeap 83 = .ok (.iaload, 1) := by decide +kernel
theorem dX9_takeHeap_84 : decode cX9_takeHeap 84 = .ok (.iadd, 1) := by decide +kernel
theorem dX9_takeHeap_85 : decode cX9_takeHeap 85 = .ok (.ireturn, 1) := by decide +kernel
theorem dX9_takeScript_0 : decode cX9_takeScript 0 = .ok (.aload_n 0, 1) := by decide +kernel
theorem dX9_takeScript_1 : decode cX9_takeScript 1 = .ok (.getfield 128, 3) := by decide +kernel
theorem dX9_takeScript_4 : decode cX9_takeScript 4 = .ok (.iconst 4, 1) := by decide +kernel
theorem dX9_takeScript_5 : decode cX9_takeScript 5 = .ok (.if_icmp .ge 14, 3) := by decide +kernel
theorem dX9_takeScript_8 : decode cX9_takeScript 8 = .ok (.aload_n 0, 1) := by decide +kernel
theorem dX9_takeScript_9 : decode cX9_takeScript 9 = .ok (.getfield 21, 3) := by decide +kernel
theorem dX9_takeScript_12 : decode cX9_takeScript 12 = .ok (.invokevirtual 101, 3) := by decide +kernel
theorem dX9_takeScript_15 : decode cX9_takeScript 15 = .ok (.iconst (-1), 1) := by decide +kernel
theorem dX9_takeScript_16 : decode cX9_takeScript 16 = .ok (.if_icmp .eq 5, 3) := by decide +kernel
theorem dX9_takeScript_19 : decode cX9_takeScript 19 = .ok (.iconst (-1), 1) := by decide +kernel
theorem dX9_takeScript_20 : decode cX9_takeScript 20 = .ok (.ireturn, 1) := by decide +kernel
theorem dX9_takeScript_21 : decode cX9_takeScript 21 = .ok (.aload_n 0, 1) := by decide +kernel
theorem dX9_takeScript_22 : decode cX9_takeScript 22 = .ok (.getfield 21, 3) := by decide +kernel
theorem dX9_takeScript_25 : decode cX9_takeScript 25 = .ok (.getfield 131, 3) := by decide +kernel
theorem dX9_takeScript_28 : decode cX9_takeScript 28 = .ok (.iconst 0, 1) := by decide +kernel
theorem dX9_takeScript_29 : decode cX9_takeScript 29 = .ok (.aload_n 0, 1) := by decide +kernel
theorem dX9_takeScript_30 : decode cX9_takeScript 30 = .ok (.getfield 27, 3) := by decide +kernel
theorem dX9_takeScript_33 : decode cX9_takeScript 33 = .ok (.aload_n 0, 1) := by decide +kernel
theorem dX9_takeScript_34 : decode cX9_takeScript 34 = .ok (.getfield 128, 3) := by decide +kernel
theorem dX9_takeScript_37 : decode cX9_takeScript 37 = .ok (.aaload, 1) := by decide +kernel
theorem dX9_takeScript_38 : decode cX9_takeScript 38 = .ok (.iconst 0, 1) := by decide +kernel
theorem dX9_takeScript_39 : decode cX9_takeScript 39 = .ok (.bipush 80, 2) := by decide +kernel
theorem dX9_takeScript_41 : decode cX9_takeScript 41 = .ok (.invokestatic 111, 3) := by decide +kernel
theorem dX9_takeScript_44 : decode cX9_takeScript 44 = .ok (.aload_n 0, 1) := by decide +kernel
theorem dX9_takeScript_45 : decode cX9_takeScript 45 = .ok (.getfield 30, 3) := by decide +kernel
theorem dX9_takeScript_48 : decode cX9_takeScript 48 = .ok (.aload_n 0, 1) := by decide +kernel
theorem dX9_takeScript_49 : decode cX9_takeScript 49 = .ok (.getfield 128, 3) := by decide +kernel
theorem dX9_takeScript_52 : decode cX9_takeScript 52 = .ok (.aload_n 0, 1) := by decide +kernel
theorem dX9_takeScript_53 : decode cX9_takeScript 53 = .ok (.getfield 21, 3) := by decide +kernel
theorem dX9_takeScript_56 : decode cX9_takeScript 56 = .ok (.getfield 134, 3) := by decide +kernel
theorem dX9_takeScript_59 : decode cX9_takeScript 59 = .ok (.iastore, 1) := by decide +kernel
theorem dX9_takeScript_60 : decode cX9_takeScript 60 = .ok (.aload_n 0, 1) := by decide +kernel
theorem dX9_takeScript_61 : decode cX9_takeScript 61 = .ok (.getfield 10, 3) := by decide +kernel
theorem dX9_takeScript_64 : decode cX9_takeScript 64 = .ok (.iconst 0, 1) := by decide +kernel
theorem dX9_takeScript_65 : decode cX9_takeScript 65 = .ok (.putfield 89, 3) := by decide +kernel
theorem dX9_takeScript_68 : decode cX9_takeScript 68 = .ok (.aload_n 0, 1) := by decide +kernel
theorem dX9_takeScript_69 : decode cX9_takeScript 69 = .ok (.dup, 1) := by decide +kernel
theorem dX9_takeScript_70 : decode cX9_takeScript 70 = .ok (.getfield 128, 3) := by decide +kernel
theorem dX9_takeScript_73 : decode cX9_takeScript 73 = .ok (.iconst 1, 1) := by decide +kernel
theorem dX9_takeScript_74 : decode cX9_takeScript 74 = .ok (.iadd, 1) := by decide +kernel
theorem dX9_takeScript_75 : decode cX9_takeScript 75 = .ok (.putfield 128, 3) := by decide +kernel
theorem dX9_takeScript_78 : decode cX9_takeScript 78 = .ok (.aload_n 0, 1) := by decide +kernel
theorem dX9_takeScript_79 : decode cX9_takeScript 79 = .ok (.getfield 128, 3) := by decide +kernel
theorem dX9_takeScript_82 : decode cX9_takeScript 82 = .ok (.iconst 1, 1) := by decide +kernel
theorem dX9_takeScript_83 : decode cX9_takeScript 83 = .ok (.isub, 1) := by decide +kernel
theorem dX9_takeScript_84 : decode cX9_takeScript 84 = .ok (.ireturn, 1) := by decide +kernel
theorem dX9_rule_0 : decode cX9_rule 0 = .ok (.aload_n 0, 1) := by decide +kernel
theorem dX9_rule_1 : decode cX9_rule 1 = .ok (.getfield 117, 3) := by decide +kernel
theorem dX9_rule_4 : decode cX9_rule 4 = .ok (.ifCond .eq 21, 3) := by decide +kernel
theorem dX9_rule_7 : decode cX9_rule 7 = .ok (.iload_n 1, 1) := by decide +kernel
theorem dX9_rule_8 : decode cX9_rule 8 = .ok (.ifCond .lt 17, 3) := by decide +kernel
theorem dX9_rule_11 : decode cX9_rule 11 = .ok (.iload_n 1, 1) := by decide +kernel
theorem dX9_rule_12 : decode cX9_rule 12 = .ok (.iconst 4, 1) := by decide +kernel
theorem dX9_rule_13 : decode cX9_rule 13 = .ok (.if_icmp .ge 12, 3) := by decide +kernel
theorem dX9_rule_16 : decode cX9_rule 16 = .ok (.aload_n 0, 1) := by decide +kernel
theorem dX9_rule_17 : decode cX9_rule 17 = .ok (.getfield 34, 3) := by decide +kernel
theorem dX9_rule_20 : decode cX9_rule 20 = .ok (.iload_n 1, 1) := by decide +kernel
theorem dX9_rule_21 : decode cX9_rule 21 = .ok (.iaload, 1) := by decide +kernel
theorem dX9_rule_22 : decode cX9_rule 22 = .ok (.goto 4, 3) := by decide +kernel
theorem dX9_rule_25 : decode cX9_rule 25 = .ok (.iconst (-1), 1) := by decide +kernel
theorem dX9_rule_26 : decode cX9_rule 26 = .ok (.ireturn, 1) := by decide +kernel
theorem dX9_root_0 : decode cX9_root 0 = .ok (.aload_n 0, 1) := by decide +kernel
theorem dX9_root_1 : decode cX9_root 1 = .ok (.getfield 117, 3) := by decide +kernel
theorem dX9_root_4 : decode cX9_root 4 = .ok (.ifCond .eq 29, 3) := by decide +kernel
theorem dX9_root_7 : decode cX9_root 7 = .ok (.iload_n 1, 1) := by decide +kernel
theorem dX9_root_8 : decode cX9_root 8 = .ok (.invokestatic 137, 3) := by decide +kernel
theorem dX9_root_11 : decode cX9_root 11 = .ok (.ifCond .eq 22, 3) := by decide +kernel
theorem dX9_root_14 : decode cX9_root 14 = .ok (.aload_n 0, 1) := by decide +kernel
theorem dX9_root_15 : decode cX9_root 15 = .ok (.getfield 40, 3) := by decide +kernel
theorem dX9_root_18 : decode cX9_root 18 = .ok (.aload_n 0, 1) := by decide +kernel
theorem dX9_root_19 : decode cX9_root 19 = .ok (.getfield 40, 3) := by decide +kernel
theorem dX9_root_22 : decode cX9_root 22 = .ok (.getfield 141, 3) := by decide +kernel
theorem dX9_root_25 : decode cX9_root 25 = .ok (.iload_n 1, 1) := by decide +kernel
theorem dX9_root_26 : decode cX9_root 26 = .ok (.iaload, 1) := by decide +kernel
theorem dX9_root_27 : decode cX9_root 27 = .ok (.invokevirtual 144, 3) := by decide +kernel
theorem dX9_root_30 : decode cX9_root 30 = .ok (.goto 4, 3) := by decide +kernel
theorem dX9_root_33 : decode cX9_root 33 = .ok (.iconst (-1), 1) := by decide +kernel
theorem dX9_root_34 : decode cX9_root 34 = .ok (.ireturn, 1) := by decide +kernel
theorem dX9_thing_0 : decode cX9_thing 0 = .ok (.aload_n 0, 1) := by decide +kernel
theorem dX9_thing_1 : decode cX9_thing 1 = .ok (.getfield 40, 3) := by decide +kernel
theorem dX9_thing_4 : decode cX9_thing 4 = .ok (.iload_n 1, 1) := by decide +kernel
theorem dX9_thing_5 : decode cX9_thing 5 = .ok (.invokevirtual 147, 3) := by decide +kernel
theorem dX9_thing_8 : decode cX9_thing 8 = .ok (.istore_n 3, 1) := by decide +kernel
theorem dX9_thing_9 : decode cX9_thing 9 = .ok (.iload_n 3, 1) := by decide +kernel
theorem dX9_thing_10 : decode cX9_thing 10 = .ok (.iconst (-1), 1) := by decide +kernel
theorem dX9_thing_11 : decode cX9_thing 11 = .ok (.if_icmp .eq 13, 3) := by decide +kernel
theorem dX9_thing_14 : decode cX9_thing 14 = .ok (.iload_n 2, 1) := by decide +kernel
theorem dX9_thing_15 : decode cX9_thing 15 = .ok (.ifCond .lt 9, 3) := by decide +kernel
theorem dX9_thing_18 : decode cX9_thing 18 = .ok (.iload_n 2, 1) := by decide +kernel
theorem dX9_thing_19 : decode cX9_thing 19 = .ok (.bipush 7, 2) := by decide +kernel
theorem dX9_thing_21 : decode cX9_thing 21 = .ok (.if_icmp .le 11, 3) := by decide +kernel
theorem dX9_thing_24 : decode cX9_thing 24 = .ok (.new 150, 3) := by decide +kernel
theorem dX9_thing_27 : decode cX9_thing 27 = .ok (.dup, 1) := by decide +kernel
theorem dX9_thing_28 : decode cX9_thing 28 = .ok (.invokespecial 152, 3) := by decide +kernel
theorem dX9_thing_31 : decode cX9_thing 31 = .ok (.athrow, 1) := by decide +kernel
theorem dX9_thing_32 : decode cX9_thing 32 = .ok (.iload_n 2, 1) := by decide +kernel
theorem dX9_thing_33 : decode cX9_thing 33 = .ok (.tableswitch 117 0 6 #[43, 53, 63, 73, 83, 93, 103], 43) := by decide +kernel
theorem dX9_thing_76 : decode cX9_thing 76 = .ok (.aload_n 0, 1) := by decide +kernel
theorem dX9_thing_77 : decode cX9_thing 77 = .ok (.getfield 40, 3) := by decide +kernel
theorem dX9_thing_80 : decode cX9_thing 80 = .ok (.getfield 153, 3) := by decide +kernel
theorem dX9_thing_83 : decode cX9_thing 83 = .ok (.iload_n 3, 1) := by decide +kernel
theorem dX9_thing_84 : decode cX9_thing 84 = .ok (.iaload, 1) := by decide +kernel
theorem dX9_thing_85 : decode cX9_thing 85 = .ok (.ireturn, 1) := by decide +kernel
theorem dX9_thing_86 : decode cX9_thing 86 = .ok (.aload_n 0, 1) := by decide +kernel
theorem dX9_thing_87 : decode cX9_thing 87 = .ok (.getfield 40, 3) := by decide +kernel
theorem dX9_thing_90 : decode cX9_thing 90 = .ok (.getfield 156, 3) := by decide +kernel
theorem dX9_thing_93 : decode cX9_thing 93 = .ok (.iload_n 3, 1) := by decide +kernel
theorem dX9_thing_94 : decode cX9_thing 94 = .ok (.iaload, 1) := by decide +kernel
theorem dX9_thing_95 : decode cX9_thing 95 = .ok (.ireturn, 1) := by decide +kernel
theorem dX9_thing_96 : decode cX9_thing 96 = .ok (.aload_n 0, 1) := by decide +kernel
theorem dX9_thing_97 : decode cX9_thing 97 = .ok (.getfield 40, 3) := by decide +kernel
theorem dX9_thing_100 : decode cX9_thing 100 = .ok (.getfield 159, 3) := by decide +kernel
theorem dX9_thing_103 : decode cX9_thing 103 = .ok (.iload_n 3, 1) := by decide +kernel
theorem dX9_thing_104 : decode cX9_thing 104 = .ok (.iaload, 1) := by decide +kernel
theorem dX9_thing_105 : decode cX9_thing 105 = .ok (.ireturn, 1) := by decide +kernel
theorem dX9_thing_106 : decode cX9_thing 106 = .ok (.aload_n 0, 1) := by decide +kernel
theorem dX9_thing_107 : decode cX9_thing 107 = .ok (.getfield 40, 3) := by decide +kernel
theorem dX9_thing_110 : decode cX9_thing 110 = .ok (.getfield 162, 3) := by decide +kernel
theorem dX9_thing_113 : decode cX9_thing 113 = .ok (.iload_n 3, 1) := by decide +kernel
theorem dX9_thing_114 : decode cX9_thing 114 = .ok (.iaload, 1) := by decide +kernel
theorem dX9_thing_115 : decode cX9_thing 115 = .ok (.ireturn, 1) := by decide +kernel
theorem dX9_thing_116 : decode cX9_thing 116 = .ok (.aload_n 0, 1) := by decide +kernel
theorem dX9_thing_117 : decode cX9_thing 117 = .ok (.getfield 40, 3) := by decide +kernel
theorem dX9_thing_120 : decode cX9_thing 120 = .ok (.getfield 165, 3) := by decide +kernel
theorem dX9_thing_123 : decode cX9_thing 123 = .ok (.iload_n 3, 1) := by decide +kernel
theorem dX9_thing_124 : decode cX9_thing 124 = .ok (.iaload, 1) := by decide +kernel
theorem dX9_thing_125 : decode cX9_thing 125 = .ok (.ireturn, 1) := by decide +kernel
theorem dX9_thing_126 : decode cX9_thing 126 = .ok (.aload_n 0, 1) := by decide +kernel
theorem dX9_thing_127 : decode cX9_thing 127 = .ok (.getfield 40, 3) := by decide +kernel
theorem dX9_thing_130 : decode cX9_thing 130 = .ok (.getfield 168, 3) := by decide +kernel
theorem dX9_thing_133 : decode cX9_thing 133 = .ok (.iload_n 3, 1) := by decide +kernel
theorem dX9_thing_134 : decode cX9_thing 134 = .ok (.iaload, 1) := by decide +kernel
theorem dX9_thing_135 : decode cX9_thing 135 = .ok (.ireturn, 1) := by decide +kernel
theorem dX9_thing_136 : decode cX9_thing 136 = .ok (.aload_n 0, 1) := by decide +kernel
theorem dX9_thing_137 : decode cX9_thing 137 = .ok (.iload_n 3, 1) := by decide +kernel
theorem dX9_thing_138 : decode cX9_thing 138 = .ok (.invokevirtual 171, 3) := by decide +kernel
theorem dX9_thing_141 : decode cX9_thing 141 = .ok (.ifCond .eq 7, 3) := by decide +kernel
theorem dX9_thing_144 : decode cX9_thing 144 = .ok (.iconst 1, 1) := by decide +kernel
theorem dX9_thing_145 : decode cX9_thing 145 = .ok (.goto 4, 3) := by decide +kernel
theorem dX9_thing_148 : decode cX9_thing 148 = .ok (.iconst 0, 1) := by decide +kernel
theorem dX9_thing_149 : decode cX9_thing 149 = .ok (.ireturn, 1) := by decide +kernel
theorem dX9_thing_150 : decode cX9_thing 150 = .ok (.aload_n 0, 1) := by decide +kernel
theorem dX9_thing_151 : decode cX9_thing 151 = .ok (.getfield 40, 3) := by decide +kernel
theorem dX9_thing_154 : decode cX9_thing 154 = .ok (.getfield 174, 3) := by decide +kernel
theorem dX9_thing_157 : decode cX9_thing 157 = .ok (.iload_n 3, 1) := by decide +kernel
theorem dX9_thing_158 : decode cX9_thing 158 = .ok (.invokevirtual 178, 3) := by decide +kernel
theorem dX9_thing_161 : decode cX9_thing 161 = .ok (.ifCond .eq 7, 3) := by decide +kernel
theorem dX9_thing_164 : decode cX9_thing 164 = .ok (.iconst 1, 1) := by decide +kernel
theorem dX9_thing_165 : decode cX9_thing 165 = .ok (.goto 4, 3) := by decide +kernel
theorem dX9_thing_168 : decode cX9_thing 168 = .ok (.iconst 0, 1) := by decide +kernel
theorem dX9_thing_169 : decode cX9_thing 169 = .ok (.ireturn, 1) := by decide +kernel
theorem dX9_field_0 : decode cX9_field 0 = .ok (.aload_n 0, 1) := by decide +kernel
theorem dX9_field_1 : decode cX9_field 1 = .ok (.getfield 40, 3) := by decide +kernel
theorem dX9_field_4 : decode cX9_field 4 = .ok (.iload_n 1, 1) := by decide +kernel
theorem dX9_field_5 : decode cX9_field 5 = .ok (.invokevirtual 147, 3) := by decide +kernel
theorem dX9_field_8 : decode cX9_field 8 = .ok (.istore_n 3, 1) := by decide +kernel
theorem dX9_field_9 : decode cX9_field 9 = .ok (.aload_n 0, 1) := by decide +kernel
theorem dX9_field_10 : decode cX9_field 10 = .ok (.getfield 40, 3) := by decide +kernel
theorem dX9_field_13 : decode cX9_field 13 = .ok (.iload_n 3, 1) := by decide +kernel
theorem dX9_field_14 : decode cX9_field 14 = .ok (.iload_n 2, 1) := by decide +kernel
theorem dX9_field_15 : decode cX9_field 15 = .ok (.invokevirtual 183, 3) := by decide +kernel
theorem dX9_field_18 : decode cX9_field 18 = .ok (.ifCond .eq 22, 3) := by decide +kernel
theorem dX9_field_21 : decode cX9_field 21 = .ok (.aload_n 0, 1) := by decide +kernel
theorem dX9_field_22 : decode cX9_field 22 = .ok (.getfield 40, 3) := by decide +kernel
theorem dX9_field_25 : decode cX9_field 25 = .ok (.aload_n 0, 1) := by decide +kernel
theorem dX9_field_26 : decode cX9_field 26 = .ok (.getfield 40, 3) := by decide +kernel
theorem dX9_field_29 : decode cX9_field 29 = .ok (.iload_n 3, 1) := by decide +kernel
theorem dX9_field_30 : decode cX9_field 30 = .ok (.iload_n 2, 1) := by decide +kernel
theorem dX9_field_31 : decode cX9_field 31 = .ok (.invokevirtual 187, 3) := by decide +kernel
theorem dX9_field_34 : decode cX9_field 34 = .ok (.invokevirtual 144, 3) := by decide +kernel
theorem dX9_field_37 : decode cX9_field 37 = .ok (.goto 4, 3) := by decide +kernel
theorem dX9_field_40 : decode cX9_field 40 = .ok (.iconst (-1), 1) := by decide +kernel
theorem dX9_field_41 : decode cX9_field 41 = .ok (.ireturn, 1) := by decide +kernel
theorem dX9_at_0 : decode cX9_at 0 = .ok (.aload_n 0, 1) := by decide +kernel
theorem dX9_at_1 : decode cX9_at 1 = .ok (.getfield 40, 3) := by decide +kernel
theorem dX9_at_4 : decode cX9_at 4 = .ok (.iload_n 1, 1) := by decide +kernel
theorem dX9_at_5 : decode cX9_at 5 = .ok (.iload_n 2, 1) := by decide +kernel
theorem dX9_at_6 : decode cX9_at 6 = .ok (.invokevirtual 191, 3) := by decide +kernel
theorem dX9_at_9 : decode cX9_at 9 = .ok (.istore_n 3, 1) := by decide +kernel
theorem dX9_at_10 : decode cX9_at 10 = .ok (.iload_n 3, 1) := by decide +kernel
theorem dX9_at_11 : decode cX9_at 11 = .ok (.iconst (-1), 1) := by decide +kernel
theorem dX9_at_12 : decode cX9_at 12 = .ok (.if_icmp .ne 7, 3) := by decide +kernel
theorem dX9_at_15 : decode cX9_at 15 = .ok (.iconst (-1), 1) := by decide +kernel
theorem dX9_at_16 : decode cX9_at 16 = .ok (.goto 11, 3) := by decide +kernel
theorem dX9_at_19 : decode cX9_at 19 = .ok (.aload_n 0, 1) := by decide +kernel
theorem dX9_at_20 : decode cX9_at 20 = .ok (.getfield 40, 3) := by decide +kernel
theorem dX9_at_23 : decode cX9_at 23 = .ok (.iload_n 3, 1) := by decide +kernel
theorem dX9_at_24 : decode cX9_at 24 = .ok (.invokevirtual 144, 3) := by decide +kernel
theorem dX9_at_27 : decode cX9_at 27 = .ok (.ireturn, 1) := by decide +kernel
theorem dX9_isRoot_0 : decode cX9_isRoot 0 = .ok (.iload_n 0, 1) := by decide +kernel
theorem dX9_isRoot_1 : decode cX9_isRoot 1 = .ok (.ifCond .lt 13, 3) := by decide +kernel
theorem dX9_isRoot_4 : decode cX9_isRoot 4 = .ok (.iload_n 0, 1) := by decide +kernel
theorem dX9_isRoot_5 : decode cX9_isRoot 5 = .ok (.bipush 8, 2) := by decide +kernel
theorem dX9_isRoot_7 : decode cX9_isRoot 7 = .ok (.if_icmp .ge 7, 3) := by decide +kernel
theorem dX9_isRoot_10 : decode cX9_isRoot 10 = .ok (.iconst 1, 1) := by decide +kernel
theorem dX9_isRoot_11 : decode cX9_isRoot 11 = .ok (.goto 4, 3) := by decide +kernel
theorem dX9_isRoot_14 : decode cX9_isRoot 14 = .ok (.iconst 0, 1) := by decide +kernel
theorem dX9_isRoot_15 : decode cX9_isRoot 15 = .ok (.ireturn, 1) := by decide +kernel
theorem dX9_isReached_0 : decode cX9_isReached 0 = .ok (.aload_n 0, 1) := by decide +kernel
theorem dX9_isReached_1 : decode cX9_isReached 1 = .ok (.getfield 60, 3) := by decide +kernel
theorem dX9_isReached_4 : decode cX9_isReached 4 = .ok (.aload_n 0, 1) := by decide +kernel
theorem dX9_isReached_5 : decode cX9_isReached 5 = .ok (.getfield 40, 3) := by decide +kernel
theorem dX9_isReached_8 : decode cX9_isReached 8 = .ok (.iconst (-1), 1) := by decide +kernel
theorem dX9_isReached_9 : decode cX9_isReached 9 = .ok (.invokevirtual 194, 3) := by decide +kernel
theorem dX9_isReached_12 : decode cX9_isReached 12 = .ok (.aload_n 0, 1) := by decide +kernel
theorem dX9_isReached_13 : decode cX9_isReached 13 = .ok (.getfield 60, 3) := by decide +kernel
theorem dX9_isReached_16 : decode cX9_isReached 16 = .ok (.iload_n 1, 1) := by decide +kernel
theorem dX9_isReached_17 : decode cX9_isReached 17 = .ok (.invokevirtual 198, 3) := by decide +kernel
theorem dX9_isReached_20 : decode cX9_isReached 20 = .ok (.ireturn, 1) := by decide +kernel
theorem dX9_make_0 : decode cX9_make 0 = .ok (.aload_n 0, 1) := by decide +kernel
theorem dX9_make_1 : decode cX9_make 1 = .ok (.iconst 0, 1) := by decide +kernel
theorem dX9_make_2 : decode cX9_make 2 = .ok (.iload_n 1, 1) := by decide +kernel
theorem dX9_make_3 : decode cX9_make 3 = .ok (.iload_n 2, 1) := by decide +kernel
theorem dX9_make_4 : decode cX9_make 4 = .ok (.iload_n 3, 1) := by decide +kernel
theorem dX9_make_5 : decode cX9_make 5 = .ok (.iload 4, 2) := by decide +kernel
theorem dX9_make_7 : decode cX9_make 7 = .ok (.iconst 1, 1) := by decide +kernel
theorem dX9_make_8 : decode cX9_make 8 = .ok (.invokevirtual 201, 3) := by decide +kernel
theorem dX9_make_11 : decode cX9_make 11 = .ok (.ireturn, 1) := by decide +kernel
theorem dX9_link_0 : decode cX9_link 0 = .ok (.aload_n 0, 1) := by decide +kernel
theorem dX9_link_1 : decode cX9_link 1 = .ok (.iconst 1, 1) := by decide +kernel
theorem dX9_link_2 : decode cX9_link 2 = .ok (.iload_n 1, 1) := by decide +kernel
theorem dX9_link_3 : decode cX9_link 3 = .ok (.iload_n 2, 1) := by decide +kernel
theorem dX9_link_4 : decode cX9_link 4 = .ok (.iload_n 3, 1) := by decide +kernel
theorem dX9_link_5 : decode cX9_link 5 = .ok (.iconst (-1), 1) := by decide +kernel
theorem dX9_link_6 : decode cX9_link 6 = .ok (.iconst 1, 1) := by decide +kernel
theorem dX9_link_7 : decode cX9_link 7 = .ok (.invokevirtual 201, 3) := by decide +kernel
theorem dX9_link_10 : decode cX9_link 10 = .ok (.ireturn, 1) := by decide +kernel
theorem dX9_load_0 : decode cX9_load 0 = .ok (.aload_n 0, 1) := by decide +kernel
theorem dX9_load_1 : decode cX9_load 1 = .ok (.iconst 2, 1) := by decide +kernel
theorem dX9_load_2 : decode cX9_load 2 = .ok (.iload_n 1, 1) := by decide +kernel
theorem dX9_load_3 : decode cX9_load 3 = .ok (.iload_n 2, 1) := by decide +kernel
theorem dX9_load_4 : decode cX9_load 4 = .ok (.iload_n 3, 1) := by decide +kernel
theorem dX9_load_5 : decode cX9_load 5 = .ok (.iconst (-1), 1) := by decide +kernel
theorem dX9_load_6 : decode cX9_load 6 = .ok (.iconst 1, 1) := by decide +kernel
theorem dX9_load_7 : decode cX9_load 7 = .ok (.invokevirtual 201, 3) := by decide +kernel
theorem dX9_load_10 : decode cX9_load 10 = .ok (.ireturn, 1) := by decide +kernel
theorem dX9_drop_0 : decode cX9_drop 0 = .ok (.aload_n 0, 1) := by decide +kernel
theorem dX9_drop_1 : decode cX9_drop 1 = .ok (.iconst 3, 1) := by decide +kernel
theorem dX9_drop_2 : decode cX9_drop 2 = .ok (.iload_n 1, 1) := by decide +kernel
theorem dX9_drop_3 : decode cX9_drop 3 = .ok (.iconst (-1), 1) := by decide +kernel
theorem dX9_drop_4 : decode cX9_drop 4 = .ok (.iconst (-1), 1) := by decide +kernel
theorem dX9_drop_5 : decode cX9_drop 5 = .ok (.iconst (-1), 1) := by decide +kernel
theorem dX9_drop_6 : decode cX9_drop 6 = .ok (.iconst 1, 1) := by decide +kernel
theorem dX9_drop_7 : decode cX9_drop 7 = .ok (.invokevirtual 201, 3) := by decide +kernel
theorem dX9_drop_10 : decode cX9_drop 10 = .ok (.ireturn, 1) := by decide +kernel
theorem dX9_minor_0 : decode cX9_minor 0 = .ok (.aload_n 0, 1) := by decide +kernel
theorem dX9_minor_1 : decode cX9_minor 1 = .ok (.iconst 4, 1) := by decide +kernel
theorem dX9_minor_2 : decode cX9_minor 2 = .ok (.iconst (-1), 1) := by decide +kernel
theorem dX9_minor_3 : decode cX9_minor 3 = .ok (.iconst (-1), 1) := by decide +kernel
theorem dX9_minor_4 : decode cX9_minor 4 = .ok (.iconst (-1), 1) := by decide +kernel
theorem dX9_minor_5 : decode cX9_minor 5 = .ok (.iconst (-1), 1) := by decide +kernel
theorem dX9_minor_6 : decode cX9_minor 6 = .ok (.iconst 1, 1) := by decide +kernel
theorem dX9_minor_7 : decode cX9_minor 7 = .ok (.invokevirtual 201, 3) := by decide +kernel
theorem dX9_minor_10 : decode cX9_minor 10 = .ok (.ireturn, 1) := by decide +kernel
theorem dX9_major_0 : decode cX9_major 0 = .ok (.aload_n 0, 1) := by decide +kernel
theorem dX9_major_1 : decode cX9_major 1 = .ok (.iconst 5, 1) := by decide +kernel
theorem dX9_major_2 : decode cX9_major 2 = .ok (.iconst (-1), 1) := by decide +kernel
theorem dX9_major_3 : decode cX9_major 3 = .ok (.iconst (-1), 1) := by decide +kernel
theorem dX9_major_4 : decode cX9_major 4 = .ok (.iconst (-1), 1) := by decide +kernel
theorem dX9_major_5 : decode cX9_major 5 = .ok (.iconst (-1), 1) := by decide +kernel
theorem dX9_major_6 : decode cX9_major 6 = .ok (.iconst 1, 1) := by decide +kernel
theorem dX9_major_7 : decode cX9_major 7 = .ok (.invokevirtual 201, 3) := by decide +kernel
theorem dX9_major_10 : decode cX9_major 10 = .ok (.ireturn, 1) := by decide +kernel
theorem dX9_tell_0 : decode cX9_tell 0 = .ok (.aload_n 0, 1) := by decide +kernel
theorem dX9_tell_1 : decode cX9_tell 1 = .ok (.bipush 6, 2) := by decide +kernel
theorem dX9_tell_3 : decode cX9_tell 3 = .ok (.iload_n 1, 1) := by decide +kernel
theorem dX9_tell_4 : decode cX9_tell 4 = .ok (.iconst (-1), 1) := by decide +kernel
theorem dX9_tell_5 : decode cX9_tell 5 = .ok (.iconst (-1), 1) := by decide +kernel
theorem dX9_tell_6 : decode cX9_tell 6 = .ok (.iconst (-1), 1) := by decide +kernel
theorem dX9_tell_7 : decode cX9_tell 7 = .ok (.iconst 1, 1) := by decide +kernel
theorem dX9_tell_8 : decode cX9_tell 8 = .ok (.invokevirtual 201, 3) := by decide +kernel
theorem dX9_tell_11 : decode cX9_tell 11 = .ok (.ireturn, 1) := by decide +kernel
theorem dX9_ask_0 : decode cX9_ask 0 = .ok (.aload_n 0, 1) := by decide +kernel
theorem dX9_ask_1 : decode cX9_ask 1 = .ok (.bipush 7, 2) := by decide +kernel
theorem dX9_ask_3 : decode cX9_ask 3 = .ok (.iconst (-1), 1) := by decide +kernel
theorem dX9_ask_4 : decode cX9_ask 4 = .ok (.iconst (-1), 1) := by decide +kernel
theorem dX9_ask_5 : decode cX9_ask 5 = .ok (.iconst (-1), 1) := by decide +kernel
theorem dX9_ask_6 : decode cX9_ask 6 = .ok (.iconst (-1), 1) := by decide +kernel
theorem dX9_ask_7 : decode cX9_ask 7 = .ok (.iconst 1, 1) := by decide +kernel
theorem dX9_ask_8 : decode cX9_ask 8 = .ok (.invokevirtual 201, 3) := by decide +kernel
theorem dX9_ask_11 : decode cX9_ask 11 = .ok (.ireturn, 1) := by decide +kernel
theorem dX9_years_0 : decode cX9_years 0 = .ok (.aload_n 0, 1) := by decide +kernel
theorem dX9_years_1 : decode cX9_years 1 = .ok (.getfield 117, 3) := by decide +kernel
theorem dX9_years_4 : decode cX9_years 4 = .ok (.ifCond .eq 14, 3) := by decide +kernel
theorem dX9_years_7 : decode cX9_years 7 = .ok (.iload_n 1, 1) := by decide +kernel
theorem dX9_years_8 : decode cX9_years 8 = .ok (.iconst 1, 1) := by decide +kernel
theorem dX9_years_9 : decode cX9_years 9 = .ok (.if_icmp .lt 9, 3) := by decide +kernel
theorem dX9_years_12 : decode cX9_years 12 = .ok (.iload_n 1, 1) := by decide +kernel
theorem dX9_years_13 : decode cX9_years 13 = .ok (.bipush 40, 2) := by decide +kernel
theorem dX9_years_15 : decode cX9_years 15 = .ok (.if_icmp .le 5, 3) := by decide +kernel
theorem dX9_years_18 : decode cX9_years 18 = .ok (.iconst (-1), 1) := by decide +kernel
theorem dX9_years_19 : decode cX9_years 19 = .ok (.ireturn, 1) := by decide +kernel
theorem dX9_years_20 : decode cX9_years 20 = .ok (.new 205, 3) := by decide +kernel
theorem dX9_years_23 : decode cX9_years 23 = .ok (.dup, 1) := by decide +kernel
theorem dX9_years_24 : decode cX9_years 24 = .ok (.lload_n 2, 1) := by decide +kernel
theorem dX9_years_25 : decode cX9_years 25 = .ok (.invokespecial 207, 3) := by decide +kernel
theorem dX9_years_28 : decode cX9_years 28 = .ok (.astore 4, 2) := by decide +kernel
theorem dX9_years_30 : decode cX9_years 30 = .ok (.iconst 0, 1) := by decide +kernel
theorem dX9_years_31 : decode cX9_years 31 = .ok (.istore 5, 2) := by decide +kernel
theorem dX9_years_33 : decode cX9_years 33 = .ok (.iload 5, 2) := by decide +kernel
theorem dX9_years_35 : decode cX9_years 35 = .ok (.iload_n 1, 1) := by decide +kernel
theorem dX9_years_36 : decode cX9_years 36 = .ok (.if_icmp .ge 45, 3) := by decide +kernel
theorem dX9_years_39 : decode cX9_years 39 = .ok (.aload 4, 2) := by decide +kernel
theorem dX9_years_41 : decode cX9_years 41 = .ok (.invokevirtual 210, 3) := by decide +kernel
theorem dX9_years_44 : decode cX9_years 44 = .ok (.aload_n 0, 1) := by decide +kernel
theorem dX9_years_45 : decode cX9_years 45 = .ok (.aload 4, 2) := by decide +kernel
theorem dX9_years_47 : decode cX9_years 47 = .ok (.getfield 213, 3) := by decide +kernel
theorem dX9_years_50 : decode cX9_years 50 = .ok (.aload 4, 2) := by decide +kernel
theorem dX9_years_52 : decode cX9_years 52 = .ok (.getfield 216, 3) := by decide +kernel
theorem dX9_years_55 : decode cX9_years 55 = .ok (.aload 4, 2) := by decide +kernel
theorem dX9_years_57 : decode cX9_years 57 = .ok (.getfield 219, 3) := by decide +kernel
theorem dX9_years_60 : decode cX9_years 60 = .ok (.aload 4, 2) := by decide +kernel
theorem dX9_years_62 : decode cX9_years 62 = .ok (.getfield 222, 3) := by decide +kernel
theorem dX9_years_65 : decode cX9_years 65 = .ok (.aload 4, 2) := by decide +kernel
theorem dX9_years_67 : decode cX9_years 67 = .ok (.getfield 225, 3) := by decide +kernel
theorem dX9_years_70 : decode cX9_years 70 = .ok (.iconst 0, 1) := by decide +kernel
theorem dX9_years_71 : decode cX9_years 71 = .ok (.invokevirtual 201, 3) := by decide +kernel
theorem dX9_years_74 : decode cX9_years 74 = .ok (.pop, 1) := by decide +kernel
theorem dX9_years_75 : decode cX9_years 75 = .ok (.iinc 5 1, 3) := by decide +kernel
theorem dX9_years_78 : decode cX9_years 78 = .ok (.goto (-45), 3) := by decide +kernel
theorem dX9_years_81 : decode cX9_years 81 = .ok (.aload_n 0, 1) := by decide +kernel
theorem dX9_years_82 : decode cX9_years 82 = .ok (.getfield 40, 3) := by decide +kernel
theorem dX9_years_85 : decode cX9_years 85 = .ok (.invokevirtual 228, 3) := by decide +kernel
theorem dX9_years_88 : decode cX9_years 88 = .ok (.ireturn, 1) := by decide +kernel
theorem dX9_act_0 : decode cX9_act 0 = .ok (.iconst (-1), 1) := by decide +kernel
theorem dX9_act_1 : decode cX9_act 1 = .ok (.istore 7, 2) := by decide +kernel
theorem dX9_act_3 : decode cX9_act 3 = .ok (.aload_n 0, 1) := by decide +kernel
theorem dX9_act_4 : decode cX9_act 4 = .ok (.getfield 117, 3) := by decide +kernel
theorem dX9_act_7 : decode cX9_act 7 = .ok (.ifCond .eq 34, 3) := by decide +kernel
theorem dX9_act_10 : decode cX9_act 10 = .ok (.aload_n 0, 1) := by decide +kernel
theorem dX9_act_11 : decode cX9_act 11 = .ok (.getfield 53, 3) := by decide +kernel
theorem dX9_act_14 : decode cX9_act 14 = .ok (.aload_n 0, 1) := by decide +kernel
theorem dX9_act_15 : decode cX9_act 15 = .ok (.getfield 40, 3) := by decide +kernel
theorem dX9_act_18 : decode cX9_act 18 = .ok (.invokevirtual 231, 3) := by decide +kernel
theorem dX9_act_21 : decode cX9_act 21 = .ok (.aload_n 0, 1) := by decide +kernel
theorem dX9_act_22 : decode cX9_act 22 = .ok (.getfield 78, 3) := by decide +kernel
theorem dX9_act_25 : decode cX9_act 25 = .ok (.aload_n 0, 1) := by decide +kernel
theorem dX9_act_26 : decode cX9_act 26 = .ok (.getfield 40, 3) := by decide +kernel
theorem dX9_act_29 : decode cX9_act 29 = .ok (.iload_n 1, 1) := by decide +kernel
theorem dX9_act_30 : decode cX9_act 30 = .ok (.iload_n 2, 1) := by decide +kernel
theorem dX9_act_31 : decode cX9_act 31 = .ok (.iload_n 3, 1) := by decide +kernel
theorem dX9_act_32 : decode cX9_act 32 = .ok (.iload 4, 2) := by decide +kernel
theorem dX9_act_34 : decode cX9_act 34 = .ok (.iload 5, 2) := by decide +kernel
theorem dX9_act_36 : decode cX9_act 36 = .ok (.invokevirtual 235, 3) := by decide +kernel
theorem dX9_act_39 : decode cX9_act 39 = .ok (.istore 7, 2) := by decide +kernel
theorem dX9_act_41 : decode cX9_act 41 = .ok (.iload 7, 2) := by decide +kernel
theorem dX9_act_43 : decode cX9_act 43 = .ok (.ifCond .lt 13, 3) := by decide +kernel
theorem dX9_act_46 : decode cX9_act 46 = .ok (.aload_n 0, 1) := by decide +kernel
theorem dX9_act_47 : decode cX9_act 47 = .ok (.getfield 53, 3) := by decide +kernel
theorem dX9_act_50 : decode cX9_act 50 = .ok (.invokevirtual 239, 3) := by decide +kernel
theorem dX9_act_53 : decode cX9_act 53 = .ok (.iload 7, 2) := by decide +kernel
theorem dX9_act_55 : decode cX9_act 55 = .ok (.ireturn, 1) := by decide +kernel
theorem dX9_act_56 : decode cX9_act 56 = .ok (.iconst (-1), 1) := by decide +kernel
theorem dX9_act_57 : decode cX9_act 57 = .ok (.iload 7, 2) := by decide +kernel
theorem dX9_act_59 : decode cX9_act 59 = .ok (.isub, 1) := by decide +kernel
theorem dX9_act_60 : decode cX9_act 60 = .ok (.istore 8, 2) := by decide +kernel
theorem dX9_act_62 : decode cX9_act 62 = .ok (.iload 6, 2) := by decide +kernel
theorem dX9_act_64 : decode cX9_act 64 = .ok (.ifCond .eq 25, 3) := by decide +kernel
theorem dX9_act_67 : decode cX9_act 67 = .ok (.iload 8, 2) := by decide +kernel
theorem dX9_act_69 : decode cX9_act 69 = .ok (.ifCond .lt 20, 3) := by decide +kernel
theorem dX9_act_72 : decode cX9_act 72 = .ok (.iload 8, 2) := by decide +kernel
theorem dX9_act_74 : decode cX9_act 74 = .ok (.iconst 4, 1) := by decide +kernel
theorem dX9_act_75 : decode cX9_act 75 = .ok (.if_icmp .ge 14, 3) := by decide +kernel
theorem dX9_act_78 : decode cX9_act 78 = .ok (.aload_n 0, 1) := by decide +kernel
theorem dX9_act_79 : decode cX9_act 79 = .ok (.getfield 82, 3) := by decide +kernel
theorem dX9_act_82 : decode cX9_act 82 = .ok (.iload 8, 2) := by decide +kernel
theorem dX9_act_84 : decode cX9_act 84 = .ok (.dup2, 1) := by decide +kernel
theorem dX9_act_85 : decode cX9_act 85 = .ok (.iaload, 1) := by decide +kernel
theorem dX9_act_86 : decode cX9_act 86 = .ok (.iconst 1, 1) := by decide +kernel
theorem dX9_act_87 : decode cX9_act 87 = .ok (.iadd, 1) := by decide +kernel
theorem dX9_act_88 : decode cX9_act 88 = .ok (.iastore, 1) := by decide +kernel
theorem dX9_act_89 : decode cX9_act 89 = .ok (.iconst (-1), 1) := by decide +kernel
theorem dX9_act_90 : decode cX9_act 90 = .ok (.ireturn, 1) := by decide +kernel
theorem dX9_status_0 : decode cX9_status 0 = .ok (.iload_n 1, 1) := by decide +kernel
theorem dX9_status_1 : decode cX9_status 1 = .ok (.ifCond .lt 17, 3) := by decide +kernel
theorem dX9_status_4 : decode cX9_status 4 = .ok (.iload_n 1, 1) := by decide +kernel
theorem dX9_status_5 : decode cX9_status 5 = .ok (.iconst 4, 1) := by decide +kernel
theorem dX9_status_6 : decode cX9_status 6 = .ok (.if_icmp .ge 12, 3) := by decide +kernel
theorem dX9_status_9 : decode cX9_status 9 = .ok (.aload_n 0, 1) := by decide +kernel
theorem dX9_status_10 : decode cX9_status 10 = .ok (.getfield 82, 3) := by decide +kernel
theorem dX9_status_13 : decode cX9_status 13 = .ok (.iload_n 1, 1) := by decide +kernel
theorem dX9_status_14 : decode cX9_status 14 = .ok (.iaload, 1) := by decide +kernel
theorem dX9_status_15 : decode cX9_status 15 = .ok (.goto 4, 3) := by decide +kernel
theorem dX9_status_18 : decode cX9_status 18 = .ok (.iconst (-1), 1) := by decide +kernel
theorem dX9_status_19 : decode cX9_status 19 = .ok (.ireturn, 1) := by decide +kernel
theorem dX9_undo_0 : decode cX9_undo 0 = .ok (.aload_n 0, 1) := by decide +kernel
theorem dX9_undo_1 : decode cX9_undo 1 = .ok (.getfield 53, 3) := by decide +kernel
theorem dX9_undo_4 : decode cX9_undo 4 = .ok (.aload_n 0, 1) := by decide +kernel
theorem dX9_undo_5 : decode cX9_undo 5 = .ok (.getfield 40, 3) := by decide +kernel
theorem dX9_undo_8 : decode cX9_undo 8 = .ok (.invokevirtual 242, 3) := by decide +kernel
theorem dX9_undo_11 : decode cX9_undo 11 = .ok (.ifCond .eq 13, 3) := by decide +kernel
theorem dX9_undo_14 : decode cX9_undo 14 = .ok (.aload_n 0, 1) := by decide +kernel
theorem dX9_undo_15 : decode cX9_undo 15 = .ok (.getfield 53, 3) := by decide +kernel
theorem dX9_undo_18 : decode cX9_undo 18 = .ok (.getfield 127, 3) := by decide +kernel
theorem dX9_undo_21 : decode cX9_undo 21 = .ok (.goto 4, 3) := by decide +kernel
theorem dX9_undo_24 : decode cX9_undo 24 = .ok (.iconst (-1), 1) := by decide +kernel
theorem dX9_undo_25 : decode cX9_undo 25 = .ok (.ireturn, 1) := by decide +kernel
theorem dX9_log_0 : decode cX9_log 0 = .ok (.aload_n 0, 1) := by decide +kernel
theorem dX9_log_1 : decode cX9_log 1 = .ok (.getfield 40, 3) := by decide +kernel
theorem dX9_log_4 : decode cX9_log 4 = .ok (.getfield 246, 3) := by decide +kernel
theorem dX9_log_7 : decode cX9_log 7 = .ok (.getfield 249, 3) := by decide +kernel
theorem dX9_log_10 : decode cX9_log 10 = .ok (.istore_n 3, 1) := by decide +kernel
theorem dX9_log_11 : decode cX9_log 11 = .ok (.iload_n 1, 1) := by decide +kernel
theorem dX9_log_12 : decode cX9_log 12 = .ok (.ifCond .lt 17, 3) := by decide +kernel
theorem dX9_log_15 : decode cX9_log 15 = .ok (.iload_n 1, 1) := by decide +kernel
theorem dX9_log_16 : decode cX9_log 16 = .ok (.iload_n 3, 1) := by decide +kernel
theorem dX9_log_17 : decode cX9_log 17 = .ok (.if_icmp .ge 12, 3) := by decide +kernel
theorem dX9_log_20 : decode cX9_log 20 = .ok (.iload_n 2, 1) := by decide +kernel
theorem dX9_log_21 : decode cX9_log 21 = .ok (.ifCond .lt 8, 3) := by decide +kernel
theorem dX9_log_24 : decode cX9_log 24 = .ok (.iload_n 2, 1) := by decide +kernel
theorem dX9_log_25 : decode cX9_log 25 = .ok (.iconst 2, 1) := by decide +kernel
theorem dX9_log_26 : decode cX9_log 26 = .ok (.if_icmp .le 6, 3) := by decide +kernel
theorem dX9_log_29 : decode cX9_log 29 = .ok (.ldc 250, 2) := by decide +kernel
theorem dX9_log_31 : decode cX9_log 31 = .ok (.ireturn, 1) := by decide +kernel
theorem dX9_log_32 : decode cX9_log 32 = .ok (.iload_n 3, 1) := by decide +kernel
theorem dX9_log_33 : decode cX9_log 33 = .ok (.iconst 1, 1) := by decide +kernel
theorem dX9_log_34 : decode cX9_log 34 = .ok (.isub, 1) := by decide +kernel
theorem dX9_log_35 : decode cX9_log 35 = .ok (.iload_n 1, 1) := by decide +kernel
theorem dX9_log_36 : decode cX9_log 36 = .ok (.isub, 1) := by decide +kernel
theorem dX9_log_37 : decode cX9_log 37 = .ok (.istore 4, 2) := by decide +kernel
theorem dX9_log_39 : decode cX9_log 39 = .ok (.iload_n 2, 1) := by decide +kernel
theorem dX9_log_40 : decode cX9_log 40 = .ok (.ifCond .ne 16, 3) := by decide +kernel
theorem dX9_log_43 : decode cX9_log 43 = .ok (.aload_n 0, 1) := by decide +kernel
theorem dX9_log_44 : decode cX9_log 44 = .ok (.getfield 40, 3) := by decide +kernel
theorem dX9_log_47 : decode cX9_log 47 = .ok (.getfield 246, 3) := by decide +kernel
theorem dX9_log_50 : decode cX9_log 50 = .ok (.iload 4, 2) := by decide +kernel
theorem dX9_log_52 : decode cX9_log 52 = .ok (.invokevirtual 251, 3) := by decide +kernel
theorem dX9_log_55 : decode cX9_log 55 = .ok (.ireturn, 1) := by decide +kernel
theorem dX9_log_56 : decode cX9_log 56 = .ok (.iload_n 2, 1) := by decide +kernel
theorem dX9_log_57 : decode cX9_log 57 = .ok (.iconst 1, 1) := by decide +kernel
theorem dX9_log_58 : decode cX9_log 58 = .ok (.if_icmp .ne 18, 3) := by decide +kernel
theorem dX9_log_61 : decode cX9_log 61 = .ok (.aload_n 0, 1) := by decide +kernel
theorem dX9_log_62 : decode cX9_log 62 = .ok (.getfield 40, 3) := by decide +kernel
theorem dX9_log_65 : decode cX9_log 65 = .ok (.getfield 254, 3) := by decide +kernel
theorem dX9_log_68 : decode cX9_log 68 = .ok (.iload 4, 2) := by decide +kernel
theorem dX9_log_70 : decode cX9_log 70 = .ok (.invokevirtual 251, 3) := by decide +kernel
theorem dX9_log_73 : decode cX9_log 73 = .ok (.goto 15, 3) := by decide +kernel
theorem dX9_log_76 : decode cX9_log 76 = .ok (.aload_n 0, 1) := by decide +kernel
theorem dX9_log_77 : decode cX9_log 77 = .ok (.getfield 40, 3) := by decide +kernel
theorem dX9_log_80 : decode cX9_log 80 = .ok (.getfield 257, 3) := by decide +kernel
theorem dX9_log_83 : decode cX9_log 83 = .ok (.iload 4, 2) := by decide +kernel
theorem dX9_log_85 : decode cX9_log 85 = .ok (.invokevirtual 251, 3) := by decide +kernel
theorem dX9_log_88 : decode cX9_log 88 = .ok (.ireturn, 1) := by decide +kernel
theorem dX9_remembered_0 : decode cX9_remembered 0 = .ok (.aload_n 0, 1) := by decide +kernel
theorem dX9_remembered_1 : decode cX9_remembered 1 = .ok (.getfield 117, 3) := by decide +kernel
theorem dX9_remembered_4 : decode cX9_remembered 4 = .ok (.ifCond .ne 5, 3) := by decide +kernel
theorem dX9_remembered_7 : decode cX9_remembered 7 = .ok (.iconst (-1), 1) := by decide +kernel
theorem dX9_remembered_8 : decode cX9_remembered 8 = .ok (.ireturn, 1) := by decide +kernel
theorem dX9_remembered_9 : decode cX9_remembered 9 = .ok (.iload_n 1, 1) := by decide +kernel
theorem dX9_remembered_10 : decode cX9_remembered 10 = .ok (.iconst (-1), 1) := by decide +kernel
theorem dX9_remembered_11 : decode cX9_remembered 11 = .ok (.if_icmp .ne 14, 3) := by decide +kernel
theorem dX9_remembered_14 : decode cX9_remembered 14 = .ok (.aload_n 0, 1) := by decide +kernel
theorem dX9_remembered_15 : decode cX9_remembered 15 = .ok (.getfield 40, 3) := by decide +kernel
theorem dX9_remembered_18 : decode cX9_remembered 18 = .ok (.getfield 260, 3) := by decide +kernel
theorem dX9_remembered_21 : decode cX9_remembered 21 = .ok (.getfield 249, 3) := by decide +kernel
theorem dX9_remembered_24 : decode cX9_remembered 24 = .ok (.ireturn, 1) := by decide +kernel
theorem dX9_remembered_25 : decode cX9_remembered 25 = .ok (.iload_n 1, 1) := by decide +kernel
theorem dX9_remembered_26 : decode cX9_remembered 26 = .ok (.ifCond .lt 26, 3) := by decide +kernel
theorem dX9_remembered_29 : decode cX9_remembered 29 = .ok (.iload_n 1, 1) := by decide +kernel
theorem dX9_remembered_30 : decode cX9_remembered 30 = .ok (.aload_n 0, 1) := by decide +kernel
theorem dX9_remembered_31 : decode cX9_remembered 31 = .ok (.getfield 40, 3) := by decide +kernel
theorem dX9_remembered_34 : decode cX9_remembered 34 = .ok (.getfield 260, 3) := by decide +kernel
theorem dX9_remembered_37 : decode cX9_remembered 37 = .ok (.getfield 249, 3) := by decide +kernel
theorem dX9_remembered_40 : decode cX9_remembered 40 = .ok (.if_icmp .ge 12, 3) := by decide +kernel
theorem dX9_remembered_43 : decode cX9_remembered 43 = .ok (.iload_n 2, 1) := by decide +kernel
theorem dX9_remembered_44 : decode cX9_remembered 44 = .ok (.ifCond .lt 8, 3) := by decide +kernel
theorem dX9_remembered_47 : decode cX9_remembered 47 = .ok (.iload_n 2, 1) := by decide +kernel
theorem dX9_remembered_48 : decode cX9_remembered 48 = .ok (.iconst 1, 1) := by decide +kernel
theorem dX9_remembered_49 : decode cX9_remembered 49 = .ok (.if_icmp .le 5, 3) := by decide +kernel
theorem dX9_remembered_52 : decode cX9_remembered 52 = .ok (.iconst (-1), 1) := by decide +kernel
theorem dX9_remembered_53 : decode cX9_remembered 53 = .ok (.ireturn, 1) := by decide +kernel
theorem dX9_remembered_54 : decode cX9_remembered 54 = .ok (.aload_n 0, 1) := by decide +kernel
theorem dX9_remembered_55 : decode cX9_remembered 55 = .ok (.getfield 40, 3) := by decide +kernel
theorem dX9_remembered_58 : decode cX9_remembered 58 = .ok (.getfield 260, 3) := by decide +kernel
theorem dX9_remembered_61 : decode cX9_remembered 61 = .ok (.iload_n 1, 1) := by decide +kernel
theorem dX9_remembered_62 : decode cX9_remembered 62 = .ok (.invokevirtual 251, 3) := by decide +kernel
theorem dX9_remembered_65 : decode cX9_remembered 65 = .ok (.istore_n 3, 1) := by decide +kernel
theorem dX9_remembered_66 : decode cX9_remembered 66 = .ok (.iload_n 2, 1) := by decide +kernel
theorem dX9_remembered_67 : decode cX9_remembered 67 = .ok (.ifCond .ne 16, 3) := by decide +kernel
theorem dX9_remembered_70 : decode cX9_remembered 70 = .ok (.aload_n 0, 1) := by decide +kernel
theorem dX9_remembered_71 : decode cX9_remembered 71 = .ok (.getfield 40, 3) := by decide +kernel
theorem dX9_remembered_74 : decode cX9_remembered 74 = .ok (.iload_n 3, 1) := by decide +kernel
theorem dX9_remembered_75 : decode cX9_remembered 75 = .ok (.iconst 4, 1) := by decide +kernel
theorem dX9_remembered_76 : decode cX9_remembered 76 = .ok (.idiv, 1) := by decide +kernel
theorem dX9_remembered_77 : decode cX9_remembered 77 = .ok (.invokevirtual 144, 3) := by decide +kernel
theorem dX9_remembered_80 : decode cX9_remembered 80 = .ok (.goto 6, 3) := by decide +kernel
theorem dX9_remembered_83 : decode cX9_remembered 83 = .ok (.iload_n 3, 1) := by decide +kernel
theorem dX9_remembered_84 : decode cX9_remembered 84 = .ok (.iconst 4, 1) := by decide +kernel
theorem dX9_remembered_85 : decode cX9_remembered 85 = .ok (.irem, 1) := by decide +kernel
theorem dX9_remembered_86 : decode cX9_remembered 86 = .ok (.ireturn, 1) := by decide +kernel
theorem dX9_line_0 : decode cX9_line 0 = .ok (.aload_n 0, 1) := by decide +kernel
theorem dX9_line_1 : decode cX9_line 1 = .ok (.getfield 117, 3) := by decide +kernel
theorem dX9_line_4 : decode cX9_line 4 = .ok (.ifCond .eq 12, 3) := by decide +kernel
theorem dX9_line_7 : decode cX9_line 7 = .ok (.iload_n 1, 1) := by decide +kernel
theorem dX9_line_8 : decode cX9_line 8 = .ok (.ifCond .lt 8, 3) := by decide +kernel
theorem dX9_line_11 : decode cX9_line 11 = .ok (.iload_n 1, 1) := by decide +kernel
theorem dX9_line_12 : decode cX9_line 12 = .ok (.iconst 1, 1) := by decide +kernel
theorem dX9_line_13 : decode cX9_line 13 = .ok (.if_icmp .le 5, 3) := by decide +kernel
theorem dX9_line_16 : decode cX9_line 16 = .ok (.iconst (-1), 1) := by decide +kernel
theorem dX9_line_17 : decode cX9_line 17 = .ok (.ireturn, 1) := by decide +kernel
theorem dX9_line_18 : decode cX9_line 18 = .ok (.iload_n 1, 1) := by decide +kernel
theorem dX9_line_19 : decode cX9_line 19 = .ok (.ifCond .ne 13, 3) := by decide +kernel
theorem dX9_line_22 : decode cX9_line 22 = .ok (.aload_n 0, 1) := by decide +kernel
theorem dX9_line_23 : decode cX9_line 23 = .ok (.getfield 40, 3) := by decide +kernel
theorem dX9_line_26 : decode cX9_line 26 = .ok (.getfield 174, 3) := by decide +kernel
theorem dX9_line_29 : decode cX9_line 29 = .ok (.goto 10, 3) := by decide +kernel
theorem dX9_line_32 : decode cX9_line 32 = .ok (.aload_n 0, 1) := by decide +kernel
theorem dX9_line_33 : decode cX9_line 33 = .ok (.getfield 40, 3) := by decide +kernel
theorem dX9_line_36 : decode cX9_line 36 = .ok (.getfield 263, 3) := by decide +kernel
theorem dX9_line_39 : decode cX9_line 39 = .ok (.astore_n 3, 1) := by decide +kernel
theorem dX9_line_40 : decode cX9_line 40 = .ok (.iload_n 2, 1) := by decide +kernel
theorem dX9_line_41 : decode cX9_line 41 = .ok (.iconst (-1), 1) := by decide +kernel
theorem dX9_line_42 : decode cX9_line 42 = .ok (.if_icmp .ne 8, 3) := by decide +kernel
theorem dX9_line_45 : decode cX9_line 45 = .ok (.aload_n 3, 1) := by decide +kernel
theorem dX9_line_46 : decode cX9_line 46 = .ok (.getfield 249, 3) := by decide +kernel
theorem dX9_line_49 : decode cX9_line 49 = .ok (.ireturn, 1) := by decide +kernel
theorem dX9_line_50 : decode cX9_line 50 = .ok (.iload_n 2, 1) := by decide +kernel
theorem dX9_line_51 : decode cX9_line 51 = .ok (.ifCond .lt 11, 3) := by decide +kernel
theorem dX9_line_54 : decode cX9_line 54 = .ok (.iload_n 2, 1) := by decide +kernel
theorem dX9_line_55 : decode cX9_line 55 = .ok (.aload_n 3, 1) := by decide +kernel
theorem dX9_line_56 : decode cX9_line 56 = .ok (.getfield 249, 3) := by decide +kernel
theorem dX9_line_59 : decode cX9_line 59 = .ok (.if_icmp .lt 5, 3) := by decide +kernel
theorem dX9_line_62 : decode cX9_line 62 = .ok (.iconst (-1), 1) := by decide +kernel
theorem dX9_line_63 : decode cX9_line 63 = .ok (.ireturn, 1) := by decide +kernel
theorem dX9_line_64 : decode cX9_line 64 = .ok (.iload_n 1, 1) := by decide +kernel
theorem dX9_line_65 : decode cX9_line 65 = .ok (.ifCond .ne 18, 3) := by decide +kernel
theorem dX9_line_68 : decode cX9_line 68 = .ok (.aload_n 0, 1) := by decide +kernel
theorem dX9_line_69 : decode cX9_line 69 = .ok (.getfield 40, 3) := by decide +kernel
theorem dX9_line_72 : decode cX9_line 72 = .ok (.aload_n 3, 1) := by decide +kernel
theorem dX9_line_73 : decode cX9_line 73 = .ok (.iload_n 2, 1) := by decide +kernel
theorem dX9_line_74 : decode cX9_line 74 = .ok (.invokevirtual 251, 3) := by decide +kernel
theorem dX9_line_77 : decode cX9_line 77 = .ok (.invokevirtual 144, 3) := by decide +kernel
theorem dX9_line_80 : decode cX9_line 80 = .ok (.goto 8, 3) := by decide +kernel
theorem dX9_line_83 : decode cX9_line 83 = .ok (.aload_n 3, 1) := by decide +kernel
theorem dX9_line_84 : decode cX9_line 84 = .ok (.iload_n 2, 1) := by decide +kernel
theorem dX9_line_85 : decode cX9_line 85 = .ok (.invokevirtual 251, 3) := by decide +kernel
theorem dX9_line_88 : decode cX9_line 88 = .ok (.ireturn, 1) := by decide +kernel
theorem dX9_would_0 : decode cX9_would 0 = .ok (.aload_n 0, 1) := by decide +kernel
theorem dX9_would_1 : decode cX9_would 1 = .ok (.getfield 117, 3) := by decide +kernel
theorem dX9_would_4 : decode cX9_would 4 = .ok (.ifCond .eq 12, 3) := by decide +kernel
theorem dX9_would_7 : decode cX9_would 7 = .ok (.iload_n 2, 1) := by decide +kernel
theorem dX9_would_8 : decode cX9_would 8 = .ok (.ifCond .lt 8, 3) := by decide +kernel
theorem dX9_would_11 : decode cX9_would 11 = .ok (.iload_n 2, 1) := by decide +kernel
theorem dX9_would_12 : decode cX9_would 12 = .ok (.iconst 5, 1) := by decide +kernel
theorem dX9_would_13 : decode cX9_would 13 = .ok (.if_icmp .lt 5, 3) := by decide +kernel
theorem dX9_would_16 : decode cX9_would 16 = .ok (.iconst (-1), 1) := by decide +kernel
theorem dX9_would_17 : decode cX9_would 17 = .ok (.ireturn, 1) := by decide +kernel
theorem dX9_would_18 : decode cX9_would 18 = .ok (.aload_n 0, 1) := by decide +kernel
theorem dX9_would_19 : decode cX9_would 19 = .ok (.getfield 47, 3) := by decide +kernel
theorem dX9_would_22 : decode cX9_would 22 = .ok (.aload_n 0, 1) := by decide +kernel
theorem dX9_would_23 : decode cX9_would 23 = .ok (.getfield 40, 3) := by decide +kernel
theorem dX9_would_26 : decode cX9_would 26 = .ok (.invokevirtual 266, 3) := by decide +kernel
theorem dX9_would_29 : decode cX9_would 29 = .ok (.iload_n 1, 1) := by decide +kernel
theorem dX9_would_30 : decode cX9_would 30 = .ok (.ifCond .eq 17, 3) := by decide +kernel
theorem dX9_would_33 : decode cX9_would 33 = .ok (.aload_n 0, 1) := by decide +kernel
theorem dX9_would_34 : decode cX9_would 34 = .ok (.getfield 69, 3) := by decide +kernel
theorem dX9_would_37 : decode cX9_would 37 = .ok (.aload_n 0, 1) := by decide +kernel
theorem dX9_would_38 : decode cX9_would 38 = .ok (.getfield 47, 3) := by decide +kernel
theorem dX9_would_41 : decode cX9_would 41 = .ok (.invokevirtual 269, 3) := by decide +kernel
theorem dX9_would_44 : decode cX9_would 44 = .ok (.goto 19, 3) := by decide +kernel
theorem dX9_would_47 : decode cX9_would 47 = .ok (.aload_n 0, 1) := by decide +kernel
theorem dX9_would_48 : decode cX9_would 48 = .ok (.getfield 69, 3) := by decide +kernel
theorem dX9_would_51 : decode cX9_would 51 = .ok (.aload_n 0, 1) := by decide +kernel
theorem dX9_would_52 : decode cX9_would 52 = .ok (.getfield 47, 3) := by decide +kernel
theorem dX9_would_55 : decode cX9_would 55 = .ok (.invokevirtual 272, 3) := by decide +kernel
theorem dX9_would_58 : decode cX9_would 58 = .ok (.ifCond .ne 5, 3) := by decide +kernel
theorem dX9_would_61 : decode cX9_would 61 = .ok (.iconst (-1), 1) := by decide +kernel
theorem dX9_would_62 : decode cX9_would 62 = .ok (.ireturn, 1) := by decide +kernel
theorem dX9_would_63 : decode cX9_would 63 = .ok (.aload_n 0, 1) := by decide +kernel
theorem dX9_would_64 : decode cX9_would 64 = .ok (.getfield 69, 3) := by decide +kernel
theorem dX9_would_67 : decode cX9_would 67 = .ok (.getfield 275, 3) := by decide +kernel
theorem dX9_would_70 : decode cX9_would 70 = .ok (.iload_n 2, 1) := by decide +kernel
theorem dX9_would_71 : decode cX9_would 71 = .ok (.iaload, 1) := by decide +kernel
theorem dX9_would_72 : decode cX9_would 72 = .ok (.ireturn, 1) := by decide +kernel
theorem dX9_path_0 : decode cX9_path 0 = .ok (.aload_n 0, 1) := by decide +kernel
theorem dX9_path_1 : decode cX9_path 1 = .ok (.getfield 40, 3) := by decide +kernel
theorem dX9_path_4 : decode cX9_path 4 = .ok (.iload_n 1, 1) := by decide +kernel
theorem dX9_path_5 : decode cX9_path 5 = .ok (.invokevirtual 147, 3) := by decide +kernel
theorem dX9_path_8 : decode cX9_path 8 = .ok (.istore_n 3, 1) := by decide +kernel
theorem dX9_path_9 : decode cX9_path 9 = .ok (.iload_n 3, 1) := by decide +kernel
theorem dX9_path_10 : decode cX9_path 10 = .ok (.iconst (-1), 1) := by decide +kernel
theorem dX9_path_11 : decode cX9_path 11 = .ok (.if_icmp .ne 5, 3) := by decide +kernel
theorem dX9_path_14 : decode cX9_path 14 = .ok (.iconst (-1), 1) := by decide +kernel
theorem dX9_path_15 : decode cX9_path 15 = .ok (.ireturn, 1) := by decide +kernel
theorem dX9_path_16 : decode cX9_path 16 = .ok (.aload_n 0, 1) := by decide +kernel
theorem dX9_path_17 : decode cX9_path 17 = .ok (.getfield 60, 3) := by decide +kernel
theorem dX9_path_20 : decode cX9_path 20 = .ok (.aload_n 0, 1) := by decide +kernel
theorem dX9_path_21 : decode cX9_path 21 = .ok (.getfield 40, 3) := by decide +kernel
theorem dX9_path_24 : decode cX9_path 24 = .ok (.invokevirtual 278, 3) := by decide +kernel
theorem dX9_path_27 : decode cX9_path 27 = .ok (.aload_n 0, 1) := by decide +kernel
theorem dX9_path_28 : decode cX9_path 28 = .ok (.getfield 60, 3) := by decide +kernel
theorem dX9_path_31 : decode cX9_path 31 = .ok (.aload_n 0, 1) := by decide +kernel
theorem dX9_path_32 : decode cX9_path 32 = .ok (.getfield 40, 3) := by decide +kernel
theorem dX9_path_35 : decode cX9_path 35 = .ok (.iload_n 3, 1) := by decide +kernel
theorem dX9_path_36 : decode cX9_path 36 = .ok (.iload_n 2, 1) := by decide +kernel
theorem dX9_path_37 : decode cX9_path 37 = .ok (.invokevirtual 281, 3) := by decide +kernel
theorem dX9_path_40 : decode cX9_path 40 = .ok (.ireturn, 1) := by decide +kernel
theorem dX9_alone_0 : decode cX9_alone 0 = .ok (.aload_n 0, 1) := by decide +kernel
theorem dX9_alone_1 : decode cX9_alone 1 = .ok (.getfield 117, 3) := by decide +kernel
theorem dX9_alone_4 : decode cX9_alone 4 = .ok (.ifCond .eq 32, 3) := by decide +kernel
theorem dX9_alone_7 : decode cX9_alone 7 = .ok (.iload_n 1, 1) := by decide +kernel
theorem dX9_alone_8 : decode cX9_alone 8 = .ok (.invokestatic 137, 3) := by decide +kernel
theorem dX9_alone_11 : decode cX9_alone 11 = .ok (.ifCond .eq 25, 3) := by decide +kernel
theorem dX9_alone_14 : decode cX9_alone 14 = .ok (.aload_n 0, 1) := by decide +kernel
theorem dX9_alone_15 : decode cX9_alone 15 = .ok (.getfield 40, 3) := by decide +kernel
theorem dX9_alone_18 : decode cX9_alone 18 = .ok (.getfield 141, 3) := by decide +kernel
theorem dX9_alone_21 : decode cX9_alone 21 = .ok (.iload_n 1, 1) := by decide +kernel
theorem dX9_alone_22 : decode cX9_alone 22 = .ok (.iaload, 1) := by decide +kernel
theorem dX9_alone_23 : decode cX9_alone 23 = .ok (.iconst (-1), 1) := by decide +kernel
theorem dX9_alone_24 : decode cX9_alone 24 = .ok (.if_icmp .eq 12, 3) := by decide +kernel
theorem dX9_alone_27 : decode cX9_alone 27 = .ok (.iload_n 2, 1) := by decide +kernel
theorem dX9_alone_28 : decode cX9_alone 28 = .ok (.ifCond .lt 8, 3) := by decide +kernel
theorem dX9_alone_31 : decode cX9_alone 31 = .ok (.iload_n 2, 1) := by decide +kernel
theorem dX9_alone_32 : decode cX9_alone 32 = .ok (.iconst 1, 1) := by decide +kernel
theorem dX9_alone_33 : decode cX9_alone 33 = .ok (.if_icmp .le 5, 3) := by decide +kernel
theorem dX9_alone_36 : decode cX9_alone 36 = .ok (.iconst (-1), 1) := by decide +kernel
theorem dX9_alone_37 : decode cX9_alone 37 = .ok (.ireturn, 1) := by decide +kernel
theorem dX9_alone_38 : decode cX9_alone 38 = .ok (.aload_n 0, 1) := by decide +kernel
theorem dX9_alone_39 : decode cX9_alone 39 = .ok (.getfield 60, 3) := by decide +kernel
theorem dX9_alone_42 : decode cX9_alone 42 = .ok (.aload_n 0, 1) := by decide +kernel
theorem dX9_alone_43 : decode cX9_alone 43 = .ok (.getfield 40, 3) := by decide +kernel
theorem dX9_alone_46 : decode cX9_alone 46 = .ok (.iconst (-1), 1) := by decide +kernel
theorem dX9_alone_47 : decode cX9_alone 47 = .ok (.invokevirtual 194, 3) := by decide +kernel
theorem dX9_alone_50 : decode cX9_alone 50 = .ok (.iload_n 2, 1) := by decide +kernel
theorem dX9_alone_51 : decode cX9_alone 51 = .ok (.ifCond .ne 13, 3) := by decide +kernel
theorem dX9_alone_54 : decode cX9_alone 54 = .ok (.aload_n 0, 1) := by decide +kernel
theorem dX9_alone_55 : decode cX9_alone 55 = .ok (.getfield 60, 3) := by decide +kernel
theorem dX9_alone_58 : decode cX9_alone 58 = .ok (.getfield 285, 3) := by decide +kernel
theorem dX9_alone_61 : decode cX9_alone 61 = .ok (.goto 14, 3) := by decide +kernel
theorem dX9_alone_64 : decode cX9_alone 64 = .ok (.aload_n 0, 1) := by decide +kernel
theorem dX9_alone_65 : decode cX9_alone 65 = .ok (.getfield 60, 3) := by decide +kernel
theorem dX9_alone_68 : decode cX9_alone 68 = .ok (.aload_n 0, 1) := by decide +kernel
theorem dX9_alone_69 : decode cX9_alone 69 = .ok (.getfield 40, 3) := by decide +kernel
theorem dX9_alone_72 : decode cX9_alone 72 = .ok (.invokevirtual 288, 3) := by decide +kernel
theorem dX9_alone_75 : decode cX9_alone 75 = .ok (.istore_n 3, 1) := by decide +kernel
theorem dX9_alone_76 : decode cX9_alone 76 = .ok (.aload_n 0, 1) := by decide +kernel
theorem dX9_alone_77 : decode cX9_alone 77 = .ok (.getfield 60, 3) := by decide +kernel
theorem dX9_alone_80 : decode cX9_alone 80 = .ok (.aload_n 0, 1) := by decide +kernel
theorem dX9_alone_81 : decode cX9_alone 81 = .ok (.getfield 40, 3) := by decide +kernel
theorem dX9_alone_84 : decode cX9_alone 84 = .ok (.iload_n 1, 1) := by decide +kernel
theorem dX9_alone_85 : decode cX9_alone 85 = .ok (.invokevirtual 194, 3) := by decide +kernel
theorem dX9_alone_88 : decode cX9_alone 88 = .ok (.iload_n 2, 1) := by decide +kernel
theorem dX9_alone_89 : decode cX9_alone 89 = .ok (.ifCond .ne 13, 3) := by decide +kernel
theorem dX9_alone_92 : decode cX9_alone 92 = .ok (.aload_n 0, 1) := by decide +kernel
theorem dX9_alone_93 : decode cX9_alone 93 = .ok (.getfield 60, 3) := by decide +kernel
theorem dX9_alone_96 : decode cX9_alone 96 = .ok (.getfield 285, 3) := by decide +kernel
theorem dX9_alone_99 : decode cX9_alone 99 = .ok (.goto 14, 3) := by decide +kernel
theorem dX9_alone_102 : decode cX9_alone 102 = .ok (.aload_n 0, 1) := by decide +kernel
theorem dX9_alone_103 : decode cX9_alone 103 = .ok (.getfield 60, 3) := by decide +kernel
theorem dX9_alone_106 : decode cX9_alone 106 = .ok (.aload_n 0, 1) := by decide +kernel
theorem dX9_alone_107 : decode cX9_alone 107 = .ok (.getfield 40, 3) := by decide +kernel
theorem dX9_alone_110 : decode cX9_alone 110 = .ok (.invokevirtual 288, 3) := by decide +kernel
theorem dX9_alone_113 : decode cX9_alone 113 = .ok (.istore 4, 2) := by decide +kernel
theorem dX9_alone_115 : decode cX9_alone 115 = .ok (.iload_n 3, 1) := by decide +kernel
theorem dX9_alone_116 : decode cX9_alone 116 = .ok (.iload 4, 2) := by decide +kernel
theorem dX9_alone_118 : decode cX9_alone 118 = .ok (.isub, 1) := by decide +kernel
theorem dX9_alone_119 : decode cX9_alone 119 = .ok (.ireturn, 1) := by decide +kernel
theorem dX9_holders_0 : decode cX9_holders 0 = .ok (.aload_n 0, 1) := by decide +kernel
theorem dX9_holders_1 : decode cX9_holders 1 = .ok (.getfield 40, 3) := by decide +kernel
theorem dX9_holders_4 : decode cX9_holders 4 = .ok (.iload_n 1, 1) := by decide +kernel
theorem dX9_holders_5 : decode cX9_holders 5 = .ok (.invokevirtual 147, 3) := by decide +kernel
theorem dX9_holders_8 : decode cX9_holders 8 = .ok (.istore_n 2, 1) := by decide +kernel
theorem dX9_holders_9 : decode cX9_holders 9 = .ok (.iload_n 2, 1) := by decide +kernel
theorem dX9_holders_10 : decode cX9_holders 10 = .ok (.iconst (-1), 1) := by decide +kernel
theorem dX9_holders_11 : decode cX9_holders 11 = .ok (.if_icmp .ne 5, 3) := by decide +kernel
theorem dX9_holders_14 : decode cX9_holders 14 = .ok (.iconst (-1), 1) := by decide +kernel
theorem dX9_holders_15 : decode cX9_holders 15 = .ok (.ireturn, 1) := by decide +kernel
theorem dX9_holders_16 : decode cX9_holders 16 = .ok (.aload_n 0, 1) := by decide +kernel
theorem dX9_holders_17 : decode cX9_holders 17 = .ok (.getfield 60, 3) := by decide +kernel
theorem dX9_holders_20 : decode cX9_holders 20 = .ok (.aload_n 0, 1) := by decide +kernel
theorem dX9_holders_21 : decode cX9_holders 21 = .ok (.getfield 40, 3) := by decide +kernel
theorem dX9_holders_24 : decode cX9_holders 24 = .ok (.iconst (-1), 1) := by decide +kernel
theorem dX9_holders_25 : decode cX9_holders 25 = .ok (.invokevirtual 194, 3) := by decide +kernel
theorem dX9_holders_28 : decode cX9_holders 28 = .ok (.aload_n 0, 1) := by decide +kernel
theorem dX9_holders_29 : decode cX9_holders 29 = .ok (.getfield 60, 3) := by decide +kernel
theorem dX9_holders_32 : decode cX9_holders 32 = .ok (.aload_n 0, 1) := by decide +kernel
theorem dX9_holders_33 : decode cX9_holders 33 = .ok (.getfield 40, 3) := by decide +kernel
theorem dX9_holders_36 : decode cX9_holders 36 = .ok (.iload_n 2, 1) := by decide +kernel
theorem dX9_holders_37 : decode cX9_holders 37 = .ok (.invokevirtual 292, 3) := by decide +kernel
theorem dX9_holders_40 : decode cX9_holders 40 = .ok (.ireturn, 1) := by decide +kernel
theorem dX9_round_0 : decode cX9_round 0 = .ok (.aload_n 0, 1) := by decide +kernel
theorem dX9_round_1 : decode cX9_round 1 = .ok (.getfield 40, 3) := by decide +kernel
theorem dX9_round_4 : decode cX9_round 4 = .ok (.iload_n 1, 1) := by decide +kernel
theorem dX9_round_5 : decode cX9_round 5 = .ok (.invokevirtual 147, 3) := by decide +kernel
theorem dX9_round_8 : decode cX9_round 8 = .ok (.istore_n 2, 1) := by decide +kernel
theorem dX9_round_9 : decode cX9_round 9 = .ok (.iload_n 2, 1) := by decide +kernel
theorem dX9_round_10 : decode cX9_round 10 = .ok (.iconst (-1), 1) := by decide +kernel
theorem dX9_round_11 : decode cX9_round 11 = .ok (.if_icmp .ne 7, 3) := by decide +kernel
theorem dX9_round_14 : decode cX9_round 14 = .ok (.iconst (-1), 1) := by decide +kernel
theorem dX9_round_15 : decode cX9_round 15 = .ok (.goto 15, 3) := by decide +kernel
theorem dX9_round_18 : decode cX9_round 18 = .ok (.aload_n 0, 1) := by decide +kernel
theorem dX9_round_19 : decode cX9_round 19 = .ok (.getfield 60, 3) := by decide +kernel
theorem dX9_round_22 : decode cX9_round 22 = .ok (.aload_n 0, 1) := by decide +kernel
theorem dX9_round_23 : decode cX9_round 23 = .ok (.getfield 40, 3) := by decide +kernel
theorem dX9_round_26 : decode cX9_round 26 = .ok (.iload_n 2, 1) := by decide +kernel
theorem dX9_round_27 : decode cX9_round 27 = .ok (.invokevirtual 296, 3) := by decide +kernel
theorem dX9_round_30 : decode cX9_round 30 = .ok (.ireturn, 1) := by decide +kernel
theorem dX9_room_0 : decode cX9_room 0 = .ok (.aload_n 0, 1) := by decide +kernel
theorem dX9_room_1 : decode cX9_room 1 = .ok (.getfield 117, 3) := by decide +kernel
theorem dX9_room_4 : decode cX9_room 4 = .ok (.ifCond .eq 12, 3) := by decide +kernel
theorem dX9_room_7 : decode cX9_room 7 = .ok (.iload_n 1, 1) := by decide +kernel
theorem dX9_room_8 : decode cX9_room 8 = .ok (.ifCond .lt 8, 3) := by decide +kernel
theorem dX9_room_11 : decode cX9_room 11 = .ok (.iload_n 1, 1) := by decide +kernel
theorem dX9_room_12 : decode cX9_room 12 = .ok (.iconst 4, 1) := by decide +kernel
theorem dX9_room_13 : decode cX9_room 13 = .ok (.if_icmp .le 5, 3) := by decide +kernel
theorem dX9_room_16 : decode cX9_room 16 = .ok (.iconst (-1), 1) := by decide +kernel
theorem dX9_room_17 : decode cX9_room 17 = .ok (.ireturn, 1) := by decide +kernel
theorem dX9_room_18 : decode cX9_room 18 = .ok (.aload_n 0, 1) := by decide +kernel
theorem dX9_room_19 : decode cX9_room 19 = .ok (.getfield 34, 3) := by decide +kernel
theorem dX9_room_22 : decode cX9_room 22 = .ok (.iconst 0, 1) := by decide +kernel
theorem dX9_room_23 : decode cX9_room 23 = .ok (.iaload, 1) := by decide +kernel
theorem dX9_room_24 : decode cX9_room 24 = .ok (.aload_n 0, 1) := by decide +kernel
theorem dX9_room_25 : decode cX9_room 25 = .ok (.getfield 40, 3) := by decide +kernel
theorem dX9_room_28 : decode cX9_room 28 = .ok (.getfield 299, 3) := by decide +kernel
theorem dX9_room_31 : decode cX9_room 31 = .ok (.iconst 0, 1) := by decide +kernel
theorem dX9_room_32 : decode cX9_room 32 = .ok (.iaload, 1) := by decide +kernel
theorem dX9_room_33 : decode cX9_room 33 = .ok (.isub, 1) := by decide +kernel
theorem dX9_room_34 : decode cX9_room 34 = .ok (.iconst 3, 1) := by decide +kernel
theorem dX9_room_35 : decode cX9_room 35 = .ok (.iload_n 1, 1) := by decide +kernel
theorem dX9_room_36 : decode cX9_room 36 = .ok (.iadd, 1) := by decide +kernel
theorem dX9_room_37 : decode cX9_room 37 = .ok (.idiv, 1) := by decide +kernel
theorem dX9_room_38 : decode cX9_room 38 = .ok (.ireturn, 1) := by decide +kernel
theorem dX9_alike_0 : decode cX9_alike 0 = .ok (.aload_n 0, 1) := by decide +kernel
theorem dX9_alike_1 : decode cX9_alike 1 = .ok (.getfield 117, 3) := by decide +kernel
theorem dX9_alike_4 : decode cX9_alike 4 = .ok (.ifCond .eq 17, 3) := by decide +kernel
theorem dX9_alike_7 : decode cX9_alike 7 = .ok (.iload_n 1, 1) := by decide +kernel
theorem dX9_alike_8 : decode cX9_alike 8 = .ok (.invokestatic 137, 3) := by decide +kernel
theorem dX9_alike_11 : decode cX9_alike 11 = .ok (.ifCond .eq 10, 3) := by decide +kernel
theorem dX9_alike_14 : decode cX9_alike 14 = .ok (.iload_n 2, 1) := by decide +kernel
theorem dX9_alike_15 : decode cX9_alike 15 = .ok (.invokestatic 137, 3) := by decide +kernel
theorem dX9_alike_18 : decode cX9_alike 18 = .ok (.ifCond .ne 5, 3) := by decide +kernel
theorem dX9_alike_21 : decode cX9_alike 21 = .ok (.iconst 0, 1) := by decide +kernel
theorem dX9_alike_22 : decode cX9_alike 22 = .ok (.ireturn, 1) := by decide +kernel
theorem dX9_alike_23 : decode cX9_alike 23 = .ok (.aload_n 0, 1) := by decide +kernel
theorem dX9_alike_24 : decode cX9_alike 24 = .ok (.getfield 40, 3) := by decide +kernel
theorem dX9_alike_27 : decode cX9_alike 27 = .ok (.getfield 141, 3) := by decide +kernel
theorem dX9_alike_30 : decode cX9_alike 30 = .ok (.iload_n 1, 1) := by decide +kernel
theorem dX9_alike_31 : decode cX9_alike 31 = .ok (.iaload, 1) := by decide +kernel
theorem dX9_alike_32 : decode cX9_alike 32 = .ok (.istore_n 3, 1) := by decide +kernel
theorem dX9_alike_33 : decode cX9_alike 33 = .ok (.aload_n 0, 1) := by decide +kernel
theorem dX9_alike_34 : decode cX9_alike 34 = .ok (.getfield 40, 3) := by decide +kernel
theorem dX9_alike_37 : decode cX9_alike 37 = .ok (.getfield 141, 3) := by decide +kernel
theorem dX9_alike_40 : decode cX9_alike 40 = .ok (.iload_n 2, 1) := by decide +kernel
theorem dX9_alike_41 : decode cX9_alike 41 = .ok (.iaload, 1) := by decide +kernel
theorem dX9_alike_42 : decode cX9_alike 42 = .ok (.istore 4, 2) := by decide +kernel
theorem dX9_alike_44 : decode cX9_alike 44 = .ok (.iload_n 3, 1) := by decide +kernel
theorem dX9_alike_45 : decode cX9_alike 45 = .ok (.iconst (-1), 1) := by decide +kernel
theorem dX9_alike_46 : decode cX9_alike 46 = .ok (.if_icmp .eq 30, 3) := by decide +kernel
theorem dX9_alike_49 : decode cX9_alike 49 = .ok (.iload 4, 2) := by decide +kernel
theorem dX9_alike_51 : decode cX9_alike 51 = .ok (.iconst (-1), 1) := by decide +kernel
theorem dX9_alike_52 : decode cX9_alike 52 = .ok (.if_icmp .eq 24, 3) := by decide +kernel
theorem dX9_alike_55 : decode cX9_alike 55 = .ok (.aload_n 0, 1) := by decide +kernel
theorem dX9_alike_56 : decode cX9_alike 56 = .ok (.getfield 60, 3) := by decide +kernel
theorem dX9_alike_59 : decode cX9_alike 59 = .ok (.aload_n 0, 1) := by decide +kernel
theorem dX9_alike_60 : decode cX9_alike 60 = .ok (.getfield 40, 3) := by decide +kernel
theorem dX9_alike_63 : decode cX9_alike 63 = .ok (.iload_n 3, 1) := by decide +kernel
theorem dX9_alike_64 : decode cX9_alike 64 = .ok (.iload 4, 2) := by decide +kernel
theorem dX9_alike_66 : decode cX9_alike 66 = .ok (.invokevirtual 302, 3) := by decide +kernel
theorem dX9_alike_69 : decode cX9_alike 69 = .ok (.ifCond .eq 7, 3) := by decide +kernel
theorem dX9_alike_72 : decode cX9_alike 72 = .ok (.iconst 1, 1) := by decide +kernel
theorem dX9_alike_73 : decode cX9_alike 73 = .ok (.goto 4, 3) := by decide +kernel
theorem dX9_alike_76 : decode cX9_alike 76 = .ok (.iconst 0, 1) := by decide +kernel
theorem dX9_alike_77 : decode cX9_alike 77 = .ok (.ireturn, 1) := by decide +kernel
theorem dX9_until_0 : decode cX9_until 0 = .ok (.aload_n 0, 1) := by decide +kernel
theorem dX9_until_1 : decode cX9_until 1 = .ok (.getfield 40, 3) := by decide +kernel
theorem dX9_until_4 : decode cX9_until 4 = .ok (.iload_n 1, 1) := by decide +kernel
theorem dX9_until_5 : decode cX9_until 5 = .ok (.invokevirtual 147, 3) := by decide +kernel
theorem dX9_until_8 : decode cX9_until 8 = .ok (.iconst (-1), 1) := by decide +kernel
theorem dX9_until_9 : decode cX9_until 9 = .ok (.if_icmp .ne 5, 3) := by decide +kernel
theorem dX9_until_12 : decode cX9_until 12 = .ok (.iconst (-1), 1) := by decide +kernel
theorem dX9_until_13 : decode cX9_until 13 = .ok (.ireturn, 1) := by decide +kernel
theorem dX9_until_14 : decode cX9_until 14 = .ok (.aload_n 0, 1) := by decide +kernel
theorem dX9_until_15 : decode cX9_until 15 = .ok (.getfield 47, 3) := by decide +kernel
theorem dX9_until_18 : decode cX9_until 18 = .ok (.aload_n 0, 1) := by decide +kernel
theorem dX9_until_19 : decode cX9_until 19 = .ok (.getfield 40, 3) := by decide +kernel
theorem dX9_until_22 : decode cX9_until 22 = .ok (.invokevirtual 266, 3) := by decide +kernel
theorem dX9_until_25 : decode cX9_until 25 = .ok (.iconst 0, 1) := by decide +kernel
theorem dX9_until_26 : decode cX9_until 26 = .ok (.istore_n 2, 1) := by decide +kernel
theorem dX9_until_27 : decode cX9_until 27 = .ok (.iload_n 2, 1) := by decide +kernel
theorem dX9_until_28 : decode cX9_until 28 = .ok (.bipush 9, 2) := by decide +kernel
theorem dX9_until_30 : decode cX9_until 30 = .ok (.if_icmp .gt 54, 3) := by decide +kernel
theorem dX9_until_33 : decode cX9_until 33 = .ok (.aload_n 0, 1) := by decide +kernel
theorem dX9_until_34 : decode cX9_until 34 = .ok (.getfield 47, 3) := by decide +kernel
theorem dX9_until_37 : decode cX9_until 37 = .ok (.iload_n 1, 1) := by decide +kernel
theorem dX9_until_38 : decode cX9_until 38 = .ok (.invokevirtual 147, 3) := by decide +kernel
theorem dX9_until_41 : decode cX9_until 41 = .ok (.istore_n 3, 1) := by decide +kernel
theorem dX9_until_42 : decode cX9_until 42 = .ok (.iload_n 3, 1) := by decide +kernel
theorem dX9_until_43 : decode cX9_until 43 = .ok (.iconst (-1), 1) := by decide +kernel
theorem dX9_until_44 : decode cX9_until 44 = .ok (.if_icmp .ne 5, 3) := by decide +kernel
theorem dX9_until_47 : decode cX9_until 47 = .ok (.iconst (-1), 1) := by decide +kernel
theorem dX9_until_48 : decode cX9_until 48 = .ok (.ireturn, 1) := by decide +kernel
theorem dX9_until_49 : decode cX9_until 49 = .ok (.aload_n 0, 1) := by decide +kernel
theorem dX9_until_50 : decode cX9_until 50 = .ok (.getfield 47, 3) := by decide +kernel
theorem dX9_until_53 : decode cX9_until 53 = .ok (.iload_n 3, 1) := by decide +kernel
theorem dX9_until_54 : decode cX9_until 54 = .ok (.invokevirtual 306, 3) := by decide +kernel
theorem dX9_until_57 : decode cX9_until 57 = .ok (.ifCond .ne 5, 3) := by decide +kernel
theorem dX9_until_60 : decode cX9_until 60 = .ok (.iload_n 2, 1) := by decide +kernel
theorem dX9_until_61 : decode cX9_until 61 = .ok (.ireturn, 1) := by decide +kernel
theorem dX9_until_62 : decode cX9_until 62 = .ok (.aload_n 0, 1) := by decide +kernel
theorem dX9_until_63 : decode cX9_until 63 = .ok (.getfield 69, 3) := by decide +kernel
theorem dX9_until_66 : decode cX9_until 66 = .ok (.aload_n 0, 1) := by decide +kernel
theorem dX9_until_67 : decode cX9_until 67 = .ok (.getfield 47, 3) := by decide +kernel
theorem dX9_until_70 : decode cX9_until 70 = .ok (.invokevirtual 272, 3) := by decide +kernel
theorem dX9_until_73 : decode cX9_until 73 = .ok (.ifCond .ne 5, 3) := by decide +kernel
theorem dX9_until_76 : decode cX9_until 76 = .ok (.iconst (-1), 1) := by decide +kernel
theorem dX9_until_77 : decode cX9_until 77 = .ok (.ireturn, 1) := by decide +kernel
theorem dX9_until_78 : decode cX9_until 78 = .ok (.iinc 2 1, 3) := by decide +kernel
theorem dX9_until_81 : decode cX9_until 81 = .ok (.goto (-54), 3) := by decide +kernel
theorem dX9_until_84 : decode cX9_until 84 = .ok (.iconst (-1), 1) := by decide +kernel
theorem dX9_until_85 : decode cX9_until 85 = .ok (.ireturn, 1) := by decide +kernel
theorem dX9_garbage_0 : decode cX9_garbage 0 = .ok (.aload_n 0, 1) := by decide +kernel
theorem dX9_garbage_1 : decode cX9_garbage 1 = .ok (.getfield 117, 3) := by decide +kernel
theorem dX9_garbage_4 : decode cX9_garbage 4 = .ok (.ifCond .eq 12, 3) := by decide +kernel
theorem dX9_garbage_7 : decode cX9_garbage 7 = .ok (.iload_n 1, 1) := by decide +kernel
theorem dX9_garbage_8 : decode cX9_garbage 8 = .ok (.ifCond .lt 8, 3) := by decide +kernel
theorem dX9_garbage_11 : decode cX9_garbage 11 = .ok (.iload_n 1, 1) := by decide +kernel
theorem dX9_garbage_12 : decode cX9_garbage 12 = .ok (.iconst 3, 1) := by decide +kernel
theorem dX9_garbage_13 : decode cX9_garbage 13 = .ok (.if_icmp .lt 5, 3) := by decide +kernel
theorem dX9_garbage_16 : decode cX9_garbage 16 = .ok (.iconst (-1), 1) := by decide +kernel
theorem dX9_garbage_17 : decode cX9_garbage 17 = .ok (.ireturn, 1) := by decide +kernel
theorem dX9_garbage_18 : decode cX9_garbage 18 = .ok (.aload_n 0, 1) := by decide +kernel
theorem dX9_garbage_19 : decode cX9_garbage 19 = .ok (.getfield 60, 3) := by decide +kernel
theorem dX9_garbage_22 : decode cX9_garbage 22 = .ok (.aload_n 0, 1) := by decide +kernel
theorem dX9_garbage_23 : decode cX9_garbage 23 = .ok (.getfield 40, 3) := by decide +kernel
theorem dX9_garbage_26 : decode cX9_garbage 26 = .ok (.iconst (-1), 1) := by decide +kernel
theorem dX9_garbage_27 : decode cX9_garbage 27 = .ok (.invokevirtual 194, 3) := by decide +kernel
theorem dX9_garbage_30 : decode cX9_garbage 30 = .ok (.aload_n 0, 1) := by decide +kernel
theorem dX9_garbage_31 : decode cX9_garbage 31 = .ok (.getfield 60, 3) := by decide +kernel
theorem dX9_garbage_34 : decode cX9_garbage 34 = .ok (.aload_n 0, 1) := by decide +kernel
theorem dX9_garbage_35 : decode cX9_garbage 35 = .ok (.getfield 40, 3) := by decide +kernel
theorem dX9_garbage_38 : decode cX9_garbage 38 = .ok (.iload_n 1, 1) := by decide +kernel
theorem dX9_garbage_39 : decode cX9_garbage 39 = .ok (.invokevirtual 309, 3) := by decide +kernel
theorem dX9_garbage_42 : decode cX9_garbage 42 = .ok (.ireturn, 1) := by decide +kernel
theorem dX9_step_0 : decode cX9_step 0 = .ok (.aload_n 0, 1) := by decide +kernel
theorem dX9_step_1 : decode cX9_step 1 = .ok (.iload_n 1, 1) := by decide +kernel
theorem dX9_step_2 : decode cX9_step 2 = .ok (.invokevirtual 312, 3) := by decide +kernel
theorem dX9_step_5 : decode cX9_step 5 = .ok (.ifCond .eq 26, 3) := by decide +kernel
theorem dX9_step_8 : decode cX9_step 8 = .ok (.iload_n 2, 1) := by decide +kernel
theorem dX9_step_9 : decode cX9_step 9 = .ok (.ifCond .lt 22, 3) := by decide +kernel
theorem dX9_step_12 : decode cX9_step 12 = .ok (.iload_n 2, 1) := by decide +kernel
theorem dX9_step_13 : decode cX9_step 13 = .ok (.aload_n 0, 1) := by decide +kernel
theorem dX9_step_14 : decode cX9_step 14 = .ok (.getfield 30, 3) := by decide +kernel
theorem dX9_step_17 : decode cX9_step 17 = .ok (.iload_n 1, 1) := by decide +kernel
theorem dX9_step_18 : decode cX9_step 18 = .ok (.iaload, 1) := by decide +kernel
theorem dX9_step_19 : decode cX9_step 19 = .ok (.if_icmp .ge 12, 3) := by decide +kernel
theorem dX9_step_22 : decode cX9_step 22 = .ok (.iload_n 3, 1) := by decide +kernel
theorem dX9_step_23 : decode cX9_step 23 = .ok (.ifCond .lt 8, 3) := by decide +kernel
theorem dX9_step_26 : decode cX9_step 26 = .ok (.iload_n 3, 1) := by decide +kernel
theorem dX9_step_27 : decode cX9_step 27 = .ok (.iconst 5, 1) := by decide +kernel
theorem dX9_step_28 : decode cX9_step 28 = .ok (.if_icmp .lt 6, 3) := by decide +kernel
theorem dX9_step_31 : decode cX9_step 31 = .ok (.ldc 250, 2) := by decide +kernel
theorem dX9_step_33 : decode cX9_step 33 = .ok (.ireturn, 1) := by decide +kernel
theorem dX9_step_34 : decode cX9_step 34 = .ok (.aload_n 0, 1) := by decide +kernel
theorem dX9_step_35 : decode cX9_step 35 = .ok (.getfield 27, 3) := by decide +kernel
theorem dX9_step_38 : decode cX9_step 38 = .ok (.iload_n 1, 1) := by decide +kernel
theorem dX9_step_39 : decode cX9_step 39 = .ok (.aaload, 1) := by decide +kernel
theorem dX9_step_40 : decode cX9_step 40 = .ok (.iload_n 2, 1) := by decide +kernel
theorem dX9_step_41 : decode cX9_step 41 = .ok (.iconst 5, 1) := by decide +kernel
theorem dX9_step_42 : decode cX9_step 42 = .ok (.imul, 1) := by decide +kernel
theorem dX9_step_43 : decode cX9_step 43 = .ok (.iload_n 3, 1) := by decide +kernel
theorem dX9_step_44 : decode cX9_step 44 = .ok (.iadd, 1) := by decide +kernel
theorem dX9_step_45 : decode cX9_step 45 = .ok (.iaload, 1) := by decide +kernel
theorem dX9_step_46 : decode cX9_step 46 = .ok (.ireturn, 1) := by decide +kernel
theorem dX9_run_0 : decode cX9_run 0 = .ok (.aload_n 0, 1) := by decide +kernel
theorem dX9_run_1 : decode cX9_run 1 = .ok (.getfield 117, 3) := by decide +kernel
theorem dX9_run_4 : decode cX9_run 4 = .ok (.ifCond .eq 20, 3) := by decide +kernel
theorem dX9_run_7 : decode cX9_run 7 = .ok (.aload_n 0, 1) := by decide +kernel
theorem dX9_run_8 : decode cX9_run 8 = .ok (.iload_n 1, 1) := by decide +kernel
theorem dX9_run_9 : decode cX9_run 9 = .ok (.invokevirtual 312, 3) := by decide +kernel
theorem dX9_run_12 : decode cX9_run 12 = .ok (.ifCond .eq 12, 3) := by decide +kernel
theorem dX9_run_15 : decode cX9_run 15 = .ok (.iload_n 2, 1) := by decide +kernel
theorem dX9_run_16 : decode cX9_run 16 = .ok (.ifCond .lt 8, 3) := by decide +kernel
theorem dX9_run_19 : decode cX9_run 19 = .ok (.iload_n 2, 1) := by decide +kernel
theorem dX9_run_20 : decode cX9_run 20 = .ok (.iconst 1, 1) := by decide +kernel
theorem dX9_run_21 : decode cX9_run 21 = .ok (.if_icmp .le 6, 3) := by decide +kernel
theorem dX9_run_24 : decode cX9_run 24 = .ok (.ldc 250, 2) := by decide +kernel
theorem dX9_run_26 : decode cX9_run 26 = .ok (.ireturn, 1) := by decide +kernel
theorem dX9_run_27 : decode cX9_run 27 = .ok (.aload_n 0, 1) := by decide +kernel
theorem dX9_run_28 : decode cX9_run 28 = .ok (.aload_n 0, 1) := by decide +kernel
theorem dX9_run_29 : decode cX9_run 29 = .ok (.getfield 27, 3) := by decide +kernel
theorem dX9_run_32 : decode cX9_run 32 = .ok (.iload_n 1, 1) := by decide +kernel
theorem dX9_run_33 : decode cX9_run 33 = .ok (.aaload, 1) := by decide +kernel
theorem dX9_run_34 : decode cX9_run 34 = .ok (.aload_n 0, 1) := by decide +kernel
theorem dX9_run_35 : decode cX9_run 35 = .ok (.getfield 30, 3) := by decide +kernel
theorem dX9_run_38 : decode cX9_run 38 = .ok (.iload_n 1, 1) := by decide +kernel
theorem dX9_run_39 : decode cX9_run 39 = .ok (.iaload, 1) := by decide +kernel
theorem dX9_run_40 : decode cX9_run 40 = .ok (.invokevirtual 315, 3) := by decide +kernel
theorem dX9_run_43 : decode cX9_run 43 = .ok (.istore_n 3, 1) := by decide +kernel
theorem dX9_run_44 : decode cX9_run 44 = .ok (.iload_n 2, 1) := by decide +kernel
theorem dX9_run_45 : decode cX9_run 45 = .ok (.iconst 1, 1) := by decide +kernel
theorem dX9_run_46 : decode cX9_run 46 = .ok (.if_icmp .ne 11, 3) := by decide +kernel
theorem dX9_run_49 : decode cX9_run 49 = .ok (.aload_n 0, 1) := by decide +kernel
theorem dX9_run_50 : decode cX9_run 50 = .ok (.getfield 47, 3) := by decide +kernel
theorem dX9_run_53 : decode cX9_run 53 = .ok (.invokevirtual 228, 3) := by decide +kernel
theorem dX9_run_56 : decode cX9_run 56 = .ok (.ireturn, 1) := by decide +kernel
theorem dX9_run_57 : decode cX9_run 57 = .ok (.iload_n 3, 1) := by decide +kernel
theorem dX9_run_58 : decode cX9_run 58 = .ok (.aload_n 0, 1) := by decide +kernel
theorem dX9_run_59 : decode cX9_run 59 = .ok (.getfield 30, 3) := by decide +kernel
theorem dX9_run_62 : decode cX9_run 62 = .ok (.iload_n 1, 1) := by decide +kernel
theorem dX9_run_63 : decode cX9_run 63 = .ok (.iaload, 1) := by decide +kernel
theorem dX9_run_64 : decode cX9_run 64 = .ok (.if_icmp .ne 7, 3) := by decide +kernel
theorem dX9_run_67 : decode cX9_run 67 = .ok (.iconst (-1), 1) := by decide +kernel
theorem dX9_run_68 : decode cX9_run 68 = .ok (.goto 4, 3) := by decide +kernel
theorem dX9_run_71 : decode cX9_run 71 = .ok (.iload_n 3, 1) := by decide +kernel
theorem dX9_run_72 : decode cX9_run 72 = .ok (.ireturn, 1) := by decide +kernel
theorem dX9_runOnTrial_0 : decode cX9_runOnTrial 0 = .ok (.aload_n 0, 1) := by decide +kernel
theorem dX9_runOnTrial_1 : decode cX9_runOnTrial 1 = .ok (.getfield 47, 3) := by decide +kernel
theorem dX9_runOnTrial_4 : decode cX9_runOnTrial 4 = .ok (.aload_n 0, 1) := by decide +kernel
theorem dX9_runOnTrial_5 : decode cX9_runOnTrial 5 = .ok (.getfield 40, 3) := by decide +kernel
theorem dX9_runOnTrial_8 : decode cX9_runOnTrial 8 = .ok (.invokevirtual 266, 3) := by decide +kernel
theorem dX9_runOnTrial_11 : decode cX9_runOnTrial 11 = .ok (.iconst 0, 1) := by decide +kernel
theorem dX9_runOnTrial_12 : decode cX9_runOnTrial 12 = .ok (.istore_n 3, 1) := by decide +kernel
theorem dX9_runOnTrial_13 : decode cX9_runOnTrial 13 = .ok (.iload_n 3, 1) := by decide +kernel
theorem dX9_runOnTrial_14 : decode cX9_runOnTrial 14 = .ok (.iload_n 2, 1) := by decide +kernel
theorem dX9_runOnTrial_15 : decode cX9_runOnTrial 15 = .ok (.if_icmp .ge 58, 3) := by decide +kernel
theorem dX9_runOnTrial_18 : decode cX9_runOnTrial 18 = .ok (.iload_n 3, 1) := by decide +kernel
theorem dX9_runOnTrial_19 : decode cX9_runOnTrial 19 = .ok (.iconst 5, 1) := by decide +kernel
theorem dX9_runOnTrial_20 : decode cX9_runOnTrial 20 = .ok (.imul, 1) := by decide +kernel
theorem dX9_runOnTrial_21 : decode cX9_runOnTrial 21 = .ok (.istore 4, 2) := by decide +kernel
theorem dX9_runOnTrial_23 : decode cX9_runOnTrial 23 = .ok (.aload_n 0, 1) := by decide +kernel
theorem dX9_runOnTrial_24 : decode cX9_runOnTrial 24 = .ok (.getfield 78, 3) := by decide +kernel
theorem dX9_runOnTrial_27 : decode cX9_runOnTrial 27 = .ok (.aload_n 0, 1) := by decide +kernel
theorem dX9_runOnTrial_28 : decode cX9_runOnTrial 28 = .ok (.getfield 47, 3) := by decide +kernel
theorem dX9_runOnTrial_31 : decode cX9_runOnTrial 31 = .ok (.aload_n 1, 1) := by decide +kernel
theorem dX9_runOnTrial_32 : decode cX9_runOnTrial 32 = .ok (.iload 4, 2) := by decide +kernel
theorem dX9_runOnTrial_34 : decode cX9_runOnTrial 34 = .ok (.iaload, 1) := by decide +kernel
theorem dX9_runOnTrial_35 : decode cX9_runOnTrial 35 = .ok (.aload_n 1, 1) := by decide +kernel
theorem dX9_runOnTrial_36 : decode cX9_runOnTrial 36 = .ok (.iload 4, 2) := by decide +kernel
theorem dX9_runOnTrial_38 : decode cX9_runOnTrial 38 = .ok (.iconst 1, 1) := by decide +kernel
theorem dX9_runOnTrial_39 : decode cX9_runOnTrial 39 = .ok (.iadd, 1) := by decide +kernel
theorem dX9_runOnTrial_40 : decode cX9_runOnTrial 40 = .ok (.iaload, 1) := by decide +kernel
theorem dX9_runOnTrial_41 : decode cX9_runOnTrial 41 = .ok (.aload_n 1, 1) := by decide +kernel
theorem dX9_runOnTrial_42 : decode cX9_runOnTrial 42 = .ok (.iload 4, 2) := by decide +kernel
theorem dX9_runOnTrial_44 : decode cX9_runOnTrial 44 = .ok (.iconst 2, 1) := by decide +kernel
theorem dX9_runOnTrial_45 : decode cX9_runOnTrial 45 = .ok (.iadd, 1) := by decide +kernel
theorem dX9_runOnTrial_46 : decode cX9_runOnTrial 46 = .ok (.iaload, 1) := by decide +kernel
theorem dX9_runOnTrial_47 : decode cX9_runOnTrial 47 = .ok (.aload_n 1, 1) := by decide +kernel
theorem dX9_runOnTrial_48 : decode cX9_runOnTrial 48 = .ok (.iload 4, 2) := by decide +kernel
theorem dX9_runOnTrial_50 : decode cX9_runOnTrial 50 = .ok (.iconst 3, 1) := by decide +kernel
theorem dX9_runOnTrial_51 : decode cX9_runOnTrial 51 = .ok (.iadd, 1) := by decide +kernel
theorem dX9_runOnTrial_52 : decode cX9_runOnTrial 52 = .ok (.iaload, 1) := by decide +kernel
theorem dX9_runOnTrial_53 : decode cX9_runOnTrial 53 = .ok (.aload_n 1, 1) := by decide +kernel
theorem dX9_runOnTrial_54 : decode cX9_runOnTrial 54 = .ok (.iload 4, 2) := by decide +kernel
theorem dX9_runOnTrial_56 : decode cX9_runOnTrial 56 = .ok (.iconst 4, 1) := by decide +kernel
theorem dX9_runOnTrial_57 : decode cX9_runOnTrial 57 = .ok (.iadd, 1) := by decide +kernel
theorem dX9_runOnTrial_58 : decode cX9_runOnTrial 58 = .ok (.iaload, 1) := by decide +kernel
theorem dX9_runOnTrial_59 : decode cX9_runOnTrial 59 = .ok (.invokevirtual 235, 3) := by decide +kernel
theorem dX9_runOnTrial_62 : decode cX9_runOnTrial 62 = .ok (.ifCond .ge 5, 3) := by decide +kernel
theorem dX9_runOnTrial_65 : decode cX9_runOnTrial 65 = .ok (.iload_n 3, 1) := by decide +kernel
theorem dX9_runOnTrial_66 : decode cX9_runOnTrial 66 = .ok (.ireturn, 1) := by decide +kernel
theorem dX9_runOnTrial_67 : decode cX9_runOnTrial 67 = .ok (.iinc 3 1, 3) := by decide +kernel
theorem dX9_runOnTrial_70 : decode cX9_runOnTrial 70 = .ok (.goto (-57), 3) := by decide +kernel
theorem dX9_runOnTrial_73 : decode cX9_runOnTrial 73 = .ok (.iload_n 2, 1) := by decide +kernel
theorem dX9_runOnTrial_74 : decode cX9_runOnTrial 74 = .ok (.ireturn, 1) := by decide +kernel
theorem dX9_perform_0 : decode cX9_perform 0 = .ok (.aload_n 0, 1) := by decide +kernel
theorem dX9_perform_1 : decode cX9_perform 1 = .ok (.getfield 117, 3) := by decide +kernel
theorem dX9_perform_4 : decode cX9_perform 4 = .ok (.ifCond .eq 11, 3) := by decide +kernel
theorem dX9_perform_7 : decode cX9_perform 7 = .ok (.aload_n 0, 1) := by decide +kernel
theorem dX9_perform_8 : decode cX9_perform 8 = .ok (.iload_n 1, 1) := by decide +kernel
theorem dX9_perform_9 : decode cX9_perform 9 = .ok (.invokevirtual 312, 3) := by decide +kernel
theorem dX9_perform_12 : decode cX9_perform 12 = .ok (.ifCond .ne 5, 3) := by decide +kernel
theorem dX9_perform_15 : decode cX9_perform 15 = .ok (.iconst (-1), 1) := by decide +kernel
theorem dX9_perform_16 : decode cX9_perform 16 = .ok (.ireturn, 1) := by decide +kernel
theorem dX9_perform_17 : decode cX9_perform 17 = .ok (.aload_n 0, 1) := by decide +kernel
theorem dX9_perform_18 : decode cX9_perform 18 = .ok (.getfield 27, 3) := by decide +kernel
theorem dX9_perform_21 : decode cX9_perform 21 = .ok (.iload_n 1, 1) := by decide +kernel
theorem dX9_perform_22 : decode cX9_perform 22 = .ok (.aaload, 1) := by decide +kernel
theorem dX9_perform_23 : decode cX9_perform 23 = .ok (.astore_n 2, 1) := by decide +kernel
theorem dX9_perform_24 : decode cX9_perform 24 = .ok (.aload_n 0, 1) := by decide +kernel
theorem dX9_perform_25 : decode cX9_perform 25 = .ok (.getfield 30, 3) := by decide +kernel
theorem dX9_perform_28 : decode cX9_perform 28 = .ok (.iload_n 1, 1) := by decide +kernel
theorem dX9_perform_29 : decode cX9_perform 29 = .ok (.iaload, 1) := by decide +kernel
theorem dX9_perform_30 : decode cX9_perform 30 = .ok (.istore_n 3, 1) := by decide +kernel
theorem dX9_perform_31 : decode cX9_perform 31 = .ok (.iconst 0, 1) := by decide +kernel
theorem dX9_perform_32 : decode cX9_perform 32 = .ok (.istore 4, 2) := by decide +kernel
theorem dX9_perform_34 : decode cX9_perform 34 = .ok (.iload 4, 2) := by decide +kernel
theorem dX9_perform_36 : decode cX9_perform 36 = .ok (.iload_n 3, 1) := by decide +kernel
theorem dX9_perform_37 : decode cX9_perform 37 = .ok (.if_icmp .ge 54, 3) := by decide +kernel
theorem dX9_perform_40 : decode cX9_perform 40 = .ok (.iload 4, 2) := by decide +kernel
theorem dX9_perform_42 : decode cX9_perform 42 = .ok (.iconst 5, 1) := by decide +kernel
theorem dX9_perform_43 : decode cX9_perform 43 = .ok (.imul, 1) := by decide +kernel
theorem dX9_perform_44 : decode cX9_perform 44 = .ok (.istore 5, 2) := by decide +kernel
theorem dX9_perform_46 : decode cX9_perform 46 = .ok (.aload_n 0, 1) := by decide +kernel
theorem dX9_perform_47 : decode cX9_perform 47 = .ok (.aload_n 2, 1) := by decide +kernel
theorem dX9_perform_48 : decode cX9_perform 48 = .ok (.iload 5, 2) := by decide +kernel
theorem dX9_perform_50 : decode cX9_perform 50 = .ok (.iaload, 1) := by decide +kernel
theorem dX9_perform_51 : decode cX9_perform 51 = .ok (.aload_n 2, 1) := by decide +kernel
theorem dX9_perform_52 : decode cX9_perform 52 = .ok (.iload 5, 2) := by decide +kernel
theorem dX9_perform_54 : decode cX9_perform 54 = .ok (.iconst 1, 1) := by decide +kernel
theorem dX9_perform_55 : decode cX9_perform 55 = .ok (.iadd, 1) := by decide +kernel
theorem dX9_perform_56 : decode cX9_perform 56 = .ok (.iaload, 1) := by decide +kernel
theorem dX9_perform_57 : decode cX9_perform 57 = .ok (.aload_n 2, 1) := by decide +kernel
theorem dX9_perform_58 : decode cX9_perform 58 = .ok (.iload 5, 2) := by decide +kernel
theorem dX9_perform_60 : decode cX9_perform 60 = .ok (.iconst 2, 1) := by decide +kernel
theorem dX9_perform_61 : decode cX9_perform 61 = .ok (.iadd, 1) := by decide +kernel
theorem dX9_perform_62 : decode cX9_perform 62 = .ok (.iaload, 1) := by decide +kernel
theorem dX9_perform_63 : decode cX9_perform 63 = .ok (.aload_n 2, 1) := by decide +kernel
theorem dX9_perform_64 : decode cX9_perform 64 = .ok (.iload 5, 2) := by decide +kernel
theorem dX9_perform_66 : decode cX9_perform 66 = .ok (.iconst 3, 1) := by decide +kernel
theorem dX9_perform_67 : decode cX9_perform 67 = .ok (.iadd, 1) := by decide +kernel
theorem dX9_perform_68 : decode cX9_perform 68 = .ok (.iaload, 1) := by decide +kernel
theorem dX9_perform_69 : decode cX9_perform 69 = .ok (.aload_n 2, 1) := by decide +kernel
theorem dX9_perform_70 : decode cX9_perform 70 = .ok (.iload 5, 2) := by decide +kernel
theorem dX9_perform_72 : decode cX9_perform 72 = .ok (.iconst 4, 1) := by decide +kernel
theorem dX9_perform_73 : decode cX9_perform 73 = .ok (.iadd, 1) := by decide +kernel
theorem dX9_perform_74 : decode cX9_perform 74 = .ok (.iaload, 1) := by decide +kernel
theorem dX9_perform_75 : decode cX9_perform 75 = .ok (.iconst 0, 1) := by decide +kernel
theorem dX9_perform_76 : decode cX9_perform 76 = .ok (.invokevirtual 201, 3) := by decide +kernel
theorem dX9_perform_79 : decode cX9_perform 79 = .ok (.ifCond .ge 6, 3) := by decide +kernel
theorem dX9_perform_82 : decode cX9_perform 82 = .ok (.iload 4, 2) := by decide +kernel
theorem dX9_perform_84 : decode cX9_perform 84 = .ok (.ireturn, 1) := by decide +kernel
theorem dX9_perform_85 : decode cX9_perform 85 = .ok (.iinc 4 1, 3) := by decide +kernel
theorem dX9_perform_88 : decode cX9_perform 88 = .ok (.goto (-54), 3) := by decide +kernel
theorem dX9_perform_91 : decode cX9_perform 91 = .ok (.iload_n 3, 1) := by decide +kernel
theorem dX9_perform_92 : decode cX9_perform 92 = .ok (.ireturn, 1) := by decide +kernel
theorem dX9_isScript_0 : decode cX9_isScript 0 = .ok (.iload_n 1, 1) := by decide +kernel
theorem dX9_isScript_1 : decode cX9_isScript 1 = .ok (.ifCond .lt 15, 3) := by decide +kernel
theorem dX9_isScript_4 : decode cX9_isScript 4 = .ok (.iload_n 1, 1) := by decide +kernel
theorem dX9_isScript_5 : decode cX9_isScript 5 = .ok (.aload_n 0, 1) := by decide +kernel
theorem dX9_isScript_6 : decode cX9_isScript 6 = .ok (.getfield 128, 3) := by decide +kernel
theorem dX9_isScript_9 : decode cX9_isScript 9 = .ok (.if_icmp .ge 7, 3) := by decide +kernel
theorem dX9_isScript_12 : decode cX9_isScript 12 = .ok (.iconst 1, 1) := by decide +kernel
theorem dX9_isScript_13 : decode cX9_isScript 13 = .ok (.goto 4, 3) := by decide +kernel
theorem dX9_isScript_16 : decode cX9_isScript 16 = .ok (.iconst 0, 1) := by decide +kernel
theorem dX9_isScript_17 : decode cX9_isScript 17 = .ok (.ireturn, 1) := by decide +kernel
theorem dX9_most_0 : decode cX9_most 0 = .ok (.aload_n 0, 1) := by decide +kernel
theorem dX9_most_1 : decode cX9_most 1 = .ok (.getfield 117, 3) := by decide +kernel
theorem dX9_most_4 : decode cX9_most 4 = .ok (.ifCond .eq 13, 3) := by decide +kernel
theorem dX9_most_7 : decode cX9_most 7 = .ok (.iload_n 1, 1) := by decide +kernel
theorem dX9_most_8 : decode cX9_most 8 = .ok (.ifCond .lt 9, 3) := by decide +kernel
theorem dX9_most_11 : decode cX9_most 11 = .ok (.iload_n 1, 1) := by decide +kernel
theorem dX9_most_12 : decode cX9_most 12 = .ok (.bipush 15, 2) := by decide +kernel
theorem dX9_most_14 : decode cX9_most 14 = .ok (.if_icmp .le 6, 3) := by decide +kernel
theorem dX9_most_17 : decode cX9_most 17 = .ok (.ldc 250, 2) := by decide +kernel
theorem dX9_most_19 : decode cX9_most 19 = .ok (.ireturn, 1) := by decide +kernel
theorem dX9_most_20 : decode cX9_most 20 = .ok (.iload_n 1, 1) := by decide +kernel
theorem dX9_most_21 : decode cX9_most 21 = .ok (.iconst 3, 1) := by decide +kernel
theorem dX9_most_22 : decode cX9_most 22 = .ok (.if_icmp .ge 13, 3) := by decide +kernel
theorem dX9_most_25 : decode cX9_most 25 = .ok (.aload_n 0, 1) := by decide +kernel
theorem dX9_most_26 : decode cX9_most 26 = .ok (.getfield 40, 3) := by decide +kernel
theorem dX9_most_29 : decode cX9_most 29 = .ok (.getfield 299, 3) := by decide +kernel
theorem dX9_most_32 : decode cX9_most 32 = .ok (.iload_n 1, 1) := by decide +kernel
theorem dX9_most_33 : decode cX9_most 33 = .ok (.iaload, 1) := by decide +kernel
theorem dX9_most_34 : decode cX9_most 34 = .ok (.ireturn, 1) := by decide +kernel
theorem dX9_most_35 : decode cX9_most 35 = .ok (.iload_n 1, 1) := by decide +kernel
theorem dX9_most_36 : decode cX9_most 36 = .ok (.iconst 5, 1) := by decide +kernel
theorem dX9_most_37 : decode cX9_most 37 = .ok (.if_icmp .lt 21, 3) := by decide +kernel
theorem dX9_most_40 : decode cX9_most 40 = .ok (.iload_n 1, 1) := by decide +kernel
theorem dX9_most_41 : decode cX9_most 41 = .ok (.bipush 13, 2) := by decide +kernel
theorem dX9_most_43 : decode cX9_most 43 = .ok (.if_icmp .ge 15, 3) := by decide +kernel
theorem dX9_most_46 : decode cX9_most 46 = .ok (.aload_n 0, 1) := by decide +kernel
theorem dX9_most_47 : decode cX9_most 47 = .ok (.getfield 40, 3) := by decide +kernel
theorem dX9_most_50 : decode cX9_most 50 = .ok (.getfield 319, 3) := by decide +kernel
theorem dX9_most_53 : decode cX9_most 53 = .ok (.iload_n 1, 1) := by decide +kernel
theorem dX9_most_54 : decode cX9_most 54 = .ok (.iconst 5, 1) := by decide +kernel
theorem dX9_most_55 : decode cX9_most 55 = .ok (.isub, 1) := by decide +kernel
theorem dX9_most_56 : decode cX9_most 56 = .ok (.iaload, 1) := by decide +kernel
theorem dX9_most_57 : decode cX9_most 57 = .ok (.ireturn, 1) := by decide +kernel
theorem dX9_most_58 : decode cX9_most 58 = .ok (.iload_n 1, 1) := by decide +kernel
theorem dX9_most_59 : decode cX9_most 59 = .ok (.lookupswitch 70 #[(3, 41), (4, 49), (13, 54), (14, 62)], 41) := by decide +kernel
theorem dX9_most_100 : decode cX9_most 100 = .ok (.aload_n 0, 1) := by decide +kernel
theorem dX9_most_101 : decode cX9_most 101 = .ok (.getfield 40, 3) := by decide +kernel
theorem dX9_most_104 : decode cX9_most 104 = .ok (.getfield 322, 3) := by decide +kernel
theorem dX9_most_107 : decode cX9_most 107 = .ok (.ireturn, 1) := by decide +kernel
theorem dX9_most_108 : decode cX9_most 108 = .ok (.aload_n 0, 1) := by decide +kernel
theorem dX9_most_109 : decode cX9_most 109 = .ok (.invokevirtual 325, 3) := by decide +kernel
theorem dX9_most_112 : decode cX9_most 112 = .ok (.ireturn, 1) := by decide +kernel
theorem dX9_most_113 : decode cX9_most 113 = .ok (.aload_n 0, 1) := by decide +kernel
theorem dX9_most_114 : decode cX9_most 114 = .ok (.getfield 40, 3) := by decide +kernel
theorem dX9_most_117 : decode cX9_most 117 = .ok (.invokevirtual 328, 3) := by decide +kernel
theorem dX9_most_120 : decode cX9_most 120 = .ok (.ireturn, 1) := by decide +kernel
theorem dX9_most_121 : decode cX9_most 121 = .ok (.aload_n 0, 1) := by decide +kernel
theorem dX9_most_122 : decode cX9_most 122 = .ok (.getfield 40, 3) := by decide +kernel
theorem dX9_most_125 : decode cX9_most 125 = .ok (.invokevirtual 331, 3) := by decide +kernel
theorem dX9_most_128 : decode cX9_most 128 = .ok (.ireturn, 1) := by decide +kernel
theorem dX9_most_129 : decode cX9_most 129 = .ok (.aload_n 0, 1) := by decide +kernel
theorem dX9_most_130 : decode cX9_most 130 = .ok (.getfield 40, 3) := by decide +kernel
theorem dX9_most_133 : decode cX9_most 133 = .ok (.getfield 334, 3) := by decide +kernel
theorem dX9_most_136 : decode cX9_most 136 = .ok (.ireturn, 1) := by decide +kernel
theorem dX9_reachedCount_0 : decode cX9_reachedCount 0 = .ok (.aload_n 0, 1) := by decide +kernel
theorem dX9_reachedCount_1 : decode cX9_reachedCount 1 = .ok (.getfield 60, 3) := by decide +kernel
theorem dX9_reachedCount_4 : decode cX9_reachedCount 4 = .ok (.aload_n 0, 1) := by decide +kernel
theorem dX9_reachedCount_5 : decode cX9_reachedCount 5 = .ok (.getfield 40, 3) := by decide +kernel
theorem dX9_reachedCount_8 : decode cX9_reachedCount 8 = .ok (.iconst (-1), 1) := by decide +kernel
theorem dX9_reachedCount_9 : decode cX9_reachedCount 9 = .ok (.invokevirtual 194, 3) := by decide +kernel
theorem dX9_reachedCount_12 : decode cX9_reachedCount 12 = .ok (.aload_n 0, 1) := by decide +kernel
theorem dX9_reachedCount_13 : decode cX9_reachedCount 13 = .ok (.getfield 60, 3) := by decide +kernel
theorem dX9_reachedCount_16 : decode cX9_reachedCount 16 = .ok (.getfield 285, 3) := by decide +kernel
theorem dX9_reachedCount_19 : decode cX9_reachedCount 19 = .ok (.ireturn, 1) := by decide +kernel
theorem dX9_image_0 : decode cX9_image 0 = .ok (.aload_n 0, 1) := by decide +kernel
theorem dX9_image_1 : decode cX9_image 1 = .ok (.getfield 117, 3) := by decide +kernel
theorem dX9_image_4 : decode cX9_image 4 = .ok (.ifCond .ne 5, 3) := by decide +kernel
theorem dX9_image_7 : decode cX9_image 7 = .ok (.iconst (-1), 1) := by decide +kernel
theorem dX9_image_8 : decode cX9_image 8 = .ok (.ireturn, 1) := by decide +kernel
theorem dX9_image_9 : decode cX9_image 9 = .ok (.aload_n 0, 1) := by decide +kernel
theorem dX9_image_10 : decode cX9_image 10 = .ok (.getfield 44, 3) := by decide +kernel
theorem dX9_image_13 : decode cX9_image 13 = .ok (.aload_n 0, 1) := by decide +kernel
theorem dX9_image_14 : decode cX9_image 14 = .ok (.getfield 40, 3) := by decide +kernel
theorem dX9_image_17 : decode cX9_image 17 = .ok (.invokevirtual 266, 3) := by decide +kernel
theorem dX9_image_20 : decode cX9_image 20 = .ok (.aload_n 0, 1) := by decide +kernel
theorem dX9_image_21 : decode cX9_image 21 = .ok (.iconst 1, 1) := by decide +kernel
theorem dX9_image_22 : decode cX9_image 22 = .ok (.putfield 121, 3) := by decide +kernel
theorem dX9_image_25 : decode cX9_image 25 = .ok (.aload_n 0, 1) := by decide +kernel
theorem dX9_image_26 : decode cX9_image 26 = .ok (.getfield 40, 3) := by decide +kernel
theorem dX9_image_29 : decode cX9_image 29 = .ok (.invokevirtual 228, 3) := by decide +kernel
theorem dX9_image_32 : decode cX9_image 32 = .ok (.ireturn, 1) := by decide +kernel
theorem dX9_back_0 : decode cX9_back 0 = .ok (.aload_n 0, 1) := by decide +kernel
theorem dX9_back_1 : decode cX9_back 1 = .ok (.getfield 117, 3) := by decide +kernel
theorem dX9_back_4 : decode cX9_back 4 = .ok (.ifCond .eq 10, 3) := by decide +kernel
theorem dX9_back_7 : decode cX9_back 7 = .ok (.aload_n 0, 1) := by decide +kernel
theorem dX9_back_8 : decode cX9_back 8 = .ok (.getfield 121, 3) := by decide +kernel
theorem dX9_back_11 : decode cX9_back 11 = .ok (.ifCond .ne 5, 3) := by decide +kernel
theorem dX9_back_14 : decode cX9_back 14 = .ok (.iconst (-1), 1) := by decide +kernel
theorem dX9_back_15 : decode cX9_back 15 = .ok (.ireturn, 1) := by decide +kernel
theorem dX9_back_16 : decode cX9_back 16 = .ok (.aload_n 0, 1) := by decide +kernel
theorem dX9_back_17 : decode cX9_back 17 = .ok (.getfield 40, 3) := by decide +kernel
theorem dX9_back_20 : decode cX9_back 20 = .ok (.aload_n 0, 1) := by decide +kernel
theorem dX9_back_21 : decode cX9_back 21 = .ok (.getfield 44, 3) := by decide +kernel
theorem dX9_back_24 : decode cX9_back 24 = .ok (.invokevirtual 266, 3) := by decide +kernel
theorem dX9_back_27 : decode cX9_back 27 = .ok (.aload_n 0, 1) := by decide +kernel
theorem dX9_back_28 : decode cX9_back 28 = .ok (.getfield 53, 3) := by decide +kernel
theorem dX9_back_31 : decode cX9_back 31 = .ok (.iconst 0, 1) := by decide +kernel
theorem dX9_back_32 : decode cX9_back 32 = .ok (.putfield 127, 3) := by decide +kernel
theorem dX9_back_35 : decode cX9_back 35 = .ok (.aload_n 0, 1) := by decide +kernel
theorem dX9_back_36 : decode cX9_back 36 = .ok (.getfield 40, 3) := by decide +kernel
theorem dX9_back_39 : decode cX9_back 39 = .ok (.invokevirtual 228, 3) := by decide +kernel
theorem dX9_back_42 : decode cX9_back 42 = .ok (.ireturn, 1) := by decide +kernel
theorem dX9_count_0 : decode cX9_count 0 = .ok (.iload_n 1, 1) := by decide +kernel
theorem dX9_count_1 : decode cX9_count 1 = .ok (.tableswitch 75 0 4 #[35, 43, 48, 56, 67], 35) := by decide +kernel
theorem dX9_count_36 : decode cX9_count 36 = .ok (.aload_n 0, 1) := by decide +kernel
theorem dX9_count_37 : decode cX9_count 37 = .ok (.getfield 40, 3) := by decide +kernel
theorem dX9_count_40 : decode cX9_count 40 = .ok (.getfield 322, 3) := by decide +kernel
theorem dX9_count_43 : decode cX9_count 43 = .ok (.ireturn, 1) := by decide +kernel
theorem dX9_count_44 : decode cX9_count 44 = .ok (.aload_n 0, 1) := by decide +kernel
theorem dX9_count_45 : decode cX9_count 45 = .ok (.getfield 128, 3) := by decide +kernel
theorem dX9_count_48 : decode cX9_count 48 = .ok (.ireturn, 1) := by decide +kernel
theorem dX9_count_49 : decode cX9_count 49 = .ok (.aload_n 0, 1) := by decide +kernel
theorem dX9_count_50 : decode cX9_count 50 = .ok (.getfield 10, 3) := by decide +kernel
theorem dX9_count_53 : decode cX9_count 53 = .ok (.getfield 89, 3) := by decide +kernel
theorem dX9_count_56 : decode cX9_count 56 = .ok (.ireturn, 1) := by decide +kernel
theorem dX9_count_57 : decode cX9_count 57 = .ok (.aload_n 0, 1) := by decide +kernel
theorem dX9_count_58 : decode cX9_count 58 = .ok (.getfield 40, 3) := by decide +kernel
theorem dX9_count_61 : decode cX9_count 61 = .ok (.getfield 246, 3) := by decide +kernel
theorem dX9_count_64 : decode cX9_count 64 = .ok (.getfield 249, 3) := by decide +kernel
theorem dX9_count_67 : decode cX9_count 67 = .ok (.ireturn, 1) := by decide +kernel
theorem dX9_count_68 : decode cX9_count 68 = .ok (.aload_n 0, 1) := by decide +kernel
theorem dX9_count_69 : decode cX9_count 69 = .ok (.getfield 53, 3) := by decide +kernel
theorem dX9_count_72 : decode cX9_count 72 = .ok (.getfield 127, 3) := by decide +kernel
theorem dX9_count_75 : decode cX9_count 75 = .ok (.ireturn, 1) := by decide +kernel
theorem dX9_count_76 : decode cX9_count 76 = .ok (.ldc 250, 2) := by decide +kernel
theorem dX9_count_78 : decode cX9_count 78 = .ok (.ireturn, 1) := by decide +kernel
