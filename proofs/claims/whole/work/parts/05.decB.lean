theorem dX5_init_0 : decode cX5_init 0 = .ok (.aload_n 0, 1) := by decide +kernel
theorem dX5_init_1 : decode cX5_init 1 = .ok (.invokespecial 3, 3) := by decide +kernel
theorem dX5_init_4 : decode cX5_init 4 = .ok (.aload_n 0, 1) := by decide +kernel
theorem dX5_init_5 : decode cX5_init 5 = .ok (.sipush 500, 3) := by decide +kernel
theorem dX5_init_8 : decode cX5_init 8 = .ok (.newarray .byte, 2) := by decide +kernel
theorem dX5_init_10 : decode cX5_init 10 = .ok (.putfield 9, 3) := by decide +kernel
theorem dX5_init_13 : decode cX5_init 13 = .ok (.aload_n 0, 1) := by decide +kernel
theorem dX5_init_14 : decode cX5_init 14 = .ok (.iconst 0, 1) := by decide +kernel
theorem dX5_init_15 : decode cX5_init 15 = .ok (.putfield 13, 3) := by decide +kernel
theorem dX5_init_18 : decode cX5_init 18 = .ok (.aload_n 0, 1) := by decide +kernel
theorem dX5_init_19 : decode cX5_init 19 = .ok (.iconst (-1), 1) := by decide +kernel
theorem dX5_init_20 : decode cX5_init 20 = .ok (.putfield 17, 3) := by decide +kernel
theorem dX5_init_23 : decode cX5_init 23 = .ok (.aload_n 0, 1) := by decide +kernel
theorem dX5_init_24 : decode cX5_init 24 = .ok (.new 20, 3) := by decide +kernel
theorem dX5_init_27 : decode cX5_init 27 = .ok (.dup, 1) := by decide +kernel
theorem dX5_init_28 : decode cX5_init 28 = .ok (.invokespecial 22, 3) := by decide +kernel
theorem dX5_init_31 : decode cX5_init 31 = .ok (.putfield 23, 3) := by decide +kernel
theorem dX5_init_34 : decode cX5_init 34 = .ok (.aload_n 0, 1) := by decide +kernel
theorem dX5_init_35 : decode cX5_init 35 = .ok (.new 20, 3) := by decide +kernel
theorem dX5_init_38 : decode cX5_init 38 = .ok (.dup, 1) := by decide +kernel
theorem dX5_init_39 : decode cX5_init 39 = .ok (.invokespecial 22, 3) := by decide +kernel
theorem dX5_init_42 : decode cX5_init 42 = .ok (.putfield 27, 3) := by decide +kernel
theorem dX5_init_45 : decode cX5_init 45 = .ok (.aload_n 0, 1) := by decide +kernel
theorem dX5_init_46 : decode cX5_init 46 = .ok (.bipush 8, 2) := by decide +kernel
theorem dX5_init_48 : decode cX5_init 48 = .ok (.anewarray 20, 3) := by decide +kernel
theorem dX5_init_51 : decode cX5_init 51 = .ok (.putfield 30, 3) := by decide +kernel
theorem dX5_init_54 : decode cX5_init 54 = .ok (.aload_n 0, 1) := by decide +kernel
theorem dX5_init_55 : decode cX5_init 55 = .ok (.iconst 0, 1) := by decide +kernel
theorem dX5_init_56 : decode cX5_init 56 = .ok (.putfield 34, 3) := by decide +kernel
theorem dX5_init_59 : decode cX5_init 59 = .ok (.aload_n 0, 1) := by decide +kernel
theorem dX5_init_60 : decode cX5_init 60 = .ok (.new 37, 3) := by decide +kernel
theorem dX5_init_63 : decode cX5_init 63 = .ok (.dup, 1) := by decide +kernel
theorem dX5_init_64 : decode cX5_init 64 = .ok (.invokespecial 39, 3) := by decide +kernel
theorem dX5_init_67 : decode cX5_init 67 = .ok (.putfield 40, 3) := by decide +kernel
theorem dX5_init_70 : decode cX5_init 70 = .ok (.aload_n 0, 1) := by decide +kernel
theorem dX5_init_71 : decode cX5_init 71 = .ok (.new 44, 3) := by decide +kernel
theorem dX5_init_74 : decode cX5_init 74 = .ok (.dup, 1) := by decide +kernel
theorem dX5_init_75 : decode cX5_init 75 = .ok (.aload_n 0, 1) := by decide +kernel
theorem dX5_init_76 : decode cX5_init 76 = .ok (.getfield 23, 3) := by decide +kernel
theorem dX5_init_79 : decode cX5_init 79 = .ok (.invokespecial 46, 3) := by decide +kernel
theorem dX5_init_82 : decode cX5_init 82 = .ok (.putfield 49, 3) := by decide +kernel
theorem dX5_init_85 : decode cX5_init 85 = .ok (.aload_n 0, 1) := by decide +kernel
theorem dX5_init_86 : decode cX5_init 86 = .ok (.new 53, 3) := by decide +kernel
theorem dX5_init_89 : decode cX5_init 89 = .ok (.dup, 1) := by decide +kernel
theorem dX5_init_90 : decode cX5_init 90 = .ok (.invokespecial 55, 3) := by decide +kernel
theorem dX5_init_93 : decode cX5_init 93 = .ok (.putfield 56, 3) := by decide +kernel
theorem dX5_init_96 : decode cX5_init 96 = .ok (.aload_n 0, 1) := by decide +kernel
theorem dX5_init_97 : decode cX5_init 97 = .ok (.new 60, 3) := by decide +kernel
theorem dX5_init_100 : decode cX5_init 100 = .ok (.dup, 1) := by decide +kernel
theorem dX5_init_101 : decode cX5_init 101 = .ok (.invokespecial 62, 3) := by decide +kernel
theorem dX5_init_104 : decode cX5_init 104 = .ok (.putfield 63, 3) := by decide +kernel
theorem dX5_init_107 : decode cX5_init 107 = .ok (.aload_n 0, 1) := by decide +kernel
theorem dX5_init_108 : decode cX5_init 108 = .ok (.iconst 3, 1) := by decide +kernel
theorem dX5_init_109 : decode cX5_init 109 = .ok (.newarray .int, 2) := by decide +kernel
theorem dX5_init_111 : decode cX5_init 111 = .ok (.putfield 67, 3) := by decide +kernel
theorem dX5_init_114 : decode cX5_init 114 = .ok (.iconst 0, 1) := by decide +kernel
theorem dX5_init_115 : decode cX5_init 115 = .ok (.istore_n 1, 1) := by decide +kernel
theorem dX5_init_116 : decode cX5_init 116 = .ok (.iload_n 1, 1) := by decide +kernel
theorem dX5_init_117 : decode cX5_init 117 = .ok (.bipush 8, 2) := by decide +kernel
theorem dX5_init_119 : decode cX5_init 119 = .ok (.if_icmp .ge 22, 3) := by decide +kernel
theorem dX5_init_122 : decode cX5_init 122 = .ok (.aload_n 0, 1) := by decide +kernel
theorem dX5_init_123 : decode cX5_init 123 = .ok (.getfield 30, 3) := by decide +kernel
theorem dX5_init_126 : decode cX5_init 126 = .ok (.iload_n 1, 1) := by decide +kernel
theorem dX5_init_127 : decode cX5_init 127 = .ok (.new 20, 3) := by decide +kernel
theorem dX5_init_130 : decode cX5_init 130 = .ok (.dup, 1) := by decide +kernel
theorem dX5_init_131 : decode cX5_init 131 = .ok (.invokespecial 22, 3) := by decide +kernel
theorem dX5_init_134 : decode cX5_init 134 = .ok (.aastore, 1) := by decide +kernel
theorem dX5_init_135 : decode cX5_init 135 = .ok (.iinc 1 1, 3) := by decide +kernel
theorem dX5_init_138 : decode cX5_init 138 = .ok (.goto (-22), 3) := by decide +kernel
theorem dX5_init_141 : decode cX5_init 141 = .ok (.aload_n 0, 1) := by decide +kernel
theorem dX5_init_142 : decode cX5_init 142 = .ok (.getfield 23, 3) := by decide +kernel
theorem dX5_init_145 : decode cX5_init 145 = .ok (.iconst 2, 1) := by decide +kernel
theorem dX5_init_146 : decode cX5_init 146 = .ok (.invokevirtual 71, 3) := by decide +kernel
theorem dX5_init_149 : decode cX5_init 149 = .ok (.aload_n 0, 1) := by decide +kernel
theorem dX5_init_150 : decode cX5_init 150 = .ok (.getfield 23, 3) := by decide +kernel
theorem dX5_init_153 : decode cX5_init 153 = .ok (.iconst 0, 1) := by decide +kernel
theorem dX5_init_154 : decode cX5_init 154 = .ok (.iconst 1, 1) := by decide +kernel
theorem dX5_init_155 : decode cX5_init 155 = .ok (.iconst 1, 1) := by decide +kernel
theorem dX5_init_156 : decode cX5_init 156 = .ok (.invokevirtual 75, 3) := by decide +kernel
theorem dX5_init_159 : decode cX5_init 159 = .ok (.return_, 1) := by decide +kernel
theorem dX5_feed_0 : decode cX5_feed 0 = .ok (.aload_n 0, 1) := by decide +kernel
theorem dX5_feed_1 : decode cX5_feed 1 = .ok (.getfield 13, 3) := by decide +kernel
theorem dX5_feed_4 : decode cX5_feed 4 = .ok (.bipush 20, 2) := by decide +kernel
theorem dX5_feed_6 : decode cX5_feed 6 = .ok (.iadd, 1) := by decide +kernel
theorem dX5_feed_7 : decode cX5_feed 7 = .ok (.sipush 500, 3) := by decide +kernel
theorem dX5_feed_10 : decode cX5_feed 10 = .ok (.if_icmp .le 5, 3) := by decide +kernel
theorem dX5_feed_13 : decode cX5_feed 13 = .ok (.iconst (-1), 1) := by decide +kernel
theorem dX5_feed_14 : decode cX5_feed 14 = .ok (.ireturn, 1) := by decide +kernel
theorem dX5_feed_15 : decode cX5_feed 15 = .ok (.aload_n 0, 1) := by decide +kernel
theorem dX5_feed_16 : decode cX5_feed 16 = .ok (.iload_n 1, 1) := by decide +kernel
theorem dX5_feed_17 : decode cX5_feed 17 = .ok (.invokevirtual 79, 3) := by decide +kernel
theorem dX5_feed_20 : decode cX5_feed 20 = .ok (.aload_n 0, 1) := by decide +kernel
theorem dX5_feed_21 : decode cX5_feed 21 = .ok (.iload_n 2, 1) := by decide +kernel
theorem dX5_feed_22 : decode cX5_feed 22 = .ok (.invokevirtual 79, 3) := by decide +kernel
theorem dX5_feed_25 : decode cX5_feed 25 = .ok (.aload_n 0, 1) := by decide +kernel
theorem dX5_feed_26 : decode cX5_feed 26 = .ok (.iload_n 3, 1) := by decide +kernel
theorem dX5_feed_27 : decode cX5_feed 27 = .ok (.invokevirtual 79, 3) := by decide +kernel
theorem dX5_feed_30 : decode cX5_feed 30 = .ok (.aload_n 0, 1) := by decide +kernel
theorem dX5_feed_31 : decode cX5_feed 31 = .ok (.iload 4, 2) := by decide +kernel
theorem dX5_feed_33 : decode cX5_feed 33 = .ok (.invokevirtual 79, 3) := by decide +kernel
theorem dX5_feed_36 : decode cX5_feed 36 = .ok (.aload_n 0, 1) := by decide +kernel
theorem dX5_feed_37 : decode cX5_feed 37 = .ok (.iload 5, 2) := by decide +kernel
theorem dX5_feed_39 : decode cX5_feed 39 = .ok (.invokevirtual 79, 3) := by decide +kernel
theorem dX5_feed_42 : decode cX5_feed 42 = .ok (.aload_n 0, 1) := by decide +kernel
theorem dX5_feed_43 : decode cX5_feed 43 = .ok (.getfield 13, 3) := by decide +kernel
theorem dX5_feed_46 : decode cX5_feed 46 = .ok (.ireturn, 1) := by decide +kernel
theorem dX5_text_0 : decode cX5_text 0 = .ok (.aload_n 0, 1) := by decide +kernel
theorem dX5_text_1 : decode cX5_text 1 = .ok (.iload_n 1, 1) := by decide +kernel
theorem dX5_text_2 : decode cX5_text 2 = .ok (.ifCond .lt 15, 3) := by decide +kernel
theorem dX5_text_5 : decode cX5_text 5 = .ok (.iload_n 1, 1) := by decide +kernel
theorem dX5_text_6 : decode cX5_text 6 = .ok (.aload_n 0, 1) := by decide +kernel
theorem dX5_text_7 : decode cX5_text 7 = .ok (.getfield 13, 3) := by decide +kernel
theorem dX5_text_10 : decode cX5_text 10 = .ok (.if_icmp .gt 7, 3) := by decide +kernel
theorem dX5_text_13 : decode cX5_text 13 = .ok (.iconst 1, 1) := by decide +kernel
theorem dX5_text_14 : decode cX5_text 14 = .ok (.goto 4, 3) := by decide +kernel
theorem dX5_text_17 : decode cX5_text 17 = .ok (.iconst 0, 1) := by decide +kernel
theorem dX5_text_18 : decode cX5_text 18 = .ok (.invokevirtual 82, 3) := by decide +kernel
theorem dX5_text_21 : decode cX5_text 21 = .ok (.aload_n 0, 1) := by decide +kernel
theorem dX5_text_22 : decode cX5_text 22 = .ok (.getfield 40, 3) := by decide +kernel
theorem dX5_text_25 : decode cX5_text 25 = .ok (.aload_n 0, 1) := by decide +kernel
theorem dX5_text_26 : decode cX5_text 26 = .ok (.getfield 9, 3) := by decide +kernel
theorem dX5_text_29 : decode cX5_text 29 = .ok (.iload_n 1, 1) := by decide +kernel
theorem dX5_text_30 : decode cX5_text 30 = .ok (.aload_n 0, 1) := by decide +kernel
theorem dX5_text_31 : decode cX5_text 31 = .ok (.getfield 27, 3) := by decide +kernel
theorem dX5_text_34 : decode cX5_text 34 = .ok (.invokevirtual 86, 3) := by decide +kernel
theorem dX5_text_37 : decode cX5_text 37 = .ok (.aload_n 0, 1) := by decide +kernel
theorem dX5_text_38 : decode cX5_text 38 = .ok (.iconst 0, 1) := by decide +kernel
theorem dX5_text_39 : decode cX5_text 39 = .ok (.putfield 13, 3) := by decide +kernel
theorem dX5_text_42 : decode cX5_text 42 = .ok (.aload_n 0, 1) := by decide +kernel
theorem dX5_text_43 : decode cX5_text 43 = .ok (.aload_n 0, 1) := by decide +kernel
theorem dX5_text_44 : decode cX5_text 44 = .ok (.getfield 40, 3) := by decide +kernel
theorem dX5_text_47 : decode cX5_text 47 = .ok (.getfield 90, 3) := by decide +kernel
theorem dX5_text_50 : decode cX5_text 50 = .ok (.putfield 17, 3) := by decide +kernel
theorem dX5_text_53 : decode cX5_text 53 = .ok (.aload_n 0, 1) := by decide +kernel
theorem dX5_text_54 : decode cX5_text 54 = .ok (.getfield 40, 3) := by decide +kernel
theorem dX5_text_57 : decode cX5_text 57 = .ok (.getfield 93, 3) := by decide +kernel
theorem dX5_text_60 : decode cX5_text 60 = .ok (.ifCond .eq 14, 3) := by decide +kernel
theorem dX5_text_63 : decode cX5_text 63 = .ok (.aload_n 0, 1) := by decide +kernel
theorem dX5_text_64 : decode cX5_text 64 = .ok (.getfield 40, 3) := by decide +kernel
theorem dX5_text_67 : decode cX5_text 67 = .ok (.getfield 93, 3) := by decide +kernel
theorem dX5_text_70 : decode cX5_text 70 = .ok (.bipush 10, 2) := by decide +kernel
theorem dX5_text_72 : decode cX5_text 72 = .ok (.isub, 1) := by decide +kernel
theorem dX5_text_73 : decode cX5_text 73 = .ok (.ireturn, 1) := by decide +kernel
theorem dX5_text_74 : decode cX5_text 74 = .ok (.aload_n 0, 1) := by decide +kernel
theorem dX5_text_75 : decode cX5_text 75 = .ok (.invokevirtual 96, 3) := by decide +kernel
theorem dX5_text_78 : decode cX5_text 78 = .ok (.aload_n 0, 1) := by decide +kernel
theorem dX5_text_79 : decode cX5_text 79 = .ok (.getfield 23, 3) := by decide +kernel
theorem dX5_text_82 : decode cX5_text 82 = .ok (.getfield 99, 3) := by decide +kernel
theorem dX5_text_85 : decode cX5_text 85 = .ok (.ireturn, 1) := by decide +kernel
theorem dX5_fault_0 : decode cX5_fault 0 = .ok (.aload_n 0, 1) := by decide +kernel
theorem dX5_fault_1 : decode cX5_fault 1 = .ok (.getfield 17, 3) := by decide +kernel
theorem dX5_fault_4 : decode cX5_fault 4 = .ok (.ireturn, 1) := by decide +kernel
theorem dX5_join_0 : decode cX5_join 0 = .ok (.aload_n 0, 1) := by decide +kernel
theorem dX5_join_1 : decode cX5_join 1 = .ok (.iload_n 1, 1) := by decide +kernel
theorem dX5_join_2 : decode cX5_join 2 = .ok (.invokevirtual 102, 3) := by decide +kernel
theorem dX5_join_5 : decode cX5_join 5 = .ok (.aload_n 0, 1) := by decide +kernel
theorem dX5_join_6 : decode cX5_join 6 = .ok (.iload_n 2, 1) := by decide +kernel
theorem dX5_join_7 : decode cX5_join 7 = .ok (.invokevirtual 102, 3) := by decide +kernel
theorem dX5_join_10 : decode cX5_join 10 = .ok (.aload_n 0, 1) := by decide +kernel
theorem dX5_join_11 : decode cX5_join 11 = .ok (.iload_n 1, 1) := by decide +kernel
theorem dX5_join_12 : decode cX5_join 12 = .ok (.iload_n 2, 1) := by decide +kernel
theorem dX5_join_13 : decode cX5_join 13 = .ok (.if_icmp .eq 18, 3) := by decide +kernel
theorem dX5_join_16 : decode cX5_join 16 = .ok (.iload_n 3, 1) := by decide +kernel
theorem dX5_join_17 : decode cX5_join 17 = .ok (.ifCond .lt 14, 3) := by decide +kernel
theorem dX5_join_20 : decode cX5_join 20 = .ok (.iload_n 3, 1) := by decide +kernel
theorem dX5_join_21 : decode cX5_join 21 = .ok (.sipush 999, 3) := by decide +kernel
theorem dX5_join_24 : decode cX5_join 24 = .ok (.if_icmp .gt 7, 3) := by decide +kernel
theorem dX5_join_27 : decode cX5_join 27 = .ok (.iconst 1, 1) := by decide +kernel
theorem dX5_join_28 : decode cX5_join 28 = .ok (.goto 4, 3) := by decide +kernel
theorem dX5_join_31 : decode cX5_join 31 = .ok (.iconst 0, 1) := by decide +kernel
theorem dX5_join_32 : decode cX5_join 32 = .ok (.invokevirtual 82, 3) := by decide +kernel
theorem dX5_join_35 : decode cX5_join 35 = .ok (.aload_n 0, 1) := by decide +kernel
theorem dX5_join_36 : decode cX5_join 36 = .ok (.invokevirtual 105, 3) := by decide +kernel
theorem dX5_join_39 : decode cX5_join 39 = .ok (.aload_n 0, 1) := by decide +kernel
theorem dX5_join_40 : decode cX5_join 40 = .ok (.getfield 23, 3) := by decide +kernel
theorem dX5_join_43 : decode cX5_join 43 = .ok (.iload_n 1, 1) := by decide +kernel
theorem dX5_join_44 : decode cX5_join 44 = .ok (.iload_n 2, 1) := by decide +kernel
theorem dX5_join_45 : decode cX5_join 45 = .ok (.iload_n 3, 1) := by decide +kernel
theorem dX5_join_46 : decode cX5_join 46 = .ok (.invokevirtual 75, 3) := by decide +kernel
theorem dX5_join_49 : decode cX5_join 49 = .ok (.aload_n 0, 1) := by decide +kernel
theorem dX5_join_50 : decode cX5_join 50 = .ok (.getfield 23, 3) := by decide +kernel
theorem dX5_join_53 : decode cX5_join 53 = .ok (.getfield 99, 3) := by decide +kernel
theorem dX5_join_56 : decode cX5_join 56 = .ok (.ireturn, 1) := by decide +kernel
theorem dX5_cut_0 : decode cX5_cut 0 = .ok (.aload_n 0, 1) := by decide +kernel
theorem dX5_cut_1 : decode cX5_cut 1 = .ok (.iload_n 1, 1) := by decide +kernel
theorem dX5_cut_2 : decode cX5_cut 2 = .ok (.iload_n 2, 1) := by decide +kernel
theorem dX5_cut_3 : decode cX5_cut 3 = .ok (.invokevirtual 108, 3) := by decide +kernel
theorem dX5_cut_6 : decode cX5_cut 6 = .ok (.aload_n 0, 1) := by decide +kernel
theorem dX5_cut_7 : decode cX5_cut 7 = .ok (.aload_n 0, 1) := by decide +kernel
theorem dX5_cut_8 : decode cX5_cut 8 = .ok (.getfield 23, 3) := by decide +kernel
theorem dX5_cut_11 : decode cX5_cut 11 = .ok (.iload_n 1, 1) := by decide +kernel
theorem dX5_cut_12 : decode cX5_cut 12 = .ok (.iload_n 2, 1) := by decide +kernel
theorem dX5_cut_13 : decode cX5_cut 13 = .ok (.invokevirtual 112, 3) := by decide +kernel
theorem dX5_cut_16 : decode cX5_cut 16 = .ok (.invokevirtual 116, 3) := by decide +kernel
theorem dX5_cut_19 : decode cX5_cut 19 = .ok (.aload_n 0, 1) := by decide +kernel
theorem dX5_cut_20 : decode cX5_cut 20 = .ok (.invokevirtual 105, 3) := by decide +kernel
theorem dX5_cut_23 : decode cX5_cut 23 = .ok (.aload_n 0, 1) := by decide +kernel
theorem dX5_cut_24 : decode cX5_cut 24 = .ok (.getfield 23, 3) := by decide +kernel
theorem dX5_cut_27 : decode cX5_cut 27 = .ok (.iload_n 1, 1) := by decide +kernel
theorem dX5_cut_28 : decode cX5_cut 28 = .ok (.iload_n 2, 1) := by decide +kernel
theorem dX5_cut_29 : decode cX5_cut 29 = .ok (.invokevirtual 119, 3) := by decide +kernel
theorem dX5_cut_32 : decode cX5_cut 32 = .ok (.aload_n 0, 1) := by decide +kernel
theorem dX5_cut_33 : decode cX5_cut 33 = .ok (.getfield 23, 3) := by decide +kernel
theorem dX5_cut_36 : decode cX5_cut 36 = .ok (.getfield 99, 3) := by decide +kernel
theorem dX5_cut_39 : decode cX5_cut 39 = .ok (.ireturn, 1) := by decide +kernel
theorem dX5_pair_0 : decode cX5_pair 0 = .ok (.aload_n 0, 1) := by decide +kernel
theorem dX5_pair_1 : decode cX5_pair 1 = .ok (.iload_n 1, 1) := by decide +kernel
theorem dX5_pair_2 : decode cX5_pair 2 = .ok (.iload_n 2, 1) := by decide +kernel
theorem dX5_pair_3 : decode cX5_pair 3 = .ok (.invokevirtual 108, 3) := by decide +kernel
theorem dX5_pair_6 : decode cX5_pair 6 = .ok (.aload_n 0, 1) := by decide +kernel
theorem dX5_pair_7 : decode cX5_pair 7 = .ok (.aload_n 0, 1) := by decide +kernel
theorem dX5_pair_8 : decode cX5_pair 8 = .ok (.getfield 23, 3) := by decide +kernel
theorem dX5_pair_11 : decode cX5_pair 11 = .ok (.iload_n 1, 1) := by decide +kernel
theorem dX5_pair_12 : decode cX5_pair 12 = .ok (.iload_n 2, 1) := by decide +kernel
theorem dX5_pair_13 : decode cX5_pair 13 = .ok (.invokevirtual 112, 3) := by decide +kernel
theorem dX5_pair_16 : decode cX5_pair 16 = .ok (.ifCond .eq 29, 3) := by decide +kernel
theorem dX5_pair_19 : decode cX5_pair 19 = .ok (.aload_n 0, 1) := by decide +kernel
theorem dX5_pair_20 : decode cX5_pair 20 = .ok (.getfield 23, 3) := by decide +kernel
theorem dX5_pair_23 : decode cX5_pair 23 = .ok (.iload_n 1, 1) := by decide +kernel
theorem dX5_pair_24 : decode cX5_pair 24 = .ok (.invokevirtual 122, 3) := by decide +kernel
theorem dX5_pair_27 : decode cX5_pair 27 = .ok (.ifCond .eq 18, 3) := by decide +kernel
theorem dX5_pair_30 : decode cX5_pair 30 = .ok (.aload_n 0, 1) := by decide +kernel
theorem dX5_pair_31 : decode cX5_pair 31 = .ok (.getfield 23, 3) := by decide +kernel
theorem dX5_pair_34 : decode cX5_pair 34 = .ok (.iload_n 2, 1) := by decide +kernel
theorem dX5_pair_35 : decode cX5_pair 35 = .ok (.invokevirtual 122, 3) := by decide +kernel
theorem dX5_pair_38 : decode cX5_pair 38 = .ok (.ifCond .eq 7, 3) := by decide +kernel
theorem dX5_pair_41 : decode cX5_pair 41 = .ok (.iconst 1, 1) := by decide +kernel
theorem dX5_pair_42 : decode cX5_pair 42 = .ok (.goto 4, 3) := by decide +kernel
theorem dX5_pair_45 : decode cX5_pair 45 = .ok (.iconst 0, 1) := by decide +kernel
theorem dX5_pair_46 : decode cX5_pair 46 = .ok (.invokevirtual 116, 3) := by decide +kernel
theorem dX5_pair_49 : decode cX5_pair 49 = .ok (.aload_n 0, 1) := by decide +kernel
theorem dX5_pair_50 : decode cX5_pair 50 = .ok (.invokevirtual 126, 3) := by decide +kernel
theorem dX5_pair_53 : decode cX5_pair 53 = .ok (.aload_n 0, 1) := by decide +kernel
theorem dX5_pair_54 : decode cX5_pair 54 = .ok (.getfield 23, 3) := by decide +kernel
theorem dX5_pair_57 : decode cX5_pair 57 = .ok (.iload_n 1, 1) := by decide +kernel
theorem dX5_pair_58 : decode cX5_pair 58 = .ok (.iload_n 2, 1) := by decide +kernel
theorem dX5_pair_59 : decode cX5_pair 59 = .ok (.invokevirtual 129, 3) := by decide +kernel
theorem dX5_pair_62 : decode cX5_pair 62 = .ok (.aload_n 0, 1) := by decide +kernel
theorem dX5_pair_63 : decode cX5_pair 63 = .ok (.getfield 23, 3) := by decide +kernel
theorem dX5_pair_66 : decode cX5_pair 66 = .ok (.invokevirtual 132, 3) := by decide +kernel
theorem dX5_pair_69 : decode cX5_pair 69 = .ok (.ireturn, 1) := by decide +kernel
theorem dX5_part_0 : decode cX5_part 0 = .ok (.aload_n 0, 1) := by decide +kernel
theorem dX5_part_1 : decode cX5_part 1 = .ok (.iload_n 1, 1) := by decide +kernel
theorem dX5_part_2 : decode cX5_part 2 = .ok (.invokevirtual 102, 3) := by decide +kernel
theorem dX5_part_5 : decode cX5_part 5 = .ok (.aload_n 0, 1) := by decide +kernel
theorem dX5_part_6 : decode cX5_part 6 = .ok (.aload_n 0, 1) := by decide +kernel
theorem dX5_part_7 : decode cX5_part 7 = .ok (.getfield 23, 3) := by decide +kernel
theorem dX5_part_10 : decode cX5_part 10 = .ok (.iload_n 1, 1) := by decide +kernel
theorem dX5_part_11 : decode cX5_part 11 = .ok (.invokevirtual 122, 3) := by decide +kernel
theorem dX5_part_14 : decode cX5_part 14 = .ok (.ifCond .ne 7, 3) := by decide +kernel
theorem dX5_part_17 : decode cX5_part 17 = .ok (.iconst 1, 1) := by decide +kernel
theorem dX5_part_18 : decode cX5_part 18 = .ok (.goto 4, 3) := by decide +kernel
theorem dX5_part_21 : decode cX5_part 21 = .ok (.iconst 0, 1) := by decide +kernel
theorem dX5_part_22 : decode cX5_part 22 = .ok (.invokevirtual 116, 3) := by decide +kernel
theorem dX5_part_25 : decode cX5_part 25 = .ok (.aload_n 0, 1) := by decide +kernel
theorem dX5_part_26 : decode cX5_part 26 = .ok (.invokevirtual 126, 3) := by decide +kernel
theorem dX5_part_29 : decode cX5_part 29 = .ok (.aload_n 0, 1) := by decide +kernel
theorem dX5_part_30 : decode cX5_part 30 = .ok (.getfield 23, 3) := by decide +kernel
theorem dX5_part_33 : decode cX5_part 33 = .ok (.getfield 136, 3) := by decide +kernel
theorem dX5_part_36 : decode cX5_part 36 = .ok (.iload_n 1, 1) := by decide +kernel
theorem dX5_part_37 : decode cX5_part 37 = .ok (.iaload, 1) := by decide +kernel
theorem dX5_part_38 : decode cX5_part 38 = .ok (.istore_n 2, 1) := by decide +kernel
theorem dX5_part_39 : decode cX5_part 39 = .ok (.aload_n 0, 1) := by decide +kernel
theorem dX5_part_40 : decode cX5_part 40 = .ok (.getfield 23, 3) := by decide +kernel
theorem dX5_part_43 : decode cX5_part 43 = .ok (.iload_n 1, 1) := by decide +kernel
theorem dX5_part_44 : decode cX5_part 44 = .ok (.invokevirtual 139, 3) := by decide +kernel
theorem dX5_part_47 : decode cX5_part 47 = .ok (.iload_n 2, 1) := by decide +kernel
theorem dX5_part_48 : decode cX5_part 48 = .ok (.ireturn, 1) := by decide +kernel
theorem dX5_better_0 : decode cX5_better 0 = .ok (.aload_n 0, 1) := by decide +kernel
theorem dX5_better_1 : decode cX5_better 1 = .ok (.iload_n 1, 1) := by decide +kernel
theorem dX5_better_2 : decode cX5_better 2 = .ok (.invokevirtual 102, 3) := by decide +kernel
theorem dX5_better_5 : decode cX5_better 5 = .ok (.aload_n 0, 1) := by decide +kernel
theorem dX5_better_6 : decode cX5_better 6 = .ok (.aload_n 0, 1) := by decide +kernel
theorem dX5_better_7 : decode cX5_better 7 = .ok (.getfield 63, 3) := by decide +kernel
theorem dX5_better_10 : decode cX5_better 10 = .ok (.aload_n 0, 1) := by decide +kernel
theorem dX5_better_11 : decode cX5_better 11 = .ok (.getfield 23, 3) := by decide +kernel
theorem dX5_better_14 : decode cX5_better 14 = .ok (.iload_n 1, 1) := by decide +kernel
theorem dX5_better_15 : decode cX5_better 15 = .ok (.invokevirtual 142, 3) := by decide +kernel
theorem dX5_better_18 : decode cX5_better 18 = .ok (.invokevirtual 116, 3) := by decide +kernel
theorem dX5_better_21 : decode cX5_better 21 = .ok (.aload_n 0, 1) := by decide +kernel
theorem dX5_better_22 : decode cX5_better 22 = .ok (.invokevirtual 126, 3) := by decide +kernel
theorem dX5_better_25 : decode cX5_better 25 = .ok (.aload_n 0, 1) := by decide +kernel
theorem dX5_better_26 : decode cX5_better 26 = .ok (.getfield 63, 3) := by decide +kernel
theorem dX5_better_29 : decode cX5_better 29 = .ok (.aload_n 0, 1) := by decide +kernel
theorem dX5_better_30 : decode cX5_better 30 = .ok (.getfield 23, 3) := by decide +kernel
theorem dX5_better_33 : decode cX5_better 33 = .ok (.invokevirtual 146, 3) := by decide +kernel
theorem dX5_better_36 : decode cX5_better 36 = .ok (.aload_n 0, 1) := by decide +kernel
theorem dX5_better_37 : decode cX5_better 37 = .ok (.getfield 23, 3) := by decide +kernel
theorem dX5_better_40 : decode cX5_better 40 = .ok (.invokevirtual 132, 3) := by decide +kernel
theorem dX5_better_43 : decode cX5_better 43 = .ok (.ireturn, 1) := by decide +kernel
theorem dX5_finish_0 : decode cX5_finish 0 = .ok (.aload_n 0, 1) := by decide +kernel
theorem dX5_finish_1 : decode cX5_finish 1 = .ok (.invokevirtual 149, 3) := by decide +kernel
theorem dX5_finish_4 : decode cX5_finish 4 = .ok (.aload_n 0, 1) := by decide +kernel
theorem dX5_finish_5 : decode cX5_finish 5 = .ok (.getfield 49, 3) := by decide +kernel
theorem dX5_finish_8 : decode cX5_finish 8 = .ok (.invokevirtual 152, 3) := by decide +kernel
theorem dX5_finish_11 : decode cX5_finish 11 = .ok (.aload_n 0, 1) := by decide +kernel
theorem dX5_finish_12 : decode cX5_finish 12 = .ok (.getfield 23, 3) := by decide +kernel
theorem dX5_finish_15 : decode cX5_finish 15 = .ok (.invokevirtual 132, 3) := by decide +kernel
theorem dX5_finish_18 : decode cX5_finish 18 = .ok (.istore_n 1, 1) := by decide +kernel
theorem dX5_finish_19 : decode cX5_finish 19 = .ok (.aload_n 0, 1) := by decide +kernel
theorem dX5_finish_20 : decode cX5_finish 20 = .ok (.invokevirtual 126, 3) := by decide +kernel
theorem dX5_finish_23 : decode cX5_finish 23 = .ok (.aload_n 0, 1) := by decide +kernel
theorem dX5_finish_24 : decode cX5_finish 24 = .ok (.getfield 49, 3) := by decide +kernel
theorem dX5_finish_27 : decode cX5_finish 27 = .ok (.getfield 155, 3) := by decide +kernel
theorem dX5_finish_30 : decode cX5_finish 30 = .ok (.iconst 0, 1) := by decide +kernel
theorem dX5_finish_31 : decode cX5_finish 31 = .ok (.aload_n 0, 1) := by decide +kernel
theorem dX5_finish_32 : decode cX5_finish 32 = .ok (.getfield 23, 3) := by decide +kernel
theorem dX5_finish_35 : decode cX5_finish 35 = .ok (.getfield 136, 3) := by decide +kernel
theorem dX5_finish_38 : decode cX5_finish 38 = .ok (.iconst 0, 1) := by decide +kernel
theorem dX5_finish_39 : decode cX5_finish 39 = .ok (.bipush 12, 2) := by decide +kernel
theorem dX5_finish_41 : decode cX5_finish 41 = .ok (.invokestatic 158, 3) := by decide +kernel
theorem dX5_finish_44 : decode cX5_finish 44 = .ok (.aload_n 0, 1) := by decide +kernel
theorem dX5_finish_45 : decode cX5_finish 45 = .ok (.getfield 23, 3) := by decide +kernel
theorem dX5_finish_48 : decode cX5_finish 48 = .ok (.invokevirtual 132, 3) := by decide +kernel
theorem dX5_finish_51 : decode cX5_finish 51 = .ok (.iload_n 1, 1) := by decide +kernel
theorem dX5_finish_52 : decode cX5_finish 52 = .ok (.isub, 1) := by decide +kernel
theorem dX5_finish_53 : decode cX5_finish 53 = .ok (.ireturn, 1) := by decide +kernel
theorem dX5_shrink_0 : decode cX5_shrink 0 = .ok (.aload_n 0, 1) := by decide +kernel
theorem dX5_shrink_1 : decode cX5_shrink 1 = .ok (.iload_n 1, 1) := by decide +kernel
theorem dX5_shrink_2 : decode cX5_shrink 2 = .ok (.invokevirtual 102, 3) := by decide +kernel
theorem dX5_shrink_5 : decode cX5_shrink 5 = .ok (.aload_n 0, 1) := by decide +kernel
theorem dX5_shrink_6 : decode cX5_shrink 6 = .ok (.aload_n 0, 1) := by decide +kernel
theorem dX5_shrink_7 : decode cX5_shrink 7 = .ok (.getfield 63, 3) := by decide +kernel
theorem dX5_shrink_10 : decode cX5_shrink 10 = .ok (.aload_n 0, 1) := by decide +kernel
theorem dX5_shrink_11 : decode cX5_shrink 11 = .ok (.getfield 23, 3) := by decide +kernel
theorem dX5_shrink_14 : decode cX5_shrink 14 = .ok (.iload_n 1, 1) := by decide +kernel
theorem dX5_shrink_15 : decode cX5_shrink 15 = .ok (.invokevirtual 164, 3) := by decide +kernel
theorem dX5_shrink_18 : decode cX5_shrink 18 = .ok (.invokevirtual 116, 3) := by decide +kernel
theorem dX5_shrink_21 : decode cX5_shrink 21 = .ok (.aload_n 0, 1) := by decide +kernel
theorem dX5_shrink_22 : decode cX5_shrink 22 = .ok (.getfield 63, 3) := by decide +kernel
theorem dX5_shrink_25 : decode cX5_shrink 25 = .ok (.aload_n 0, 1) := by decide +kernel
theorem dX5_shrink_26 : decode cX5_shrink 26 = .ok (.getfield 23, 3) := by decide +kernel
theorem dX5_shrink_29 : decode cX5_shrink 29 = .ok (.aload_n 0, 1) := by decide +kernel
theorem dX5_shrink_30 : decode cX5_shrink 30 = .ok (.getfield 27, 3) := by decide +kernel
theorem dX5_shrink_33 : decode cX5_shrink 33 = .ok (.invokevirtual 167, 3) := by decide +kernel
theorem dX5_shrink_36 : decode cX5_shrink 36 = .ok (.aload_n 0, 1) := by decide +kernel
theorem dX5_shrink_37 : decode cX5_shrink 37 = .ok (.invokevirtual 96, 3) := by decide +kernel
theorem dX5_shrink_40 : decode cX5_shrink 40 = .ok (.aload_n 0, 1) := by decide +kernel
theorem dX5_shrink_41 : decode cX5_shrink 41 = .ok (.getfield 23, 3) := by decide +kernel
theorem dX5_shrink_44 : decode cX5_shrink 44 = .ok (.getfield 171, 3) := by decide +kernel
theorem dX5_shrink_47 : decode cX5_shrink 47 = .ok (.ireturn, 1) := by decide +kernel
theorem dX5_undo_0 : decode cX5_undo 0 = .ok (.aload_n 0, 1) := by decide +kernel
theorem dX5_undo_1 : decode cX5_undo 1 = .ok (.getfield 34, 3) := by decide +kernel
theorem dX5_undo_4 : decode cX5_undo 4 = .ok (.ifCond .gt 5, 3) := by decide +kernel
theorem dX5_undo_7 : decode cX5_undo 7 = .ok (.iconst (-1), 1) := by decide +kernel
theorem dX5_undo_8 : decode cX5_undo 8 = .ok (.ireturn, 1) := by decide +kernel
theorem dX5_undo_9 : decode cX5_undo 9 = .ok (.aload_n 0, 1) := by decide +kernel
theorem dX5_undo_10 : decode cX5_undo 10 = .ok (.dup, 1) := by decide +kernel
theorem dX5_undo_11 : decode cX5_undo 11 = .ok (.getfield 34, 3) := by decide +kernel
theorem dX5_undo_14 : decode cX5_undo 14 = .ok (.iconst 1, 1) := by decide +kernel
theorem dX5_undo_15 : decode cX5_undo 15 = .ok (.isub, 1) := by decide +kernel
theorem dX5_undo_16 : decode cX5_undo 16 = .ok (.putfield 34, 3) := by decide +kernel
theorem dX5_undo_19 : decode cX5_undo 19 = .ok (.aload_n 0, 1) := by decide +kernel
theorem dX5_undo_20 : decode cX5_undo 20 = .ok (.getfield 23, 3) := by decide +kernel
theorem dX5_undo_23 : decode cX5_undo 23 = .ok (.aload_n 0, 1) := by decide +kernel
theorem dX5_undo_24 : decode cX5_undo 24 = .ok (.getfield 30, 3) := by decide +kernel
theorem dX5_undo_27 : decode cX5_undo 27 = .ok (.aload_n 0, 1) := by decide +kernel
theorem dX5_undo_28 : decode cX5_undo 28 = .ok (.getfield 34, 3) := by decide +kernel
theorem dX5_undo_31 : decode cX5_undo 31 = .ok (.aaload, 1) := by decide +kernel
theorem dX5_undo_32 : decode cX5_undo 32 = .ok (.invokevirtual 174, 3) := by decide +kernel
theorem dX5_undo_35 : decode cX5_undo 35 = .ok (.aload_n 0, 1) := by decide +kernel
theorem dX5_undo_36 : decode cX5_undo 36 = .ok (.invokevirtual 177, 3) := by decide +kernel
theorem dX5_undo_39 : decode cX5_undo 39 = .ok (.aload_n 0, 1) := by decide +kernel
theorem dX5_undo_40 : decode cX5_undo 40 = .ok (.getfield 34, 3) := by decide +kernel
theorem dX5_undo_43 : decode cX5_undo 43 = .ok (.ireturn, 1) := by decide +kernel
theorem dX5_told_0 : decode cX5_told 0 = .ok (.aload_n 0, 1) := by decide +kernel
theorem dX5_told_1 : decode cX5_told 1 = .ok (.iload_n 1, 1) := by decide +kernel
theorem dX5_told_2 : decode cX5_told 2 = .ok (.ifCond .lt 13, 3) := by decide +kernel
theorem dX5_told_5 : decode cX5_told 5 = .ok (.iload_n 1, 1) := by decide +kernel
theorem dX5_told_6 : decode cX5_told 6 = .ok (.bipush 7, 2) := by decide +kernel
theorem dX5_told_8 : decode cX5_told 8 = .ok (.if_icmp .gt 7, 3) := by decide +kernel
theorem dX5_told_11 : decode cX5_told 11 = .ok (.iconst 1, 1) := by decide +kernel
theorem dX5_told_12 : decode cX5_told 12 = .ok (.goto 4, 3) := by decide +kernel
theorem dX5_told_15 : decode cX5_told 15 = .ok (.iconst 0, 1) := by decide +kernel
theorem dX5_told_16 : decode cX5_told 16 = .ok (.invokevirtual 82, 3) := by decide +kernel
theorem dX5_told_19 : decode cX5_told 19 = .ok (.iload_n 1, 1) := by decide +kernel
theorem dX5_told_20 : decode cX5_told 20 = .ok (.tableswitch 105 0 6 #[44, 52, 60, 68, 80, 92, 100], 44) := by decide +kernel
theorem dX5_told_64 : decode cX5_told 64 = .ok (.aload_n 0, 1) := by decide +kernel
theorem dX5_told_65 : decode cX5_told 65 = .ok (.getfield 23, 3) := by decide +kernel
theorem dX5_told_68 : decode cX5_told 68 = .ok (.getfield 171, 3) := by decide +kernel
theorem dX5_told_71 : decode cX5_told 71 = .ok (.ireturn, 1) := by decide +kernel
theorem dX5_told_72 : decode cX5_told 72 = .ok (.aload_n 0, 1) := by decide +kernel
theorem dX5_told_73 : decode cX5_told 73 = .ok (.getfield 23, 3) := by decide +kernel
theorem dX5_told_76 : decode cX5_told 76 = .ok (.getfield 99, 3) := by decide +kernel
theorem dX5_told_79 : decode cX5_told 79 = .ok (.ireturn, 1) := by decide +kernel
theorem dX5_told_80 : decode cX5_told 80 = .ok (.aload_n 0, 1) := by decide +kernel
theorem dX5_told_81 : decode cX5_told 81 = .ok (.getfield 23, 3) := by decide +kernel
theorem dX5_told_84 : decode cX5_told 84 = .ok (.invokevirtual 132, 3) := by decide +kernel
theorem dX5_told_87 : decode cX5_told 87 = .ok (.ireturn, 1) := by decide +kernel
theorem dX5_told_88 : decode cX5_told 88 = .ok (.aload_n 0, 1) := by decide +kernel
theorem dX5_told_89 : decode cX5_told 89 = .ok (.invokevirtual 149, 3) := by decide +kernel
theorem dX5_told_92 : decode cX5_told 92 = .ok (.aload_n 0, 1) := by decide +kernel
theorem dX5_told_93 : decode cX5_told 93 = .ok (.getfield 49, 3) := by decide +kernel
theorem dX5_told_96 : decode cX5_told 96 = .ok (.invokevirtual 180, 3) := by decide +kernel
theorem dX5_told_99 : decode cX5_told 99 = .ok (.ireturn, 1) := by decide +kernel
theorem dX5_told_100 : decode cX5_told 100 = .ok (.aload_n 0, 1) := by decide +kernel
theorem dX5_told_101 : decode cX5_told 101 = .ok (.invokevirtual 149, 3) := by decide +kernel
theorem dX5_told_104 : decode cX5_told 104 = .ok (.aload_n 0, 1) := by decide +kernel
theorem dX5_told_105 : decode cX5_told 105 = .ok (.getfield 49, 3) := by decide +kernel
theorem dX5_told_108 : decode cX5_told 108 = .ok (.invokevirtual 183, 3) := by decide +kernel
theorem dX5_told_111 : decode cX5_told 111 = .ok (.ireturn, 1) := by decide +kernel
theorem dX5_told_112 : decode cX5_told 112 = .ok (.aload_n 0, 1) := by decide +kernel
theorem dX5_told_113 : decode cX5_told 113 = .ok (.getfield 23, 3) := by decide +kernel
theorem dX5_told_116 : decode cX5_told 116 = .ok (.invokevirtual 186, 3) := by decide +kernel
theorem dX5_told_119 : decode cX5_told 119 = .ok (.ireturn, 1) := by decide +kernel
theorem dX5_told_120 : decode cX5_told 120 = .ok (.aload_n 0, 1) := by decide +kernel
theorem dX5_told_121 : decode cX5_told 121 = .ok (.getfield 13, 3) := by decide +kernel
theorem dX5_told_124 : decode cX5_told 124 = .ok (.ireturn, 1) := by decide +kernel
theorem dX5_told_125 : decode cX5_told 125 = .ok (.aload_n 0, 1) := by decide +kernel
theorem dX5_told_126 : decode cX5_told 126 = .ok (.getfield 34, 3) := by decide +kernel
theorem dX5_told_129 : decode cX5_told 129 = .ok (.ireturn, 1) := by decide +kernel
theorem dX5_line_0 : decode cX5_line 0 = .ok (.aload_n 0, 1) := by decide +kernel
theorem dX5_line_1 : decode cX5_line 1 = .ok (.iload_n 1, 1) := by decide +kernel
theorem dX5_line_2 : decode cX5_line 2 = .ok (.invokevirtual 102, 3) := by decide +kernel
theorem dX5_line_5 : decode cX5_line 5 = .ok (.aload_n 0, 1) := by decide +kernel
theorem dX5_line_6 : decode cX5_line 6 = .ok (.iload_n 2, 1) := by decide +kernel
theorem dX5_line_7 : decode cX5_line 7 = .ok (.invokevirtual 102, 3) := by decide +kernel
theorem dX5_line_10 : decode cX5_line 10 = .ok (.aload_n 0, 1) := by decide +kernel
theorem dX5_line_11 : decode cX5_line 11 = .ok (.iload_n 1, 1) := by decide +kernel
theorem dX5_line_12 : decode cX5_line 12 = .ok (.iload_n 2, 1) := by decide +kernel
theorem dX5_line_13 : decode cX5_line 13 = .ok (.if_icmp .eq 16, 3) := by decide +kernel
theorem dX5_line_16 : decode cX5_line 16 = .ok (.iload_n 3, 1) := by decide +kernel
theorem dX5_line_17 : decode cX5_line 17 = .ok (.ifCond .lt 12, 3) := by decide +kernel
theorem dX5_line_20 : decode cX5_line 20 = .ok (.iload_n 3, 1) := by decide +kernel
theorem dX5_line_21 : decode cX5_line 21 = .ok (.iconst 4, 1) := by decide +kernel
theorem dX5_line_22 : decode cX5_line 22 = .ok (.if_icmp .gt 7, 3) := by decide +kernel
theorem dX5_line_25 : decode cX5_line 25 = .ok (.iconst 1, 1) := by decide +kernel
theorem dX5_line_26 : decode cX5_line 26 = .ok (.goto 4, 3) := by decide +kernel
theorem dX5_line_29 : decode cX5_line 29 = .ok (.iconst 0, 1) := by decide +kernel
theorem dX5_line_30 : decode cX5_line 30 = .ok (.invokevirtual 82, 3) := by decide +kernel
theorem dX5_line_33 : decode cX5_line 33 = .ok (.iload_n 3, 1) := by decide +kernel
theorem dX5_line_34 : decode cX5_line 34 = .ok (.tableswitch 92 0 3 #[30, 43, 53, 75], 30) := by decide +kernel
theorem dX5_line_64 : decode cX5_line 64 = .ok (.aload_n 0, 1) := by decide +kernel
theorem dX5_line_65 : decode cX5_line 65 = .ok (.getfield 23, 3) := by decide +kernel
theorem dX5_line_68 : decode cX5_line 68 = .ok (.iload_n 1, 1) := by decide +kernel
theorem dX5_line_69 : decode cX5_line 69 = .ok (.iload_n 2, 1) := by decide +kernel
theorem dX5_line_70 : decode cX5_line 70 = .ok (.invokevirtual 112, 3) := by decide +kernel
theorem dX5_line_73 : decode cX5_line 73 = .ok (.invokestatic 189, 3) := by decide +kernel
theorem dX5_line_76 : decode cX5_line 76 = .ok (.ireturn, 1) := by decide +kernel
theorem dX5_line_77 : decode cX5_line 77 = .ok (.aload_n 0, 1) := by decide +kernel
theorem dX5_line_78 : decode cX5_line 78 = .ok (.getfield 23, 3) := by decide +kernel
theorem dX5_line_81 : decode cX5_line 81 = .ok (.iload_n 1, 1) := by decide +kernel
theorem dX5_line_82 : decode cX5_line 82 = .ok (.iload_n 2, 1) := by decide +kernel
theorem dX5_line_83 : decode cX5_line 83 = .ok (.invokevirtual 193, 3) := by decide +kernel
theorem dX5_line_86 : decode cX5_line 86 = .ok (.ireturn, 1) := by decide +kernel
theorem dX5_line_87 : decode cX5_line 87 = .ok (.aload_n 0, 1) := by decide +kernel
theorem dX5_line_88 : decode cX5_line 88 = .ok (.getfield 23, 3) := by decide +kernel
theorem dX5_line_91 : decode cX5_line 91 = .ok (.getfield 136, 3) := by decide +kernel
theorem dX5_line_94 : decode cX5_line 94 = .ok (.iload_n 1, 1) := by decide +kernel
theorem dX5_line_95 : decode cX5_line 95 = .ok (.iaload, 1) := by decide +kernel
theorem dX5_line_96 : decode cX5_line 96 = .ok (.iload_n 2, 1) := by decide +kernel
theorem dX5_line_97 : decode cX5_line 97 = .ok (.if_icmp .ne 7, 3) := by decide +kernel
theorem dX5_line_100 : decode cX5_line 100 = .ok (.iconst 1, 1) := by decide +kernel
theorem dX5_line_101 : decode cX5_line 101 = .ok (.goto 4, 3) := by decide +kernel
theorem dX5_line_104 : decode cX5_line 104 = .ok (.iconst 0, 1) := by decide +kernel
theorem dX5_line_105 : decode cX5_line 105 = .ok (.invokestatic 189, 3) := by decide +kernel
theorem dX5_line_108 : decode cX5_line 108 = .ok (.ireturn, 1) := by decide +kernel
theorem dX5_line_109 : decode cX5_line 109 = .ok (.aload_n 0, 1) := by decide +kernel
theorem dX5_line_110 : decode cX5_line 110 = .ok (.invokevirtual 149, 3) := by decide +kernel
theorem dX5_line_113 : decode cX5_line 113 = .ok (.aload_n 0, 1) := by decide +kernel
theorem dX5_line_114 : decode cX5_line 114 = .ok (.getfield 49, 3) := by decide +kernel
theorem dX5_line_117 : decode cX5_line 117 = .ok (.iload_n 1, 1) := by decide +kernel
theorem dX5_line_118 : decode cX5_line 118 = .ok (.iload_n 2, 1) := by decide +kernel
theorem dX5_line_119 : decode cX5_line 119 = .ok (.invokevirtual 197, 3) := by decide +kernel
theorem dX5_line_122 : decode cX5_line 122 = .ok (.invokestatic 189, 3) := by decide +kernel
theorem dX5_line_125 : decode cX5_line 125 = .ok (.ireturn, 1) := by decide +kernel
theorem dX5_line_126 : decode cX5_line 126 = .ok (.aload_n 0, 1) := by decide +kernel
theorem dX5_line_127 : decode cX5_line 127 = .ok (.invokevirtual 149, 3) := by decide +kernel
theorem dX5_line_130 : decode cX5_line 130 = .ok (.aload_n 0, 1) := by decide +kernel
theorem dX5_line_131 : decode cX5_line 131 = .ok (.getfield 49, 3) := by decide +kernel
theorem dX5_line_134 : decode cX5_line 134 = .ok (.iload_n 1, 1) := by decide +kernel
theorem dX5_line_135 : decode cX5_line 135 = .ok (.iload_n 2, 1) := by decide +kernel
theorem dX5_line_136 : decode cX5_line 136 = .ok (.invokevirtual 200, 3) := by decide +kernel
theorem dX5_line_139 : decode cX5_line 139 = .ok (.invokestatic 189, 3) := by decide +kernel
theorem dX5_line_142 : decode cX5_line 142 = .ok (.ireturn, 1) := by decide +kernel
theorem dX5_node_0 : decode cX5_node 0 = .ok (.aload_n 0, 1) := by decide +kernel
theorem dX5_node_1 : decode cX5_node 1 = .ok (.iload_n 1, 1) := by decide +kernel
theorem dX5_node_2 : decode cX5_node 2 = .ok (.invokevirtual 102, 3) := by decide +kernel
theorem dX5_node_5 : decode cX5_node 5 = .ok (.aload_n 0, 1) := by decide +kernel
theorem dX5_node_6 : decode cX5_node 6 = .ok (.iload_n 2, 1) := by decide +kernel
theorem dX5_node_7 : decode cX5_node 7 = .ok (.ifCond .lt 12, 3) := by decide +kernel
theorem dX5_node_10 : decode cX5_node 10 = .ok (.iload_n 2, 1) := by decide +kernel
theorem dX5_node_11 : decode cX5_node 11 = .ok (.iconst 4, 1) := by decide +kernel
theorem dX5_node_12 : decode cX5_node 12 = .ok (.if_icmp .gt 7, 3) := by decide +kernel
theorem dX5_node_15 : decode cX5_node 15 = .ok (.iconst 1, 1) := by decide +kernel
theorem dX5_node_16 : decode cX5_node 16 = .ok (.goto 4, 3) := by decide +kernel
theorem dX5_node_19 : decode cX5_node 19 = .ok (.iconst 0, 1) := by decide +kernel
theorem dX5_node_20 : decode cX5_node 20 = .ok (.invokevirtual 82, 3) := by decide +kernel
theorem dX5_node_23 : decode cX5_node 23 = .ok (.iload_n 2, 1) := by decide +kernel
theorem dX5_node_24 : decode cX5_node 24 = .ok (.tableswitch 67 0 3 #[32, 45, 55, 61], 32) := by decide +kernel
theorem dX5_node_56 : decode cX5_node 56 = .ok (.aload_n 0, 1) := by decide +kernel
theorem dX5_node_57 : decode cX5_node 57 = .ok (.getfield 23, 3) := by decide +kernel
theorem dX5_node_60 : decode cX5_node 60 = .ok (.getfield 203, 3) := by decide +kernel
theorem dX5_node_63 : decode cX5_node 63 = .ok (.iload_n 1, 1) := by decide +kernel
theorem dX5_node_64 : decode cX5_node 64 = .ok (.iaload, 1) := by decide +kernel
theorem dX5_node_65 : decode cX5_node 65 = .ok (.invokestatic 206, 3) := by decide +kernel
theorem dX5_node_68 : decode cX5_node 68 = .ok (.ireturn, 1) := by decide +kernel
theorem dX5_node_69 : decode cX5_node 69 = .ok (.aload_n 0, 1) := by decide +kernel
theorem dX5_node_70 : decode cX5_node 70 = .ok (.getfield 23, 3) := by decide +kernel
theorem dX5_node_73 : decode cX5_node 73 = .ok (.getfield 136, 3) := by decide +kernel
theorem dX5_node_76 : decode cX5_node 76 = .ok (.iload_n 1, 1) := by decide +kernel
theorem dX5_node_77 : decode cX5_node 77 = .ok (.iaload, 1) := by decide +kernel
theorem dX5_node_78 : decode cX5_node 78 = .ok (.ireturn, 1) := by decide +kernel
theorem dX5_node_79 : decode cX5_node 79 = .ok (.aload_n 0, 1) := by decide +kernel
theorem dX5_node_80 : decode cX5_node 80 = .ok (.iload_n 1, 1) := by decide +kernel
theorem dX5_node_81 : decode cX5_node 81 = .ok (.invokevirtual 212, 3) := by decide +kernel
theorem dX5_node_84 : decode cX5_node 84 = .ok (.ireturn, 1) := by decide +kernel
theorem dX5_node_85 : decode cX5_node 85 = .ok (.aload_n 0, 1) := by decide +kernel
theorem dX5_node_86 : decode cX5_node 86 = .ok (.iload_n 1, 1) := by decide +kernel
theorem dX5_node_87 : decode cX5_node 87 = .ok (.invokevirtual 215, 3) := by decide +kernel
theorem dX5_node_90 : decode cX5_node 90 = .ok (.ireturn, 1) := by decide +kernel
theorem dX5_node_91 : decode cX5_node 91 = .ok (.aload_n 0, 1) := by decide +kernel
theorem dX5_node_92 : decode cX5_node 92 = .ok (.invokevirtual 149, 3) := by decide +kernel
theorem dX5_node_95 : decode cX5_node 95 = .ok (.aload_n 0, 1) := by decide +kernel
theorem dX5_node_96 : decode cX5_node 96 = .ok (.getfield 49, 3) := by decide +kernel
theorem dX5_node_99 : decode cX5_node 99 = .ok (.invokevirtual 152, 3) := by decide +kernel
theorem dX5_node_102 : decode cX5_node 102 = .ok (.aload_n 0, 1) := by decide +kernel
theorem dX5_node_103 : decode cX5_node 103 = .ok (.getfield 49, 3) := by decide +kernel
theorem dX5_node_106 : decode cX5_node 106 = .ok (.getfield 155, 3) := by decide +kernel
theorem dX5_node_109 : decode cX5_node 109 = .ok (.iload_n 1, 1) := by decide +kernel
theorem dX5_node_110 : decode cX5_node 110 = .ok (.iaload, 1) := by decide +kernel
theorem dX5_node_111 : decode cX5_node 111 = .ok (.ireturn, 1) := by decide +kernel
theorem dX5_sets_0 : decode cX5_sets 0 = .ok (.aload_n 0, 1) := by decide +kernel
theorem dX5_sets_1 : decode cX5_sets 1 = .ok (.iload_n 1, 1) := by decide +kernel
theorem dX5_sets_2 : decode cX5_sets 2 = .ok (.ifCond .lt 12, 3) := by decide +kernel
theorem dX5_sets_5 : decode cX5_sets 5 = .ok (.iload_n 1, 1) := by decide +kernel
theorem dX5_sets_6 : decode cX5_sets 6 = .ok (.iconst 5, 1) := by decide +kernel
theorem dX5_sets_7 : decode cX5_sets 7 = .ok (.if_icmp .gt 7, 3) := by decide +kernel
theorem dX5_sets_10 : decode cX5_sets 10 = .ok (.iconst 1, 1) := by decide +kernel
theorem dX5_sets_11 : decode cX5_sets 11 = .ok (.goto 4, 3) := by decide +kernel
theorem dX5_sets_14 : decode cX5_sets 14 = .ok (.iconst 0, 1) := by decide +kernel
theorem dX5_sets_15 : decode cX5_sets 15 = .ok (.invokevirtual 82, 3) := by decide +kernel
theorem dX5_sets_18 : decode cX5_sets 18 = .ok (.iload_n 1, 1) := by decide +kernel
theorem dX5_sets_19 : decode cX5_sets 19 = .ok (.iconst 2, 1) := by decide +kernel
theorem dX5_sets_20 : decode cX5_sets 20 = .ok (.if_icmp .gt 16, 3) := by decide +kernel
theorem dX5_sets_23 : decode cX5_sets 23 = .ok (.aload_n 0, 1) := by decide +kernel
theorem dX5_sets_24 : decode cX5_sets 24 = .ok (.invokevirtual 149, 3) := by decide +kernel
theorem dX5_sets_27 : decode cX5_sets 27 = .ok (.aload_n 0, 1) := by decide +kernel
theorem dX5_sets_28 : decode cX5_sets 28 = .ok (.getfield 49, 3) := by decide +kernel
theorem dX5_sets_31 : decode cX5_sets 31 = .ok (.iload_n 1, 1) := by decide +kernel
theorem dX5_sets_32 : decode cX5_sets 32 = .ok (.invokevirtual 218, 3) := by decide +kernel
theorem dX5_sets_35 : decode cX5_sets 35 = .ok (.ireturn, 1) := by decide +kernel
theorem dX5_sets_36 : decode cX5_sets 36 = .ok (.aload_n 0, 1) := by decide +kernel
theorem dX5_sets_37 : decode cX5_sets 37 = .ok (.getfield 63, 3) := by decide +kernel
theorem dX5_sets_40 : decode cX5_sets 40 = .ok (.aload_n 0, 1) := by decide +kernel
theorem dX5_sets_41 : decode cX5_sets 41 = .ok (.getfield 23, 3) := by decide +kernel
theorem dX5_sets_44 : decode cX5_sets 44 = .ok (.invokevirtual 221, 3) := by decide +kernel
theorem dX5_sets_47 : decode cX5_sets 47 = .ok (.aload_n 0, 1) := by decide +kernel
theorem dX5_sets_48 : decode cX5_sets 48 = .ok (.getfield 63, 3) := by decide +kernel
theorem dX5_sets_51 : decode cX5_sets 51 = .ok (.aload_n 0, 1) := by decide +kernel
theorem dX5_sets_52 : decode cX5_sets 52 = .ok (.getfield 23, 3) := by decide +kernel
theorem dX5_sets_55 : decode cX5_sets 55 = .ok (.iload_n 1, 1) := by decide +kernel
theorem dX5_sets_56 : decode cX5_sets 56 = .ok (.iconst 3, 1) := by decide +kernel
theorem dX5_sets_57 : decode cX5_sets 57 = .ok (.isub, 1) := by decide +kernel
theorem dX5_sets_58 : decode cX5_sets 58 = .ok (.invokevirtual 224, 3) := by decide +kernel
theorem dX5_sets_61 : decode cX5_sets 61 = .ok (.ireturn, 1) := by decide +kernel
theorem dX5_odd_0 : decode cX5_odd 0 = .ok (.aload_n 0, 1) := by decide +kernel
theorem dX5_odd_1 : decode cX5_odd 1 = .ok (.iload_n 1, 1) := by decide +kernel
theorem dX5_odd_2 : decode cX5_odd 2 = .ok (.ifCond .lt 18, 3) := by decide +kernel
theorem dX5_odd_5 : decode cX5_odd 5 = .ok (.iload_n 1, 1) := by decide +kernel
theorem dX5_odd_6 : decode cX5_odd 6 = .ok (.aload_n 0, 1) := by decide +kernel
theorem dX5_odd_7 : decode cX5_odd 7 = .ok (.getfield 23, 3) := by decide +kernel
theorem dX5_odd_10 : decode cX5_odd 10 = .ok (.invokevirtual 228, 3) := by decide +kernel
theorem dX5_odd_13 : decode cX5_odd 13 = .ok (.if_icmp .gt 7, 3) := by decide +kernel
theorem dX5_odd_16 : decode cX5_odd 16 = .ok (.iconst 1, 1) := by decide +kernel
theorem dX5_odd_17 : decode cX5_odd 17 = .ok (.goto 4, 3) := by decide +kernel
theorem dX5_odd_20 : decode cX5_odd 20 = .ok (.iconst 0, 1) := by decide +kernel
theorem dX5_odd_21 : decode cX5_odd 21 = .ok (.invokevirtual 82, 3) := by decide +kernel
theorem dX5_odd_24 : decode cX5_odd 24 = .ok (.aload_n 0, 1) := by decide +kernel
theorem dX5_odd_25 : decode cX5_odd 25 = .ok (.getfield 56, 3) := by decide +kernel
theorem dX5_odd_28 : decode cX5_odd 28 = .ok (.aload_n 0, 1) := by decide +kernel
theorem dX5_odd_29 : decode cX5_odd 29 = .ok (.getfield 23, 3) := by decide +kernel
theorem dX5_odd_32 : decode cX5_odd 32 = .ok (.invokevirtual 231, 3) := by decide +kernel
theorem dX5_odd_35 : decode cX5_odd 35 = .ok (.aload_n 0, 1) := by decide +kernel
theorem dX5_odd_36 : decode cX5_odd 36 = .ok (.getfield 56, 3) := by decide +kernel
theorem dX5_odd_39 : decode cX5_odd 39 = .ok (.iload_n 1, 1) := by decide +kernel
theorem dX5_odd_40 : decode cX5_odd 40 = .ok (.invokevirtual 233, 3) := by decide +kernel
theorem dX5_odd_43 : decode cX5_odd 43 = .ok (.ireturn, 1) := by decide +kernel
theorem dX5_barrier_0 : decode cX5_barrier 0 = .ok (.aload_n 0, 1) := by decide +kernel
theorem dX5_barrier_1 : decode cX5_barrier 1 = .ok (.iload_n 1, 1) := by decide +kernel
theorem dX5_barrier_2 : decode cX5_barrier 2 = .ok (.ifCond .eq 8, 3) := by decide +kernel
theorem dX5_barrier_5 : decode cX5_barrier 5 = .ok (.iload_n 1, 1) := by decide +kernel
theorem dX5_barrier_6 : decode cX5_barrier 6 = .ok (.iconst 1, 1) := by decide +kernel
theorem dX5_barrier_7 : decode cX5_barrier 7 = .ok (.if_icmp .ne 7, 3) := by decide +kernel
theorem dX5_barrier_10 : decode cX5_barrier 10 = .ok (.iconst 1, 1) := by decide +kernel
theorem dX5_barrier_11 : decode cX5_barrier 11 = .ok (.goto 4, 3) := by decide +kernel
theorem dX5_barrier_14 : decode cX5_barrier 14 = .ok (.iconst 0, 1) := by decide +kernel
theorem dX5_barrier_15 : decode cX5_barrier 15 = .ok (.invokevirtual 82, 3) := by decide +kernel
theorem dX5_barrier_18 : decode cX5_barrier 18 = .ok (.aload_n 0, 1) := by decide +kernel
theorem dX5_barrier_19 : decode cX5_barrier 19 = .ok (.invokevirtual 149, 3) := by decide +kernel
theorem dX5_barrier_22 : decode cX5_barrier 22 = .ok (.aload_n 0, 1) := by decide +kernel
theorem dX5_barrier_23 : decode cX5_barrier 23 = .ok (.getfield 56, 3) := by decide +kernel
theorem dX5_barrier_26 : decode cX5_barrier 26 = .ok (.aload_n 0, 1) := by decide +kernel
theorem dX5_barrier_27 : decode cX5_barrier 27 = .ok (.getfield 23, 3) := by decide +kernel
theorem dX5_barrier_30 : decode cX5_barrier 30 = .ok (.invokevirtual 231, 3) := by decide +kernel
theorem dX5_barrier_33 : decode cX5_barrier 33 = .ok (.iload_n 1, 1) := by decide +kernel
theorem dX5_barrier_34 : decode cX5_barrier 34 = .ok (.ifCond .ne 20, 3) := by decide +kernel
theorem dX5_barrier_37 : decode cX5_barrier 37 = .ok (.aload_n 0, 1) := by decide +kernel
theorem dX5_barrier_38 : decode cX5_barrier 38 = .ok (.getfield 56, 3) := by decide +kernel
theorem dX5_barrier_41 : decode cX5_barrier 41 = .ok (.aload_n 0, 1) := by decide +kernel
theorem dX5_barrier_42 : decode cX5_barrier 42 = .ok (.getfield 49, 3) := by decide +kernel
theorem dX5_barrier_45 : decode cX5_barrier 45 = .ok (.invokevirtual 183, 3) := by decide +kernel
theorem dX5_barrier_48 : decode cX5_barrier 48 = .ok (.invokevirtual 236, 3) := by decide +kernel
theorem dX5_barrier_51 : decode cX5_barrier 51 = .ok (.goto 17, 3) := by decide +kernel
theorem dX5_barrier_54 : decode cX5_barrier 54 = .ok (.aload_n 0, 1) := by decide +kernel
theorem dX5_barrier_55 : decode cX5_barrier 55 = .ok (.getfield 56, 3) := by decide +kernel
theorem dX5_barrier_58 : decode cX5_barrier 58 = .ok (.aload_n 0, 1) := by decide +kernel
theorem dX5_barrier_59 : decode cX5_barrier 59 = .ok (.getfield 49, 3) := by decide +kernel
theorem dX5_barrier_62 : decode cX5_barrier 62 = .ok (.invokevirtual 183, 3) := by decide +kernel
theorem dX5_barrier_65 : decode cX5_barrier 65 = .ok (.invokevirtual 239, 3) := by decide +kernel
theorem dX5_barrier_68 : decode cX5_barrier 68 = .ok (.ireturn, 1) := by decide +kernel
theorem dX5_ways_0 : decode cX5_ways 0 = .ok (.aload_n 0, 1) := by decide +kernel
theorem dX5_ways_1 : decode cX5_ways 1 = .ok (.invokevirtual 149, 3) := by decide +kernel
theorem dX5_ways_4 : decode cX5_ways 4 = .ok (.aload_n 0, 1) := by decide +kernel
theorem dX5_ways_5 : decode cX5_ways 5 = .ok (.getfield 49, 3) := by decide +kernel
theorem dX5_ways_8 : decode cX5_ways 8 = .ok (.invokevirtual 242, 3) := by decide +kernel
theorem dX5_ways_11 : decode cX5_ways 11 = .ok (.ireturn, 1) := by decide +kernel
theorem dX5_heavy_0 : decode cX5_heavy 0 = .ok (.aload_n 0, 1) := by decide +kernel
theorem dX5_heavy_1 : decode cX5_heavy 1 = .ok (.iload_n 1, 1) := by decide +kernel
theorem dX5_heavy_2 : decode cX5_heavy 2 = .ok (.ifCond .eq 8, 3) := by decide +kernel
theorem dX5_heavy_5 : decode cX5_heavy 5 = .ok (.iload_n 1, 1) := by decide +kernel
theorem dX5_heavy_6 : decode cX5_heavy 6 = .ok (.iconst 1, 1) := by decide +kernel
theorem dX5_heavy_7 : decode cX5_heavy 7 = .ok (.if_icmp .ne 7, 3) := by decide +kernel
theorem dX5_heavy_10 : decode cX5_heavy 10 = .ok (.iconst 1, 1) := by decide +kernel
theorem dX5_heavy_11 : decode cX5_heavy 11 = .ok (.goto 4, 3) := by decide +kernel
theorem dX5_heavy_14 : decode cX5_heavy 14 = .ok (.iconst 0, 1) := by decide +kernel
theorem dX5_heavy_15 : decode cX5_heavy 15 = .ok (.invokevirtual 82, 3) := by decide +kernel
theorem dX5_heavy_18 : decode cX5_heavy 18 = .ok (.aload_n 0, 1) := by decide +kernel
theorem dX5_heavy_19 : decode cX5_heavy 19 = .ok (.invokevirtual 149, 3) := by decide +kernel
theorem dX5_heavy_22 : decode cX5_heavy 22 = .ok (.iload_n 1, 1) := by decide +kernel
theorem dX5_heavy_23 : decode cX5_heavy 23 = .ok (.ifCond .ne 13, 3) := by decide +kernel
theorem dX5_heavy_26 : decode cX5_heavy 26 = .ok (.aload_n 0, 1) := by decide +kernel
theorem dX5_heavy_27 : decode cX5_heavy 27 = .ok (.getfield 49, 3) := by decide +kernel
theorem dX5_heavy_30 : decode cX5_heavy 30 = .ok (.invokevirtual 245, 3) := by decide +kernel
theorem dX5_heavy_33 : decode cX5_heavy 33 = .ok (.goto 10, 3) := by decide +kernel
theorem dX5_heavy_36 : decode cX5_heavy 36 = .ok (.aload_n 0, 1) := by decide +kernel
theorem dX5_heavy_37 : decode cX5_heavy 37 = .ok (.getfield 49, 3) := by decide +kernel
theorem dX5_heavy_40 : decode cX5_heavy 40 = .ok (.invokevirtual 248, 3) := by decide +kernel
theorem dX5_heavy_43 : decode cX5_heavy 43 = .ok (.ireturn, 1) := by decide +kernel
theorem dX5_path_0 : decode cX5_path 0 = .ok (.aload_n 0, 1) := by decide +kernel
theorem dX5_path_1 : decode cX5_path 1 = .ok (.iload_n 1, 1) := by decide +kernel
theorem dX5_path_2 : decode cX5_path 2 = .ok (.invokevirtual 102, 3) := by decide +kernel
theorem dX5_path_5 : decode cX5_path 5 = .ok (.aload_n 0, 1) := by decide +kernel
theorem dX5_path_6 : decode cX5_path 6 = .ok (.getfield 63, 3) := by decide +kernel
theorem dX5_path_9 : decode cX5_path 9 = .ok (.aload_n 0, 1) := by decide +kernel
theorem dX5_path_10 : decode cX5_path 10 = .ok (.getfield 23, 3) := by decide +kernel
theorem dX5_path_13 : decode cX5_path 13 = .ok (.iload_n 1, 1) := by decide +kernel
theorem dX5_path_14 : decode cX5_path 14 = .ok (.invokevirtual 142, 3) := by decide +kernel
theorem dX5_path_17 : decode cX5_path 17 = .ok (.ifCond .ne 5, 3) := by decide +kernel
theorem dX5_path_20 : decode cX5_path 20 = .ok (.iconst (-1), 1) := by decide +kernel
theorem dX5_path_21 : decode cX5_path 21 = .ok (.ireturn, 1) := by decide +kernel
theorem dX5_path_22 : decode cX5_path 22 = .ok (.iload_n 2, 1) := by decide +kernel
theorem dX5_path_23 : decode cX5_path 23 = .ok (.iconst (-1), 1) := by decide +kernel
theorem dX5_path_24 : decode cX5_path 24 = .ok (.if_icmp .ne 15, 3) := by decide +kernel
theorem dX5_path_27 : decode cX5_path 27 = .ok (.aload_n 0, 1) := by decide +kernel
theorem dX5_path_28 : decode cX5_path 28 = .ok (.getfield 63, 3) := by decide +kernel
theorem dX5_path_31 : decode cX5_path 31 = .ok (.getfield 251, 3) := by decide +kernel
theorem dX5_path_34 : decode cX5_path 34 = .ok (.iconst 1, 1) := by decide +kernel
theorem dX5_path_35 : decode cX5_path 35 = .ok (.isub, 1) := by decide +kernel
theorem dX5_path_36 : decode cX5_path 36 = .ok (.goto 8, 3) := by decide +kernel
theorem dX5_path_39 : decode cX5_path 39 = .ok (.aload_n 0, 1) := by decide +kernel
theorem dX5_path_40 : decode cX5_path 40 = .ok (.iload_n 2, 1) := by decide +kernel
theorem dX5_path_41 : decode cX5_path 41 = .ok (.invokevirtual 254, 3) := by decide +kernel
theorem dX5_path_44 : decode cX5_path 44 = .ok (.ireturn, 1) := by decide +kernel
theorem dX5_flower_0 : decode cX5_flower 0 = .ok (.aload_n 0, 1) := by decide +kernel
theorem dX5_flower_1 : decode cX5_flower 1 = .ok (.iload_n 1, 1) := by decide +kernel
theorem dX5_flower_2 : decode cX5_flower 2 = .ok (.invokevirtual 102, 3) := by decide +kernel
theorem dX5_flower_5 : decode cX5_flower 5 = .ok (.aload_n 0, 1) := by decide +kernel
theorem dX5_flower_6 : decode cX5_flower 6 = .ok (.getfield 63, 3) := by decide +kernel
theorem dX5_flower_9 : decode cX5_flower 9 = .ok (.aload_n 0, 1) := by decide +kernel
theorem dX5_flower_10 : decode cX5_flower 10 = .ok (.getfield 23, 3) := by decide +kernel
theorem dX5_flower_13 : decode cX5_flower 13 = .ok (.iload_n 1, 1) := by decide +kernel
theorem dX5_flower_14 : decode cX5_flower 14 = .ok (.invokevirtual 164, 3) := by decide +kernel
theorem dX5_flower_17 : decode cX5_flower 17 = .ok (.ifCond .ne 5, 3) := by decide +kernel
theorem dX5_flower_20 : decode cX5_flower 20 = .ok (.iconst (-1), 1) := by decide +kernel
theorem dX5_flower_21 : decode cX5_flower 21 = .ok (.ireturn, 1) := by decide +kernel
theorem dX5_flower_22 : decode cX5_flower 22 = .ok (.iload_n 2, 1) := by decide +kernel
theorem dX5_flower_23 : decode cX5_flower 23 = .ok (.iconst (-1), 1) := by decide +kernel
theorem dX5_flower_24 : decode cX5_flower 24 = .ok (.if_icmp .ne 13, 3) := by decide +kernel
theorem dX5_flower_27 : decode cX5_flower 27 = .ok (.aload_n 0, 1) := by decide +kernel
theorem dX5_flower_28 : decode cX5_flower 28 = .ok (.getfield 63, 3) := by decide +kernel
theorem dX5_flower_31 : decode cX5_flower 31 = .ok (.getfield 251, 3) := by decide +kernel
theorem dX5_flower_34 : decode cX5_flower 34 = .ok (.goto 8, 3) := by decide +kernel
theorem dX5_flower_37 : decode cX5_flower 37 = .ok (.aload_n 0, 1) := by decide +kernel
theorem dX5_flower_38 : decode cX5_flower 38 = .ok (.iload_n 2, 1) := by decide +kernel
theorem dX5_flower_39 : decode cX5_flower 39 = .ok (.invokevirtual 254, 3) := by decide +kernel
theorem dX5_flower_42 : decode cX5_flower 42 = .ok (.ireturn, 1) := by decide +kernel
theorem dX5_print_0 : decode cX5_print 0 = .ok (.lconst 0, 1) := by decide +kernel
theorem dX5_print_1 : decode cX5_print 1 = .ok (.lstore_n 1, 1) := by decide +kernel
theorem dX5_print_2 : decode cX5_print 2 = .ok (.iconst 0, 1) := by decide +kernel
theorem dX5_print_3 : decode cX5_print 3 = .ok (.istore_n 3, 1) := by decide +kernel
theorem dX5_print_4 : decode cX5_print 4 = .ok (.iload_n 3, 1) := by decide +kernel
theorem dX5_print_5 : decode cX5_print 5 = .ok (.aload_n 0, 1) := by decide +kernel
theorem dX5_print_6 : decode cX5_print 6 = .ok (.getfield 23, 3) := by decide +kernel
theorem dX5_print_9 : decode cX5_print 9 = .ok (.getfield 171, 3) := by decide +kernel
theorem dX5_print_12 : decode cX5_print 12 = .ok (.if_icmp .ge 26, 3) := by decide +kernel
theorem dX5_print_15 : decode cX5_print 15 = .ok (.lload_n 1, 1) := by decide +kernel
theorem dX5_print_16 : decode cX5_print 16 = .ok (.ldc2_w 257, 3) := by decide +kernel
theorem dX5_print_19 : decode cX5_print 19 = .ok (.lmul, 1) := by decide +kernel
theorem dX5_print_20 : decode cX5_print 20 = .ok (.aload_n 0, 1) := by decide +kernel
theorem dX5_print_21 : decode cX5_print 21 = .ok (.getfield 23, 3) := by decide +kernel
theorem dX5_print_24 : decode cX5_print 24 = .ok (.getfield 136, 3) := by decide +kernel
theorem dX5_print_27 : decode cX5_print 27 = .ok (.iload_n 3, 1) := by decide +kernel
theorem dX5_print_28 : decode cX5_print 28 = .ok (.iaload, 1) := by decide +kernel
theorem dX5_print_29 : decode cX5_print 29 = .ok (.i2l, 1) := by decide +kernel
theorem dX5_print_30 : decode cX5_print 30 = .ok (.ladd, 1) := by decide +kernel
theorem dX5_print_31 : decode cX5_print 31 = .ok (.lstore_n 1, 1) := by decide +kernel
theorem dX5_print_32 : decode cX5_print 32 = .ok (.iinc 3 1, 3) := by decide +kernel
theorem dX5_print_35 : decode cX5_print 35 = .ok (.goto (-31), 3) := by decide +kernel
theorem dX5_print_38 : decode cX5_print 38 = .ok (.iconst 0, 1) := by decide +kernel
theorem dX5_print_39 : decode cX5_print 39 = .ok (.istore_n 3, 1) := by decide +kernel
theorem dX5_print_40 : decode cX5_print 40 = .ok (.iload_n 3, 1) := by decide +kernel
theorem dX5_print_41 : decode cX5_print 41 = .ok (.aload_n 0, 1) := by decide +kernel
theorem dX5_print_42 : decode cX5_print 42 = .ok (.getfield 23, 3) := by decide +kernel
theorem dX5_print_45 : decode cX5_print 45 = .ok (.getfield 171, 3) := by decide +kernel
theorem dX5_print_48 : decode cX5_print 48 = .ok (.if_icmp .ge 63, 3) := by decide +kernel
theorem dX5_print_51 : decode cX5_print 51 = .ok (.iload_n 3, 1) := by decide +kernel
theorem dX5_print_52 : decode cX5_print 52 = .ok (.iconst 1, 1) := by decide +kernel
theorem dX5_print_53 : decode cX5_print 53 = .ok (.iadd, 1) := by decide +kernel
theorem dX5_print_54 : decode cX5_print 54 = .ok (.istore 4, 2) := by decide +kernel
theorem dX5_print_56 : decode cX5_print 56 = .ok (.iload 4, 2) := by decide +kernel
theorem dX5_print_58 : decode cX5_print 58 = .ok (.aload_n 0, 1) := by decide +kernel
theorem dX5_print_59 : decode cX5_print 59 = .ok (.getfield 23, 3) := by decide +kernel
theorem dX5_print_62 : decode cX5_print 62 = .ok (.getfield 171, 3) := by decide +kernel
theorem dX5_print_65 : decode cX5_print 65 = .ok (.if_icmp .ge 40, 3) := by decide +kernel
theorem dX5_print_68 : decode cX5_print 68 = .ok (.aload_n 0, 1) := by decide +kernel
theorem dX5_print_69 : decode cX5_print 69 = .ok (.getfield 23, 3) := by decide +kernel
theorem dX5_print_72 : decode cX5_print 72 = .ok (.iload_n 3, 1) := by decide +kernel
theorem dX5_print_73 : decode cX5_print 73 = .ok (.iload 4, 2) := by decide +kernel
theorem dX5_print_75 : decode cX5_print 75 = .ok (.invokevirtual 112, 3) := by decide +kernel
theorem dX5_print_78 : decode cX5_print 78 = .ok (.ifCond .eq 21, 3) := by decide +kernel
theorem dX5_print_81 : decode cX5_print 81 = .ok (.lload_n 1, 1) := by decide +kernel
theorem dX5_print_82 : decode cX5_print 82 = .ok (.ldc2_w 257, 3) := by decide +kernel
theorem dX5_print_85 : decode cX5_print 85 = .ok (.lmul, 1) := by decide +kernel
theorem dX5_print_86 : decode cX5_print 86 = .ok (.aload_n 0, 1) := by decide +kernel
theorem dX5_print_87 : decode cX5_print 87 = .ok (.getfield 23, 3) := by decide +kernel
theorem dX5_print_90 : decode cX5_print 90 = .ok (.iload_n 3, 1) := by decide +kernel
theorem dX5_print_91 : decode cX5_print 91 = .ok (.iload 4, 2) := by decide +kernel
theorem dX5_print_93 : decode cX5_print 93 = .ok (.invokevirtual 193, 3) := by decide +kernel
theorem dX5_print_96 : decode cX5_print 96 = .ok (.i2l, 1) := by decide +kernel
theorem dX5_print_97 : decode cX5_print 97 = .ok (.ladd, 1) := by decide +kernel
theorem dX5_print_98 : decode cX5_print 98 = .ok (.lstore_n 1, 1) := by decide +kernel
theorem dX5_print_99 : decode cX5_print 99 = .ok (.iinc 4 1, 3) := by decide +kernel
theorem dX5_print_102 : decode cX5_print 102 = .ok (.goto (-46), 3) := by decide +kernel
theorem dX5_print_105 : decode cX5_print 105 = .ok (.iinc 3 1, 3) := by decide +kernel
theorem dX5_print_108 : decode cX5_print 108 = .ok (.goto (-68), 3) := by decide +kernel
theorem dX5_print_111 : decode cX5_print 111 = .ok (.lload_n 1, 1) := by decide +kernel
theorem dX5_print_112 : decode cX5_print 112 = .ok (.lreturn, 1) := by decide +kernel
theorem dX5_status_0 : decode cX5_status 0 = .ok (.iload_n 1, 1) := by decide +kernel
theorem dX5_status_1 : decode cX5_status 1 = .ok (.ifCond .lt 21, 3) := by decide +kernel
theorem dX5_status_4 : decode cX5_status 4 = .ok (.iload_n 1, 1) := by decide +kernel
theorem dX5_status_5 : decode cX5_status 5 = .ok (.aload_n 0, 1) := by decide +kernel
theorem dX5_status_6 : decode cX5_status 6 = .ok (.getfield 67, 3) := by decide +kernel
theorem dX5_status_9 : decode cX5_status 9 = .ok (.arraylength, 1) := by decide +kernel
theorem dX5_status_10 : decode cX5_status 10 = .ok (.if_icmp .ge 12, 3) := by decide +kernel
theorem dX5_status_13 : decode cX5_status 13 = .ok (.aload_n 0, 1) := by decide +kernel
theorem dX5_status_14 : decode cX5_status 14 = .ok (.getfield 67, 3) := by decide +kernel
theorem dX5_status_17 : decode cX5_status 17 = .ok (.iload_n 1, 1) := by decide +kernel
theorem dX5_status_18 : decode cX5_status 18 = .ok (.iaload, 1) := by decide +kernel
theorem dX5_status_19 : decode cX5_status 19 = .ok (.goto 4, 3) := by decide +kernel
theorem dX5_status_22 : decode cX5_status 22 = .ok (.iconst (-1), 1) := by decide +kernel
theorem dX5_status_23 : decode cX5_status 23 = .ok (.ireturn, 1) := by decide +kernel
theorem dX5_putBytes_0 : decode cX5_putBytes 0 = .ok (.bipush 24, 2) := by decide +kernel
theorem dX5_putBytes_2 : decode cX5_putBytes 2 = .ok (.istore_n 2, 1) := by decide +kernel
theorem dX5_putBytes_3 : decode cX5_putBytes 3 = .ok (.iload_n 2, 1) := by decide +kernel
theorem dX5_putBytes_4 : decode cX5_putBytes 4 = .ok (.ifCond .lt 42, 3) := by decide +kernel
theorem dX5_putBytes_7 : decode cX5_putBytes 7 = .ok (.aload_n 0, 1) := by decide +kernel
theorem dX5_putBytes_8 : decode cX5_putBytes 8 = .ok (.getfield 13, 3) := by decide +kernel
theorem dX5_putBytes_11 : decode cX5_putBytes 11 = .ok (.sipush 500, 3) := by decide +kernel
theorem dX5_putBytes_14 : decode cX5_putBytes 14 = .ok (.if_icmp .ge 32, 3) := by decide +kernel
theorem dX5_putBytes_17 : decode cX5_putBytes 17 = .ok (.aload_n 0, 1) := by decide +kernel
theorem dX5_putBytes_18 : decode cX5_putBytes 18 = .ok (.getfield 9, 3) := by decide +kernel
theorem dX5_putBytes_21 : decode cX5_putBytes 21 = .ok (.aload_n 0, 1) := by decide +kernel
theorem dX5_putBytes_22 : decode cX5_putBytes 22 = .ok (.getfield 13, 3) := by decide +kernel
theorem dX5_putBytes_25 : decode cX5_putBytes 25 = .ok (.iload_n 1, 1) := by decide +kernel
theorem dX5_putBytes_26 : decode cX5_putBytes 26 = .ok (.iload_n 2, 1) := by decide +kernel
theorem dX5_putBytes_27 : decode cX5_putBytes 27 = .ok (.ishr, 1) := by decide +kernel
theorem dX5_putBytes_28 : decode cX5_putBytes 28 = .ok (.i2b, 1) := by decide +kernel
theorem dX5_putBytes_29 : decode cX5_putBytes 29 = .ok (.bastore, 1) := by decide +kernel
theorem dX5_putBytes_30 : decode cX5_putBytes 30 = .ok (.aload_n 0, 1) := by decide +kernel
theorem dX5_putBytes_31 : decode cX5_putBytes 31 = .ok (.dup, 1) := by decide +kernel
theorem dX5_putBytes_32 : decode cX5_putBytes 32 = .ok (.getfield 13, 3) := by decide +kernel
theorem dX5_putBytes_35 : decode cX5_putBytes 35 = .ok (.iconst 1, 1) := by decide +kernel
theorem dX5_putBytes_36 : decode cX5_putBytes 36 = .ok (.iadd, 1) := by decide +kernel
theorem dX5_putBytes_37 : decode cX5_putBytes 37 = .ok (.putfield 13, 3) := by decide +kernel
theorem dX5_putBytes_40 : decode cX5_putBytes 40 = .ok (.iinc 2 (-8), 3) := by decide +kernel
theorem dX5_putBytes_43 : decode cX5_putBytes 43 = .ok (.goto (-40), 3) := by decide +kernel
theorem dX5_putBytes_46 : decode cX5_putBytes 46 = .ok (.return_, 1) := by decide +kernel
theorem dX5_needNode_0 : decode cX5_needNode 0 = .ok (.aload_n 0, 1) := by decide +kernel
theorem dX5_needNode_1 : decode cX5_needNode 1 = .ok (.getfield 23, 3) := by decide +kernel
theorem dX5_needNode_4 : decode cX5_needNode 4 = .ok (.iload_n 1, 1) := by decide +kernel
theorem dX5_needNode_5 : decode cX5_needNode 5 = .ok (.invokevirtual 259, 3) := by decide +kernel
theorem dX5_needNode_8 : decode cX5_needNode 8 = .ok (.ifCond .ne 24, 3) := by decide +kernel
theorem dX5_needNode_11 : decode cX5_needNode 11 = .ok (.aload_n 0, 1) := by decide +kernel
theorem dX5_needNode_12 : decode cX5_needNode 12 = .ok (.getfield 67, 3) := by decide +kernel
theorem dX5_needNode_15 : decode cX5_needNode 15 = .ok (.iconst 0, 1) := by decide +kernel
theorem dX5_needNode_16 : decode cX5_needNode 16 = .ok (.dup2, 1) := by decide +kernel
theorem dX5_needNode_17 : decode cX5_needNode 17 = .ok (.iaload, 1) := by decide +kernel
theorem dX5_needNode_18 : decode cX5_needNode 18 = .ok (.iconst 1, 1) := by decide +kernel
theorem dX5_needNode_19 : decode cX5_needNode 19 = .ok (.iadd, 1) := by decide +kernel
theorem dX5_needNode_20 : decode cX5_needNode 20 = .ok (.iastore, 1) := by decide +kernel
theorem dX5_needNode_21 : decode cX5_needNode 21 = .ok (.new 262, 3) := by decide +kernel
theorem dX5_needNode_24 : decode cX5_needNode 24 = .ok (.dup, 1) := by decide +kernel
theorem dX5_needNode_25 : decode cX5_needNode 25 = .ok (.ldc_w 264, 3) := by decide +kernel
theorem dX5_needNode_28 : decode cX5_needNode 28 = .ok (.invokespecial 266, 3) := by decide +kernel
theorem dX5_needNode_31 : decode cX5_needNode 31 = .ok (.athrow, 1) := by decide +kernel
theorem dX5_needNode_32 : decode cX5_needNode 32 = .ok (.return_, 1) := by decide +kernel
theorem dX5_needTwoNodes_0 : decode cX5_needTwoNodes 0 = .ok (.aload_n 0, 1) := by decide +kernel
theorem dX5_needTwoNodes_1 : decode cX5_needTwoNodes 1 = .ok (.iload_n 1, 1) := by decide +kernel
theorem dX5_needTwoNodes_2 : decode cX5_needTwoNodes 2 = .ok (.invokevirtual 102, 3) := by decide +kernel
theorem dX5_needTwoNodes_5 : decode cX5_needTwoNodes 5 = .ok (.aload_n 0, 1) := by decide +kernel
theorem dX5_needTwoNodes_6 : decode cX5_needTwoNodes 6 = .ok (.iload_n 2, 1) := by decide +kernel
theorem dX5_needTwoNodes_7 : decode cX5_needTwoNodes 7 = .ok (.invokevirtual 102, 3) := by decide +kernel
theorem dX5_needTwoNodes_10 : decode cX5_needTwoNodes 10 = .ok (.aload_n 0, 1) := by decide +kernel
theorem dX5_needTwoNodes_11 : decode cX5_needTwoNodes 11 = .ok (.iload_n 1, 1) := by decide +kernel
theorem dX5_needTwoNodes_12 : decode cX5_needTwoNodes 12 = .ok (.iload_n 2, 1) := by decide +kernel
theorem dX5_needTwoNodes_13 : decode cX5_needTwoNodes 13 = .ok (.if_icmp .eq 7, 3) := by decide +kernel
theorem dX5_needTwoNodes_16 : decode cX5_needTwoNodes 16 = .ok (.iconst 1, 1) := by decide +kernel
theorem dX5_needTwoNodes_17 : decode cX5_needTwoNodes 17 = .ok (.goto 4, 3) := by decide +kernel
theorem dX5_needTwoNodes_20 : decode cX5_needTwoNodes 20 = .ok (.iconst 0, 1) := by decide +kernel
theorem dX5_needTwoNodes_21 : decode cX5_needTwoNodes 21 = .ok (.invokevirtual 82, 3) := by decide +kernel
theorem dX5_needTwoNodes_24 : decode cX5_needTwoNodes 24 = .ok (.return_, 1) := by decide +kernel
theorem dX5_needArgument_0 : decode cX5_needArgument 0 = .ok (.iload_n 1, 1) := by decide +kernel
theorem dX5_needArgument_1 : decode cX5_needArgument 1 = .ok (.ifCond .ne 24, 3) := by decide +kernel
theorem dX5_needArgument_4 : decode cX5_needArgument 4 = .ok (.aload_n 0, 1) := by decide +kernel
theorem dX5_needArgument_5 : decode cX5_needArgument 5 = .ok (.getfield 67, 3) := by decide +kernel
theorem dX5_needArgument_8 : decode cX5_needArgument 8 = .ok (.iconst 1, 1) := by decide +kernel
theorem dX5_needArgument_9 : decode cX5_needArgument 9 = .ok (.dup2, 1) := by decide +kernel
theorem dX5_needArgument_10 : decode cX5_needArgument 10 = .ok (.iaload, 1) := by decide +kernel
theorem dX5_needArgument_11 : decode cX5_needArgument 11 = .ok (.iconst 1, 1) := by decide +kernel
theorem dX5_needArgument_12 : decode cX5_needArgument 12 = .ok (.iadd, 1) := by decide +kernel
theorem dX5_needArgument_13 : decode cX5_needArgument 13 = .ok (.iastore, 1) := by decide +kernel
theorem dX5_needArgument_14 : decode cX5_needArgument 14 = .ok (.new 269, 3) := by decide +kernel
theorem dX5_needArgument_17 : decode cX5_needArgument 17 = .ok (.dup, 1) := by decide +kernel
theorem dX5_needArgument_18 : decode cX5_needArgument 18 = .ok (.ldc_w 271, 3) := by decide +kernel
theorem dX5_needArgument_21 : decode cX5_needArgument 21 = .ok (.invokespecial 273, 3) := by decide +kernel
theorem dX5_needArgument_24 : decode cX5_needArgument 24 = .ok (.athrow, 1) := by decide +kernel
theorem dX5_needArgument_25 : decode cX5_needArgument 25 = .ok (.return_, 1) := by decide +kernel
theorem dX5_needState_0 : decode cX5_needState 0 = .ok (.iload_n 1, 1) := by decide +kernel
theorem dX5_needState_1 : decode cX5_needState 1 = .ok (.ifCond .ne 24, 3) := by decide +kernel
theorem dX5_needState_4 : decode cX5_needState 4 = .ok (.aload_n 0, 1) := by decide +kernel
theorem dX5_needState_5 : decode cX5_needState 5 = .ok (.getfield 67, 3) := by decide +kernel
theorem dX5_needState_8 : decode cX5_needState 8 = .ok (.iconst 2, 1) := by decide +kernel
theorem dX5_needState_9 : decode cX5_needState 9 = .ok (.dup2, 1) := by decide +kernel
theorem dX5_needState_10 : decode cX5_needState 10 = .ok (.iaload, 1) := by decide +kernel
theorem dX5_needState_11 : decode cX5_needState 11 = .ok (.iconst 1, 1) := by decide +kernel
theorem dX5_needState_12 : decode cX5_needState 12 = .ok (.iadd, 1) := by decide +kernel
theorem dX5_needState_13 : decode cX5_needState 13 = .ok (.iastore, 1) := by decide +kernel
theorem dX5_needState_14 : decode cX5_needState 14 = .ok (.new 274, 3) := by decide +kernel
theorem dX5_needState_17 : decode cX5_needState 17 = .ok (.dup, 1) := by decide +kernel
theorem dX5_needState_18 : decode cX5_needState 18 = .ok (.ldc_w 276, 3) := by decide +kernel
theorem dX5_needState_21 : decode cX5_needState 21 = .ok (.invokespecial 278, 3) := by decide +kernel
theorem dX5_needState_24 : decode cX5_needState 24 = .ok (.athrow, 1) := by decide +kernel
theorem dX5_needState_25 : decode cX5_needState 25 = .ok (.return_, 1) := by decide +kernel
theorem dX5_placeInRow_0 : decode cX5_placeInRow 0 = .ok (.iload_n 1, 1) := by decide +kernel
theorem dX5_placeInRow_1 : decode cX5_placeInRow 1 = .ok (.ifCond .lt 14, 3) := by decide +kernel
theorem dX5_placeInRow_4 : decode cX5_placeInRow 4 = .ok (.iload_n 1, 1) := by decide +kernel
theorem dX5_placeInRow_5 : decode cX5_placeInRow 5 = .ok (.aload_n 0, 1) := by decide +kernel
theorem dX5_placeInRow_6 : decode cX5_placeInRow 6 = .ok (.getfield 63, 3) := by decide +kernel
theorem dX5_placeInRow_9 : decode cX5_placeInRow 9 = .ok (.getfield 251, 3) := by decide +kernel
theorem dX5_placeInRow_12 : decode cX5_placeInRow 12 = .ok (.if_icmp .lt 24, 3) := by decide +kernel
theorem dX5_placeInRow_15 : decode cX5_placeInRow 15 = .ok (.aload_n 0, 1) := by decide +kernel
theorem dX5_placeInRow_16 : decode cX5_placeInRow 16 = .ok (.getfield 67, 3) := by decide +kernel
theorem dX5_placeInRow_19 : decode cX5_placeInRow 19 = .ok (.iconst 0, 1) := by decide +kernel
theorem dX5_placeInRow_20 : decode cX5_placeInRow 20 = .ok (.dup2, 1) := by decide +kernel
theorem dX5_placeInRow_21 : decode cX5_placeInRow 21 = .ok (.iaload, 1) := by decide +kernel
theorem dX5_placeInRow_22 : decode cX5_placeInRow 22 = .ok (.iconst 1, 1) := by decide +kernel
theorem dX5_placeInRow_23 : decode cX5_placeInRow 23 = .ok (.iadd, 1) := by decide +kernel
theorem dX5_placeInRow_24 : decode cX5_placeInRow 24 = .ok (.iastore, 1) := by decide +kernel
theorem dX5_placeInRow_25 : decode cX5_placeInRow 25 = .ok (.new 262, 3) := by decide +kernel
theorem dX5_placeInRow_28 : decode cX5_placeInRow 28 = .ok (.dup, 1) := by decide +kernel
theorem dX5_placeInRow_29 : decode cX5_placeInRow 29 = .ok (.ldc_w 279, 3) := by decide +kernel
theorem dX5_placeInRow_32 : decode cX5_placeInRow 32 = .ok (.invokespecial 266, 3) := by decide +kernel
theorem dX5_placeInRow_35 : decode cX5_placeInRow 35 = .ok (.athrow, 1) := by decide +kernel
theorem dX5_placeInRow_36 : decode cX5_placeInRow 36 = .ok (.aload_n 0, 1) := by decide +kernel
theorem dX5_placeInRow_37 : decode cX5_placeInRow 37 = .ok (.getfield 63, 3) := by decide +kernel
theorem dX5_placeInRow_40 : decode cX5_placeInRow 40 = .ok (.getfield 281, 3) := by decide +kernel
theorem dX5_placeInRow_43 : decode cX5_placeInRow 43 = .ok (.iload_n 1, 1) := by decide +kernel
theorem dX5_placeInRow_44 : decode cX5_placeInRow 44 = .ok (.iaload, 1) := by decide +kernel
theorem dX5_placeInRow_45 : decode cX5_placeInRow 45 = .ok (.ireturn, 1) := by decide +kernel
theorem dX5_remember_0 : decode cX5_remember 0 = .ok (.aload_n 0, 1) := by decide +kernel
theorem dX5_remember_1 : decode cX5_remember 1 = .ok (.getfield 34, 3) := by decide +kernel
theorem dX5_remember_4 : decode cX5_remember 4 = .ok (.bipush 8, 2) := by decide +kernel
theorem dX5_remember_6 : decode cX5_remember 6 = .ok (.if_icmp .lt 7, 3) := by decide +kernel
theorem dX5_remember_9 : decode cX5_remember 9 = .ok (.aload_n 0, 1) := by decide +kernel
theorem dX5_remember_10 : decode cX5_remember 10 = .ok (.invokevirtual 284, 3) := by decide +kernel
theorem dX5_remember_13 : decode cX5_remember 13 = .ok (.aload_n 0, 1) := by decide +kernel
theorem dX5_remember_14 : decode cX5_remember 14 = .ok (.getfield 30, 3) := by decide +kernel
theorem dX5_remember_17 : decode cX5_remember 17 = .ok (.aload_n 0, 1) := by decide +kernel
theorem dX5_remember_18 : decode cX5_remember 18 = .ok (.getfield 34, 3) := by decide +kernel
theorem dX5_remember_21 : decode cX5_remember 21 = .ok (.aaload, 1) := by decide +kernel
theorem dX5_remember_22 : decode cX5_remember 22 = .ok (.aload_n 0, 1) := by decide +kernel
theorem dX5_remember_23 : decode cX5_remember 23 = .ok (.getfield 23, 3) := by decide +kernel
theorem dX5_remember_26 : decode cX5_remember 26 = .ok (.invokevirtual 174, 3) := by decide +kernel
theorem dX5_remember_29 : decode cX5_remember 29 = .ok (.aload_n 0, 1) := by decide +kernel
theorem dX5_remember_30 : decode cX5_remember 30 = .ok (.dup, 1) := by decide +kernel
theorem dX5_remember_31 : decode cX5_remember 31 = .ok (.getfield 34, 3) := by decide +kernel
theorem dX5_remember_34 : decode cX5_remember 34 = .ok (.iconst 1, 1) := by decide +kernel
theorem dX5_remember_35 : decode cX5_remember 35 = .ok (.iadd, 1) := by decide +kernel
theorem dX5_remember_36 : decode cX5_remember 36 = .ok (.putfield 34, 3) := by decide +kernel
theorem dX5_remember_39 : decode cX5_remember 39 = .ok (.return_, 1) := by decide +kernel
theorem dX5_rememberLines_0 : decode cX5_rememberLines 0 = .ok (.aload_n 0, 1) := by decide +kernel
theorem dX5_rememberLines_1 : decode cX5_rememberLines 1 = .ok (.invokevirtual 126, 3) := by decide +kernel
theorem dX5_rememberLines_4 : decode cX5_rememberLines 4 = .ok (.aload_n 0, 1) := by decide +kernel
theorem dX5_rememberLines_5 : decode cX5_rememberLines 5 = .ok (.invokevirtual 177, 3) := by decide +kernel
theorem dX5_rememberLines_8 : decode cX5_rememberLines 8 = .ok (.return_, 1) := by decide +kernel
theorem dX5_dropOldest_0 : decode cX5_dropOldest 0 = .ok (.aload_n 0, 1) := by decide +kernel
theorem dX5_dropOldest_1 : decode cX5_dropOldest 1 = .ok (.getfield 30, 3) := by decide +kernel
theorem dX5_dropOldest_4 : decode cX5_dropOldest 4 = .ok (.iconst 0, 1) := by decide +kernel
theorem dX5_dropOldest_5 : decode cX5_dropOldest 5 = .ok (.aaload, 1) := by decide +kernel
theorem dX5_dropOldest_6 : decode cX5_dropOldest 6 = .ok (.astore_n 1, 1) := by decide +kernel
theorem dX5_dropOldest_7 : decode cX5_dropOldest 7 = .ok (.iconst 1, 1) := by decide +kernel
theorem dX5_dropOldest_8 : decode cX5_dropOldest 8 = .ok (.istore_n 2, 1) := by decide +kernel
theorem dX5_dropOldest_9 : decode cX5_dropOldest 9 = .ok (.iload_n 2, 1) := by decide +kernel
theorem dX5_dropOldest_10 : decode cX5_dropOldest 10 = .ok (.bipush 8, 2) := by decide +kernel
theorem dX5_dropOldest_12 : decode cX5_dropOldest 12 = .ok (.if_icmp .ge 23, 3) := by decide +kernel
theorem dX5_dropOldest_15 : decode cX5_dropOldest 15 = .ok (.aload_n 0, 1) := by decide +kernel
theorem dX5_dropOldest_16 : decode cX5_dropOldest 16 = .ok (.getfield 30, 3) := by decide +kernel
theorem dX5_dropOldest_19 : decode cX5_dropOldest 19 = .ok (.iload_n 2, 1) := by decide +kernel
theorem dX5_dropOldest_20 : decode cX5_dropOldest 20 = .ok (.iconst 1, 1) := by decide +kernel
theorem dX5_dropOldest_21 : decode cX5_dropOldest 21 = .ok (.isub, 1) := by decide +kernel
theorem dX5_dropOldest_22 : decode cX5_dropOldest 22 = .ok (.aload_n 0, 1) := by decide +kernel
theorem dX5_dropOldest_23 : decode cX5_dropOldest 23 = .ok (.getfield 30, 3) := by decide +kernel
theorem dX5_dropOldest_26 : decode cX5_dropOldest 26 = .ok (.iload_n 2, 1) := by decide +kernel
theorem dX5_dropOldest_27 : decode cX5_dropOldest 27 = .ok (.aaload, 1) := by decide +kernel
theorem dX5_dropOldest_28 : decode cX5_dropOldest 28 = .ok (.aastore, 1) := by decide +kernel
theorem dX5_dropOldest_29 : decode cX5_dropOldest 29 = .ok (.iinc 2 1, 3) := by decide +kernel
theorem dX5_dropOldest_32 : decode cX5_dropOldest 32 = .ok (.goto (-23), 3) := by decide +kernel
theorem dX5_dropOldest_35 : decode cX5_dropOldest 35 = .ok (.aload_n 0, 1) := by decide +kernel
theorem dX5_dropOldest_36 : decode cX5_dropOldest 36 = .ok (.getfield 30, 3) := by decide +kernel
theorem dX5_dropOldest_39 : decode cX5_dropOldest 39 = .ok (.bipush 7, 2) := by decide +kernel
theorem dX5_dropOldest_41 : decode cX5_dropOldest 41 = .ok (.aload_n 1, 1) := by decide +kernel
theorem dX5_dropOldest_42 : decode cX5_dropOldest 42 = .ok (.aastore, 1) := by decide +kernel
theorem dX5_dropOldest_43 : decode cX5_dropOldest 43 = .ok (.aload_n 0, 1) := by decide +kernel
theorem dX5_dropOldest_44 : decode cX5_dropOldest 44 = .ok (.bipush 7, 2) := by decide +kernel
theorem dX5_dropOldest_46 : decode cX5_dropOldest 46 = .ok (.putfield 34, 3) := by decide +kernel
theorem dX5_dropOldest_49 : decode cX5_dropOldest 49 = .ok (.return_, 1) := by decide +kernel
theorem dX5_becomeDraft_0 : decode cX5_becomeDraft 0 = .ok (.aload_n 0, 1) := by decide +kernel
theorem dX5_becomeDraft_1 : decode cX5_becomeDraft 1 = .ok (.invokevirtual 105, 3) := by decide +kernel
theorem dX5_becomeDraft_4 : decode cX5_becomeDraft 4 = .ok (.aload_n 0, 1) := by decide +kernel
theorem dX5_becomeDraft_5 : decode cX5_becomeDraft 5 = .ok (.getfield 23, 3) := by decide +kernel
theorem dX5_becomeDraft_8 : decode cX5_becomeDraft 8 = .ok (.aload_n 0, 1) := by decide +kernel
theorem dX5_becomeDraft_9 : decode cX5_becomeDraft 9 = .ok (.getfield 27, 3) := by decide +kernel
theorem dX5_becomeDraft_12 : decode cX5_becomeDraft 12 = .ok (.invokevirtual 174, 3) := by decide +kernel
theorem dX5_becomeDraft_15 : decode cX5_becomeDraft 15 = .ok (.return_, 1) := by decide +kernel
theorem dX5_forgetAnswers_0 : decode cX5_forgetAnswers 0 = .ok (.aload_n 0, 1) := by decide +kernel
theorem dX5_forgetAnswers_1 : decode cX5_forgetAnswers 1 = .ok (.getfield 49, 3) := by decide +kernel
theorem dX5_forgetAnswers_4 : decode cX5_forgetAnswers 4 = .ok (.iconst 0, 1) := by decide +kernel
theorem dX5_forgetAnswers_5 : decode cX5_forgetAnswers 5 = .ok (.putfield 287, 3) := by decide +kernel
theorem dX5_forgetAnswers_8 : decode cX5_forgetAnswers 8 = .ok (.aload_n 0, 1) := by decide +kernel
theorem dX5_forgetAnswers_9 : decode cX5_forgetAnswers 9 = .ok (.getfield 56, 3) := by decide +kernel
theorem dX5_forgetAnswers_12 : decode cX5_forgetAnswers 12 = .ok (.iconst 0, 1) := by decide +kernel
theorem dX5_forgetAnswers_13 : decode cX5_forgetAnswers 13 = .ok (.putfield 291, 3) := by decide +kernel
theorem dX5_forgetAnswers_16 : decode cX5_forgetAnswers 16 = .ok (.return_, 1) := by decide +kernel
theorem dX5_learn_0 : decode cX5_learn 0 = .ok (.aload_n 0, 1) := by decide +kernel
theorem dX5_learn_1 : decode cX5_learn 1 = .ok (.getfield 49, 3) := by decide +kernel
theorem dX5_learn_4 : decode cX5_learn 4 = .ok (.invokevirtual 292, 3) := by decide +kernel
theorem dX5_learn_7 : decode cX5_learn 7 = .ok (.return_, 1) := by decide +kernel
theorem dX5_labelOf_0 : decode cX5_labelOf 0 = .ok (.aload_n 0, 1) := by decide +kernel
theorem dX5_labelOf_1 : decode cX5_labelOf 1 = .ok (.getfield 63, 3) := by decide +kernel
theorem dX5_labelOf_4 : decode cX5_labelOf 4 = .ok (.aload_n 0, 1) := by decide +kernel
theorem dX5_labelOf_5 : decode cX5_labelOf 5 = .ok (.getfield 23, 3) := by decide +kernel
theorem dX5_labelOf_8 : decode cX5_labelOf 8 = .ok (.invokevirtual 221, 3) := by decide +kernel
theorem dX5_labelOf_11 : decode cX5_labelOf 11 = .ok (.iconst 0, 1) := by decide +kernel
theorem dX5_labelOf_12 : decode cX5_labelOf 12 = .ok (.istore_n 2, 1) := by decide +kernel
theorem dX5_labelOf_13 : decode cX5_labelOf 13 = .ok (.iload_n 2, 1) := by decide +kernel
theorem dX5_labelOf_14 : decode cX5_labelOf 14 = .ok (.iconst 2, 1) := by decide +kernel
theorem dX5_labelOf_15 : decode cX5_labelOf 15 = .ok (.if_icmp .ge 30, 3) := by decide +kernel
theorem dX5_labelOf_18 : decode cX5_labelOf 18 = .ok (.aload_n 0, 1) := by decide +kernel
theorem dX5_labelOf_19 : decode cX5_labelOf 19 = .ok (.getfield 63, 3) := by decide +kernel
theorem dX5_labelOf_22 : decode cX5_labelOf 22 = .ok (.aload_n 0, 1) := by decide +kernel
theorem dX5_labelOf_23 : decode cX5_labelOf 23 = .ok (.getfield 23, 3) := by decide +kernel
theorem dX5_labelOf_26 : decode cX5_labelOf 26 = .ok (.iload_n 2, 1) := by decide +kernel
theorem dX5_labelOf_27 : decode cX5_labelOf 27 = .ok (.invokevirtual 224, 3) := by decide +kernel
theorem dX5_labelOf_30 : decode cX5_labelOf 30 = .ok (.iload_n 1, 1) := by decide +kernel
theorem dX5_labelOf_31 : decode cX5_labelOf 31 = .ok (.invokestatic 293, 3) := by decide +kernel
theorem dX5_labelOf_34 : decode cX5_labelOf 34 = .ok (.ifCond .eq 5, 3) := by decide +kernel
theorem dX5_labelOf_37 : decode cX5_labelOf 37 = .ok (.iload_n 2, 1) := by decide +kernel
theorem dX5_labelOf_38 : decode cX5_labelOf 38 = .ok (.ireturn, 1) := by decide +kernel
theorem dX5_labelOf_39 : decode cX5_labelOf 39 = .ok (.iinc 2 1, 3) := by decide +kernel
theorem dX5_labelOf_42 : decode cX5_labelOf 42 = .ok (.goto (-29), 3) := by decide +kernel
theorem dX5_labelOf_45 : decode cX5_labelOf 45 = .ok (.iconst 2, 1) := by decide +kernel
theorem dX5_labelOf_46 : decode cX5_labelOf 46 = .ok (.ireturn, 1) := by decide +kernel
theorem dX5_setOf_0 : decode cX5_setOf 0 = .ok (.aload_n 0, 1) := by decide +kernel
theorem dX5_setOf_1 : decode cX5_setOf 1 = .ok (.invokevirtual 149, 3) := by decide +kernel
theorem dX5_setOf_4 : decode cX5_setOf 4 = .ok (.iconst 0, 1) := by decide +kernel
theorem dX5_setOf_5 : decode cX5_setOf 5 = .ok (.istore_n 2, 1) := by decide +kernel
theorem dX5_setOf_6 : decode cX5_setOf 6 = .ok (.iload_n 2, 1) := by decide +kernel
theorem dX5_setOf_7 : decode cX5_setOf 7 = .ok (.iconst 2, 1) := by decide +kernel
theorem dX5_setOf_8 : decode cX5_setOf 8 = .ok (.if_icmp .ge 26, 3) := by decide +kernel
theorem dX5_setOf_11 : decode cX5_setOf 11 = .ok (.aload_n 0, 1) := by decide +kernel
theorem dX5_setOf_12 : decode cX5_setOf 12 = .ok (.getfield 49, 3) := by decide +kernel
theorem dX5_setOf_15 : decode cX5_setOf 15 = .ok (.iload_n 2, 1) := by decide +kernel
theorem dX5_setOf_16 : decode cX5_setOf 16 = .ok (.invokevirtual 218, 3) := by decide +kernel
theorem dX5_setOf_19 : decode cX5_setOf 19 = .ok (.iload_n 1, 1) := by decide +kernel
theorem dX5_setOf_20 : decode cX5_setOf 20 = .ok (.invokestatic 293, 3) := by decide +kernel
theorem dX5_setOf_23 : decode cX5_setOf 23 = .ok (.ifCond .eq 5, 3) := by decide +kernel
theorem dX5_setOf_26 : decode cX5_setOf 26 = .ok (.iload_n 2, 1) := by decide +kernel
theorem dX5_setOf_27 : decode cX5_setOf 27 = .ok (.ireturn, 1) := by decide +kernel
theorem dX5_setOf_28 : decode cX5_setOf 28 = .ok (.iinc 2 1, 3) := by decide +kernel
theorem dX5_setOf_31 : decode cX5_setOf 31 = .ok (.goto (-25), 3) := by decide +kernel
theorem dX5_setOf_34 : decode cX5_setOf 34 = .ok (.iconst 2, 1) := by decide +kernel
theorem dX5_setOf_35 : decode cX5_setOf 35 = .ok (.ireturn, 1) := by decide +kernel
theorem dX5_hasBit_0 : decode cX5_hasBit 0 = .ok (.iload_n 0, 1) := by decide +kernel
theorem dX5_hasBit_1 : decode cX5_hasBit 1 = .ok (.iload_n 1, 1) := by decide +kernel
theorem dX5_hasBit_2 : decode cX5_hasBit 2 = .ok (.ishr, 1) := by decide +kernel
theorem dX5_hasBit_3 : decode cX5_hasBit 3 = .ok (.iconst 1, 1) := by decide +kernel
theorem dX5_hasBit_4 : decode cX5_hasBit 4 = .ok (.iand, 1) := by decide +kernel
theorem dX5_hasBit_5 : decode cX5_hasBit 5 = .ok (.iconst 1, 1) := by decide +kernel
theorem dX5_hasBit_6 : decode cX5_hasBit 6 = .ok (.if_icmp .ne 7, 3) := by decide +kernel
theorem dX5_hasBit_9 : decode cX5_hasBit 9 = .ok (.iconst 1, 1) := by decide +kernel
theorem dX5_hasBit_10 : decode cX5_hasBit 10 = .ok (.goto 4, 3) := by decide +kernel
theorem dX5_hasBit_13 : decode cX5_hasBit 13 = .ok (.iconst 0, 1) := by decide +kernel
theorem dX5_hasBit_14 : decode cX5_hasBit 14 = .ok (.ireturn, 1) := by decide +kernel
theorem dX5_asNumber_0 : decode cX5_asNumber 0 = .ok (.iload_n 0, 1) := by decide +kernel
theorem dX5_asNumber_1 : decode cX5_asNumber 1 = .ok (.ifCond .eq 7, 3) := by decide +kernel
theorem dX5_asNumber_4 : decode cX5_asNumber 4 = .ok (.iconst 1, 1) := by decide +kernel
theorem dX5_asNumber_5 : decode cX5_asNumber 5 = .ok (.goto 4, 3) := by decide +kernel
theorem dX5_asNumber_8 : decode cX5_asNumber 8 = .ok (.iconst 0, 1) := by decide +kernel
theorem dX5_asNumber_9 : decode cX5_asNumber 9 = .ok (.ireturn, 1) := by decide +kernel
theorem dJ6_bitCount_0f7a4_0 : decode cJ6_bitCount_0f7a4 0 = .ok (.iload_n 0, 1) := by decide +kernel
theorem dJ6_bitCount_0f7a4_1 : decode cJ6_bitCount_0f7a4 1 = .ok (.iload_n 0, 1) := by decide +kernel
theorem dJ6_bitCount_0f7a4_2 : decode cJ6_bitCount_0f7a4 2 = .ok (.iconst 1, 1) := by decide +kernel
theorem dJ6_bitCount_0f7a4_3 : decode cJ6_bitCount_0f7a4 3 = .ok (.iushr, 1) := by decide +kernel
theorem dJ6_bitCount_0f7a4_4 : decode cJ6_bitCount_0f7a4 4 = .ok (.ldc_w 265, 3) := by decide +kernel
theorem dJ6_bitCount_0f7a4_7 : decode cJ6_bitCount_0f7a4 7 = .ok (.iand, 1) := by decide +kernel
theorem dJ6_bitCount_0f7a4_8 : decode cJ6_bitCount_0f7a4 8 = .ok (.isub, 1) := by decide +kernel
theorem dJ6_bitCount_0f7a4_9 : decode cJ6_bitCount_0f7a4 9 = .ok (.istore_n 0, 1) := by decide +kernel
theorem dJ6_bitCount_0f7a4_10 : decode cJ6_bitCount_0f7a4 10 = .ok (.iload_n 0, 1) := by decide +kernel
theorem dJ6_bitCount_0f7a4_11 : decode cJ6_bitCount_0f7a4 11 = .ok (.ldc_w 266, 3) := by decide +kernel
theorem dJ6_bitCount_0f7a4_14 : decode cJ6_bitCount_0f7a4 14 = .ok (.iand, 1) := by decide +kernel
theorem dJ6_bitCount_0f7a4_15 : decode cJ6_bitCount_0f7a4 15 = .ok (.iload_n 0, 1) := by decide +kernel
theorem dJ6_bitCount_0f7a4_16 : decode cJ6_bitCount_0f7a4 16 = .ok (.iconst 2, 1) := by decide +kernel
theorem dJ6_bitCount_0f7a4_17 : decode cJ6_bitCount_0f7a4 17 = .ok (.iushr, 1) := by decide +kernel
theorem dJ6_bitCount_0f7a4_18 : decode cJ6_bitCount_0f7a4 18 = .ok (.ldc_w 266, 3) := by decide +kernel
theorem dJ6_bitCount_0f7a4_21 : decode cJ6_bitCount_0f7a4 21 = .ok (.iand, 1) := by decide +kernel
theorem dJ6_bitCount_0f7a4_22 : decode cJ6_bitCount_0f7a4 22 = .ok (.iadd, 1) := by decide +kernel
theorem dJ6_bitCount_0f7a4_23 : decode cJ6_bitCount_0f7a4 23 = .ok (.istore_n 0, 1) := by decide +kernel
theorem dJ6_bitCount_0f7a4_24 : decode cJ6_bitCount_0f7a4 24 = .ok (.iload_n 0, 1) := by decide +kernel
theorem dJ6_bitCount_0f7a4_25 : decode cJ6_bitCount_0f7a4 25 = .ok (.iload_n 0, 1) := by decide +kernel
theorem dJ6_bitCount_0f7a4_26 : decode cJ6_bitCount_0f7a4 26 = .ok (.iconst 4, 1) := by decide +kernel
theorem dJ6_bitCount_0f7a4_27 : decode cJ6_bitCount_0f7a4 27 = .ok (.iushr, 1) := by decide +kernel
theorem dJ6_bitCount_0f7a4_28 : decode cJ6_bitCount_0f7a4 28 = .ok (.iadd, 1) := by decide +kernel
theorem dJ6_bitCount_0f7a4_29 : decode cJ6_bitCount_0f7a4 29 = .ok (.ldc_w 267, 3) := by decide +kernel
theorem dJ6_bitCount_0f7a4_32 : decode cJ6_bitCount_0f7a4 32 = .ok (.iand, 1) := by decide +kernel
theorem dJ6_bitCount_0f7a4_33 : decode cJ6_bitCount_0f7a4 33 = .ok (.istore_n 0, 1) := by decide +kernel
theorem dJ6_bitCount_0f7a4_34 : decode cJ6_bitCount_0f7a4 34 = .ok (.iload_n 0, 1) := by decide +kernel
theorem dJ6_bitCount_0f7a4_35 : decode cJ6_bitCount_0f7a4 35 = .ok (.iload_n 0, 1) := by decide +kernel
theorem dJ6_bitCount_0f7a4_36 : decode cJ6_bitCount_0f7a4 36 = .ok (.bipush 8, 2) := by decide +kernel
theorem dJ6_bitCount_0f7a4_38 : decode cJ6_bitCount_0f7a4 38 = .ok (.iushr, 1) := by decide +kernel
theorem dJ6_bitCount_0f7a4_39 : decode cJ6_bitCount_0f7a4 39 = .ok (.iadd, 1) := by decide +kernel
theorem dJ6_bitCount_0f7a4_40 : decode cJ6_bitCount_0f7a4 40 = .ok (.istore_n 0, 1) := by decide +kernel
theorem dJ6_bitCount_0f7a4_41 : decode cJ6_bitCount_0f7a4 41 = .ok (.iload_n 0, 1) := by decide +kernel
theorem dJ6_bitCount_0f7a4_42 : decode cJ6_bitCount_0f7a4 42 = .ok (.iload_n 0, 1) := by decide +kernel
theorem dJ6_bitCount_0f7a4_43 : decode cJ6_bitCount_0f7a4 43 = .ok (.bipush 16, 2) := by decide +kernel
theorem dJ6_bitCount_0f7a4_45 : decode cJ6_bitCount_0f7a4 45 = .ok (.iushr, 1) := by decide +kernel
theorem dJ6_bitCount_0f7a4_46 : decode cJ6_bitCount_0f7a4 46 = .ok (.iadd, 1) := by decide +kernel
theorem dJ6_bitCount_0f7a4_47 : decode cJ6_bitCount_0f7a4 47 = .ok (.istore_n 0, 1) := by decide +kernel
theorem dJ6_bitCount_0f7a4_48 : decode cJ6_bitCount_0f7a4 48 = .ok (.iload_n 0, 1) := by decide +kernel
theorem dJ6_bitCount_0f7a4_49 : decode cJ6_bitCount_0f7a4 49 = .ok (.bipush 63, 2) := by decide +kernel
theorem dJ6_bitCount_0f7a4_51 : decode cJ6_bitCount_0f7a4 51 = .ok (.iand, 1) := by decide +kernel
theorem dJ6_bitCount_0f7a4_52 : decode cJ6_bitCount_0f7a4 52 = .ok (.ireturn, 1) := by decide +kernel
theorem dJ9_max_7cf53_0 : decode cJ9_max_7cf53 0 = .ok (.iload_n 0, 1) := by decide +kernel
theorem dJ9_max_7cf53_1 : decode cJ9_max_7cf53 1 = .ok (.iload_n 1, 1) := by decide +kernel
theorem dJ9_max_7cf53_2 : decode cJ9_max_7cf53 2 = .ok (.if_icmp .lt 7, 3) := by decide +kernel
theorem dJ9_max_7cf53_5 : decode cJ9_max_7cf53 5 = .ok (.iload_n 0, 1) := by decide +kernel
theorem dJ9_max_7cf53_6 : decode cJ9_max_7cf53 6 = .ok (.goto 4, 3) := by decide +kernel
theorem dJ9_max_7cf53_9 : decode cJ9_max_7cf53 9 = .ok (.iload_n 1, 1) := by decide +kernel
theorem dJ9_max_7cf53_10 : decode cJ9_max_7cf53 10 = .ok (.ireturn, 1) := by decide +kernel
theorem dJ9_min_7cf53_0 : decode cJ9_min_7cf53 0 = .ok (.iload_n 0, 1) := by decide +kernel
theorem dJ9_min_7cf53_1 : decode cJ9_min_7cf53 1 = .ok (.iload_n 1, 1) := by decide +kernel
theorem dJ9_min_7cf53_2 : decode cJ9_min_7cf53 2 = .ok (.if_icmp .gt 7, 3) := by decide +kernel
theorem dJ9_min_7cf53_5 : decode cJ9_min_7cf53 5 = .ok (.iload_n 0, 1) := by decide +kernel
theorem dJ9_min_7cf53_6 : decode cJ9_min_7cf53 6 = .ok (.goto 4, 3) := by decide +kernel
theorem dJ9_min_7cf53_9 : decode cJ9_min_7cf53 9 = .ok (.iload_n 1, 1) := by decide +kernel
theorem dJ9_min_7cf53_10 : decode cJ9_min_7cf53 10 = .ok (.ireturn, 1) := by decide +kernel
theorem dJ0_length_8abf5_0 : decode cJ0_length_8abf5 0 = .ok (.aload_n 0, 1) := by decide +kernel
theorem dJ0_length_8abf5_1 : decode cJ0_length_8abf5 1 = .ok (.getfield 9, 3) := by decide +kernel
theorem dJ0_length_8abf5_4 : decode cJ0_length_8abf5 4 = .ok (.arraylength, 1) := by decide +kernel
theorem dJ0_length_8abf5_5 : decode cJ0_length_8abf5 5 = .ok (.aload_n 0, 1) := by decide +kernel
theorem dJ0_length_8abf5_6 : decode cJ0_length_8abf5 6 = .ok (.invokevirtual 335, 3) := by decide +kernel
theorem dJ0_length_8abf5_9 : decode cJ0_length_8abf5 9 = .ok (.ishr, 1) := by decide +kernel
theorem dJ0_length_8abf5_10 : decode cJ0_length_8abf5 10 = .ok (.ireturn, 1) := by decide +kernel
theorem dJ0_charAt_5068e_0 : decode cJ0_charAt_5068e 0 = .ok (.aload_n 0, 1) := by decide +kernel
theorem dJ0_charAt_5068e_1 : decode cJ0_charAt_5068e 1 = .ok (.invokevirtual 492, 3) := by decide +kernel
theorem dJ0_charAt_5068e_4 : decode cJ0_charAt_5068e 4 = .ok (.ifCond .eq 12, 3) := by decide +kernel
theorem dJ0_charAt_5068e_7 : decode cJ0_charAt_5068e 7 = .ok (.aload_n 0, 1) := by decide +kernel
theorem dJ0_charAt_5068e_8 : decode cJ0_charAt_5068e 8 = .ok (.getfield 9, 3) := by decide +kernel
theorem dJ0_charAt_5068e_11 : decode cJ0_charAt_5068e 11 = .ok (.iload_n 1, 1) := by decide +kernel
theorem dJ0_charAt_5068e_12 : decode cJ0_charAt_5068e 12 = .ok (.invokestatic 495, 3) := by decide +kernel
theorem dJ0_charAt_5068e_15 : decode cJ0_charAt_5068e 15 = .ok (.ireturn, 1) := by decide +kernel
theorem dJ0_charAt_5068e_16 : decode cJ0_charAt_5068e 16 = .ok (.aload_n 0, 1) := by decide +kernel
theorem dJ0_charAt_5068e_17 : decode cJ0_charAt_5068e 17 = .ok (.getfield 9, 3) := by decide +kernel
theorem dJ0_charAt_5068e_20 : decode cJ0_charAt_5068e 20 = .ok (.iload_n 1, 1) := by decide +kernel
theorem dJ0_charAt_5068e_21 : decode cJ0_charAt_5068e 21 = .ok (.invokestatic 498, 3) := by decide +kernel
theorem dJ0_charAt_5068e_24 : decode cJ0_charAt_5068e 24 = .ok (.ireturn, 1) := by decide +kernel
theorem dJ0_coder_7d493_0 : decode cJ0_coder_7d493 0 = .ok (.getstatic 38, 3) := by decide +kernel
theorem dJ0_coder_7d493_3 : decode cJ0_coder_7d493 3 = .ok (.ifCond .eq 10, 3) := by decide +kernel
theorem dJ0_coder_7d493_6 : decode cJ0_coder_7d493 6 = .ok (.aload_n 0, 1) := by decide +kernel
theorem dJ0_coder_7d493_7 : decode cJ0_coder_7d493 7 = .ok (.getfield 15, 3) := by decide +kernel
theorem dJ0_coder_7d493_10 : decode cJ0_coder_7d493 10 = .ok (.goto 4, 3) := by decide +kernel
theorem dJ0_coder_7d493_13 : decode cJ0_coder_7d493 13 = .ok (.iconst 1, 1) := by decide +kernel
theorem dJ0_coder_7d493_14 : decode cJ0_coder_7d493 14 = .ok (.ireturn, 1) := by decide +kernel
theorem dJ0_isLatin1_aae02_0 : decode cJ0_isLatin1_aae02 0 = .ok (.getstatic 38, 3) := by decide +kernel
theorem dJ0_isLatin1_aae02_3 : decode cJ0_isLatin1_aae02 3 = .ok (.ifCond .eq 14, 3) := by decide +kernel
theorem dJ0_isLatin1_aae02_6 : decode cJ0_isLatin1_aae02 6 = .ok (.aload_n 0, 1) := by decide +kernel
theorem dJ0_isLatin1_aae02_7 : decode cJ0_isLatin1_aae02 7 = .ok (.getfield 15, 3) := by decide +kernel
theorem dJ0_isLatin1_aae02_10 : decode cJ0_isLatin1_aae02 10 = .ok (.ifCond .ne 7, 3) := by decide +kernel
theorem dJ0_isLatin1_aae02_13 : decode cJ0_isLatin1_aae02 13 = .ok (.iconst 1, 1) := by decide +kernel
theorem dJ0_isLatin1_aae02_14 : decode cJ0_isLatin1_aae02 14 = .ok (.goto 4, 3) := by decide +kernel
theorem dJ0_isLatin1_aae02_17 : decode cJ0_isLatin1_aae02 17 = .ok (.iconst 0, 1) := by decide +kernel
theorem dJ0_isLatin1_aae02_18 : decode cJ0_isLatin1_aae02 18 = .ok (.ireturn, 1) := by decide +kernel
theorem dJ0_checkIndex_df160_0 : decode cJ0_checkIndex_df160 0 = .ok (.iload_n 0, 1) := by decide +kernel
theorem dJ0_checkIndex_df160_1 : decode cJ0_checkIndex_df160 1 = .ok (.iload_n 1, 1) := by decide +kernel
theorem dJ0_checkIndex_df160_2 : decode cJ0_checkIndex_df160 2 = .ok (.getstatic 1053, 3) := by decide +kernel
theorem dJ0_checkIndex_df160_5 : decode cJ0_checkIndex_df160 5 = .ok (.invokestatic 1059, 3) := by decide +kernel
theorem dJ0_checkIndex_df160_8 : decode cJ0_checkIndex_df160 8 = .ok (.pop, 1) := by decide +kernel
theorem dJ0_checkIndex_df160_9 : decode cJ0_checkIndex_df160 9 = .ok (.return_, 1) := by decide +kernel
theorem dJ1_charAt_3b067_0 : decode cJ1_charAt_3b067 0 = .ok (.iload_n 1, 1) := by decide +kernel
theorem dJ1_charAt_3b067_1 : decode cJ1_charAt_3b067 1 = .ok (.aload_n 0, 1) := by decide +kernel
theorem dJ1_charAt_3b067_2 : decode cJ1_charAt_3b067 2 = .ok (.arraylength, 1) := by decide +kernel
theorem dJ1_charAt_3b067_3 : decode cJ1_charAt_3b067 3 = .ok (.invokestatic 9, 3) := by decide +kernel
theorem dJ1_charAt_3b067_6 : decode cJ1_charAt_3b067 6 = .ok (.aload_n 0, 1) := by decide +kernel
theorem dJ1_charAt_3b067_7 : decode cJ1_charAt_3b067 7 = .ok (.iload_n 1, 1) := by decide +kernel
theorem dJ1_charAt_3b067_8 : decode cJ1_charAt_3b067 8 = .ok (.baload, 1) := by decide +kernel
theorem dJ1_charAt_3b067_9 : decode cJ1_charAt_3b067 9 = .ok (.sipush 255, 3) := by decide +kernel
theorem dJ1_charAt_3b067_12 : decode cJ1_charAt_3b067 12 = .ok (.iand, 1) := by decide +kernel
theorem dJ1_charAt_3b067_13 : decode cJ1_charAt_3b067 13 = .ok (.i2c, 1) := by decide +kernel
theorem dJ1_charAt_3b067_14 : decode cJ1_charAt_3b067 14 = .ok (.ireturn, 1) := by decide +kernel
theorem dJ2_getChar_3b067_0 : decode cJ2_getChar_3b067 0 = .ok (.getstatic 44, 3) := by decide +kernel
theorem dJ2_getChar_3b067_3 : decode cJ2_getChar_3b067 3 = .ok (.ifCond .ne 25, 3) := by decide +kernel
theorem dJ2_getChar_3b067_6 : decode cJ2_getChar_3b067 6 = .ok (.iload_n 1, 1) := by decide +kernel
theorem dJ2_getChar_3b067_7 : decode cJ2_getChar_3b067 7 = .ok (.ifCond .lt 11, 3) := by decide +kernel
theorem dJ2_getChar_3b067_10 : decode cJ2_getChar_3b067 10 = .ok (.iload_n 1, 1) := by decide +kernel
theorem dJ2_getChar_3b067_11 : decode cJ2_getChar_3b067 11 = .ok (.aload_n 0, 1) := by decide +kernel
theorem dJ2_getChar_3b067_12 : decode cJ2_getChar_3b067 12 = .ok (.invokestatic 48, 3) := by decide +kernel
theorem dJ2_getChar_3b067_15 : decode cJ2_getChar_3b067 15 = .ok (.if_icmp .lt 13, 3) := by decide +kernel
theorem dJ2_getChar_3b067_18 : decode cJ2_getChar_3b067 18 = .ok (.new 52, 3) := by decide +kernel
theorem dJ2_getChar_3b067_21 : decode cJ2_getChar_3b067 21 = .ok (.dup, 1) := by decide +kernel
theorem dJ2_getChar_3b067_22 : decode cJ2_getChar_3b067 22 = .ok (.ldc 54, 2) := by decide +kernel
theorem dJ2_getChar_3b067_24 : decode cJ2_getChar_3b067 24 = .ok (.invokespecial 56, 3) := by decide +kernel
theorem dJ2_getChar_3b067_27 : decode cJ2_getChar_3b067 27 = .ok (.athrow, 1) := by decide +kernel
theorem dJ2_getChar_3b067_28 : decode cJ2_getChar_3b067 28 = .ok (.iload_n 1, 1) := by decide +kernel
theorem dJ2_getChar_3b067_29 : decode cJ2_getChar_3b067 29 = .ok (.iconst 1, 1) := by decide +kernel
theorem dJ2_getChar_3b067_30 : decode cJ2_getChar_3b067 30 = .ok (.ishl, 1) := by decide +kernel
theorem dJ2_getChar_3b067_31 : decode cJ2_getChar_3b067 31 = .ok (.istore_n 1, 1) := by decide +kernel
theorem dJ2_getChar_3b067_32 : decode cJ2_getChar_3b067 32 = .ok (.aload_n 0, 1) := by decide +kernel
theorem dJ2_getChar_3b067_33 : decode cJ2_getChar_3b067 33 = .ok (.iload_n 1, 1) := by decide +kernel
theorem dJ2_getChar_3b067_34 : decode cJ2_getChar_3b067 34 = .ok (.iinc 1 1, 3) := by decide +kernel
theorem dJ2_getChar_3b067_37 : decode cJ2_getChar_3b067 37 = .ok (.baload, 1) := by decide +kernel
theorem dJ2_getChar_3b067_38 : decode cJ2_getChar_3b067 38 = .ok (.sipush 255, 3) := by decide +kernel
theorem dJ2_getChar_3b067_41 : decode cJ2_getChar_3b067 41 = .ok (.iand, 1) := by decide +kernel
theorem dJ2_getChar_3b067_42 : decode cJ2_getChar_3b067 42 = .ok (.getstatic 59, 3) := by decide +kernel
theorem dJ2_getChar_3b067_45 : decode cJ2_getChar_3b067 45 = .ok (.ishl, 1) := by decide +kernel
theorem dJ2_getChar_3b067_46 : decode cJ2_getChar_3b067 46 = .ok (.aload_n 0, 1) := by decide +kernel
theorem dJ2_getChar_3b067_47 : decode cJ2_getChar_3b067 47 = .ok (.iload_n 1, 1) := by decide +kernel
theorem dJ2_getChar_3b067_48 : decode cJ2_getChar_3b067 48 = .ok (.baload, 1) := by decide +kernel
theorem dJ2_getChar_3b067_49 : decode cJ2_getChar_3b067 49 = .ok (.sipush 255, 3) := by decide +kernel
theorem dJ2_getChar_3b067_52 : decode cJ2_getChar_3b067 52 = .ok (.iand, 1) := by decide +kernel
theorem dJ2_getChar_3b067_53 : decode cJ2_getChar_3b067 53 = .ok (.getstatic 63, 3) := by decide +kernel
theorem dJ2_getChar_3b067_56 : decode cJ2_getChar_3b067 56 = .ok (.ishl, 1) := by decide +kernel
theorem dJ2_getChar_3b067_57 : decode cJ2_getChar_3b067 57 = .ok (.ior, 1) := by decide +kernel
theorem dJ2_getChar_3b067_58 : decode cJ2_getChar_3b067 58 = .ok (.i2c, 1) := by decide +kernel
theorem dJ2_getChar_3b067_59 : decode cJ2_getChar_3b067 59 = .ok (.ireturn, 1) := by decide +kernel
theorem dJ2_length_9d52b_0 : decode cJ2_length_9d52b 0 = .ok (.aload_n 0, 1) := by decide +kernel
theorem dJ2_length_9d52b_1 : decode cJ2_length_9d52b 1 = .ok (.arraylength, 1) := by decide +kernel
theorem dJ2_length_9d52b_2 : decode cJ2_length_9d52b 2 = .ok (.iconst 1, 1) := by decide +kernel
theorem dJ2_length_9d52b_3 : decode cJ2_length_9d52b 3 = .ok (.ishr, 1) := by decide +kernel
theorem dJ2_length_9d52b_4 : decode cJ2_length_9d52b 4 = .ok (.ireturn, 1) := by decide +kernel
theorem dJ2_charAt_3b067_0 : decode cJ2_charAt_3b067 0 = .ok (.iload_n 1, 1) := by decide +kernel
theorem dJ2_charAt_3b067_1 : decode cJ2_charAt_3b067 1 = .ok (.aload_n 0, 1) := by decide +kernel
theorem dJ2_charAt_3b067_2 : decode cJ2_charAt_3b067 2 = .ok (.invokestatic 67, 3) := by decide +kernel
theorem dJ2_charAt_3b067_5 : decode cJ2_charAt_3b067 5 = .ok (.aload_n 0, 1) := by decide +kernel
theorem dJ2_charAt_3b067_6 : decode cJ2_charAt_3b067 6 = .ok (.iload_n 1, 1) := by decide +kernel
theorem dJ2_charAt_3b067_7 : decode cJ2_charAt_3b067 7 = .ok (.invokestatic 71, 3) := by decide +kernel
theorem dJ2_charAt_3b067_10 : decode cJ2_charAt_3b067 10 = .ok (.ireturn, 1) := by decide +kernel
theorem dJ2_checkIndex_2214a_0 : decode cJ2_checkIndex_2214a 0 = .ok (.iload_n 0, 1) := by decide +kernel
theorem dJ2_checkIndex_2214a_1 : decode cJ2_checkIndex_2214a 1 = .ok (.aload_n 1, 1) := by decide +kernel
theorem dJ2_checkIndex_2214a_2 : decode cJ2_checkIndex_2214a 2 = .ok (.invokestatic 48, 3) := by decide +kernel
theorem dJ2_checkIndex_2214a_5 : decode cJ2_checkIndex_2214a 5 = .ok (.invokestatic 414, 3) := by decide +kernel
theorem dJ2_checkIndex_2214a_8 : decode cJ2_checkIndex_2214a 8 = .ok (.return_, 1) := by decide +kernel
theorem dJ7_fill_d0a16_0 : decode cJ7_fill_d0a16 0 = .ok (.iconst 0, 1) := by decide +kernel
theorem dJ7_fill_d0a16_1 : decode cJ7_fill_d0a16 1 = .ok (.istore_n 3, 1) := by decide +kernel
theorem dJ7_fill_d0a16_2 : decode cJ7_fill_d0a16 2 = .ok (.aload_n 0, 1) := by decide +kernel
theorem dJ7_fill_d0a16_3 : decode cJ7_fill_d0a16 3 = .ok (.arraylength, 1) := by decide +kernel
theorem dJ7_fill_d0a16_4 : decode cJ7_fill_d0a16 4 = .ok (.istore 4, 2) := by decide +kernel
theorem dJ7_fill_d0a16_6 : decode cJ7_fill_d0a16 6 = .ok (.iload_n 3, 1) := by decide +kernel
theorem dJ7_fill_d0a16_7 : decode cJ7_fill_d0a16 7 = .ok (.iload 4, 2) := by decide +kernel
theorem dJ7_fill_d0a16_9 : decode cJ7_fill_d0a16 9 = .ok (.if_icmp .ge 13, 3) := by decide +kernel
theorem dJ7_fill_d0a16_12 : decode cJ7_fill_d0a16 12 = .ok (.aload_n 0, 1) := by decide +kernel
theorem dJ7_fill_d0a16_13 : decode cJ7_fill_d0a16 13 = .ok (.iload_n 3, 1) := by decide +kernel
theorem dJ7_fill_d0a16_14 : decode cJ7_fill_d0a16 14 = .ok (.lload_n 1, 1) := by decide +kernel
theorem dJ7_fill_d0a16_15 : decode cJ7_fill_d0a16 15 = .ok (.lastore, 1) := by decide +kernel
theorem dJ7_fill_d0a16_16 : decode cJ7_fill_d0a16 16 = .ok (.iinc 3 1, 3) := by decide +kernel
theorem dJ7_fill_d0a16_19 : decode cJ7_fill_d0a16 19 = .ok (.goto (-13), 3) := by decide +kernel
theorem dJ7_fill_d0a16_22 : decode cJ7_fill_d0a16 22 = .ok (.return_, 1) := by decide +kernel
theorem dJ7_fill_53178_0 : decode cJ7_fill_53178 0 = .ok (.iconst 0, 1) := by decide +kernel
theorem dJ7_fill_53178_1 : decode cJ7_fill_53178 1 = .ok (.istore_n 2, 1) := by decide +kernel
theorem dJ7_fill_53178_2 : decode cJ7_fill_53178 2 = .ok (.aload_n 0, 1) := by decide +kernel
theorem dJ7_fill_53178_3 : decode cJ7_fill_53178 3 = .ok (.arraylength, 1) := by decide +kernel
theorem dJ7_fill_53178_4 : decode cJ7_fill_53178 4 = .ok (.istore_n 3, 1) := by decide +kernel
theorem dJ7_fill_53178_5 : decode cJ7_fill_53178 5 = .ok (.iload_n 2, 1) := by decide +kernel
theorem dJ7_fill_53178_6 : decode cJ7_fill_53178 6 = .ok (.iload_n 3, 1) := by decide +kernel
theorem dJ7_fill_53178_7 : decode cJ7_fill_53178 7 = .ok (.if_icmp .ge 13, 3) := by decide +kernel
theorem dJ7_fill_53178_10 : decode cJ7_fill_53178 10 = .ok (.aload_n 0, 1) := by decide +kernel
theorem dJ7_fill_53178_11 : decode cJ7_fill_53178 11 = .ok (.iload_n 2, 1) := by decide +kernel
theorem dJ7_fill_53178_12 : decode cJ7_fill_53178 12 = .ok (.iload_n 1, 1) := by decide +kernel
theorem dJ7_fill_53178_13 : decode cJ7_fill_53178 13 = .ok (.iastore, 1) := by decide +kernel
theorem dJ7_fill_53178_14 : decode cJ7_fill_53178 14 = .ok (.iinc 2 1, 3) := by decide +kernel
theorem dJ7_fill_53178_17 : decode cJ7_fill_53178 17 = .ok (.goto (-12), 3) := by decide +kernel
theorem dJ7_fill_53178_20 : decode cJ7_fill_53178 20 = .ok (.return_, 1) := by decide +kernel
theorem dJ3_checkIndex_8e157_0 : decode cJ3_checkIndex_8e157 0 = .ok (.iload_n 0, 1) := by decide +kernel
theorem dJ3_checkIndex_8e157_1 : decode cJ3_checkIndex_8e157 1 = .ok (.ifCond .lt 8, 3) := by decide +kernel
theorem dJ3_checkIndex_8e157_4 : decode cJ3_checkIndex_8e157 4 = .ok (.iload_n 0, 1) := by decide +kernel
theorem dJ3_checkIndex_8e157_5 : decode cJ3_checkIndex_8e157 5 = .ok (.iload_n 1, 1) := by decide +kernel
theorem dJ3_checkIndex_8e157_6 : decode cJ3_checkIndex_8e157 6 = .ok (.if_icmp .lt 10, 3) := by decide +kernel
theorem dJ3_checkIndex_8e157_9 : decode cJ3_checkIndex_8e157 9 = .ok (.aload_n 2, 1) := by decide +kernel
theorem dJ3_checkIndex_8e157_10 : decode cJ3_checkIndex_8e157 10 = .ok (.iload_n 0, 1) := by decide +kernel
theorem dJ3_checkIndex_8e157_11 : decode cJ3_checkIndex_8e157 11 = .ok (.iload_n 1, 1) := by decide +kernel
theorem dJ3_checkIndex_8e157_12 : decode cJ3_checkIndex_8e157 12 = .ok (.invokestatic 95, 3) := by decide +kernel
theorem dJ3_checkIndex_8e157_15 : decode cJ3_checkIndex_8e157 15 = .ok (.athrow, 1) := by decide +kernel
theorem dJ3_checkIndex_8e157_16 : decode cJ3_checkIndex_8e157 16 = .ok (.iload_n 0, 1) := by decide +kernel
theorem dJ3_checkIndex_8e157_17 : decode cJ3_checkIndex_8e157 17 = .ok (.ireturn, 1) := by decide +kernel
