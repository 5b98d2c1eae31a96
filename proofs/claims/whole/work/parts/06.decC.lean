theorem dX6_init_0 : decode cX6_init 0 = .ok (.aload_n 0, 1) := by decide +kernel
theorem dX6_init_1 : decode cX6_init 1 = .ok (.invokespecial 3, 3) := by decide +kernel
theorem dX6_init_4 : decode cX6_init 4 = .ok (.aload_n 0, 1) := by decide +kernel
theorem dX6_init_5 : decode cX6_init 5 = .ok (.iconst 3, 1) := by decide +kernel
theorem dX6_init_6 : decode cX6_init 6 = .ok (.newarray .int, 2) := by decide +kernel
theorem dX6_init_8 : decode cX6_init 8 = .ok (.putfield 9, 3) := by decide +kernel
theorem dX6_init_11 : decode cX6_init 11 = .ok (.aload_n 0, 1) := by decide +kernel
theorem dX6_init_12 : decode cX6_init 12 = .ok (.iconst (-1), 1) := by decide +kernel
theorem dX6_init_13 : decode cX6_init 13 = .ok (.putfield 13, 3) := by decide +kernel
theorem dX6_init_16 : decode cX6_init 16 = .ok (.aload_n 0, 1) := by decide +kernel
theorem dX6_init_17 : decode cX6_init 17 = .ok (.sipush 500, 3) := by decide +kernel
theorem dX6_init_20 : decode cX6_init 20 = .ok (.newarray .int, 2) := by decide +kernel
theorem dX6_init_22 : decode cX6_init 22 = .ok (.putfield 17, 3) := by decide +kernel
theorem dX6_init_25 : decode cX6_init 25 = .ok (.aload_n 0, 1) := by decide +kernel
theorem dX6_init_26 : decode cX6_init 26 = .ok (.sipush 157, 3) := by decide +kernel
theorem dX6_init_29 : decode cX6_init 29 = .ok (.newarray .int, 2) := by decide +kernel
theorem dX6_init_31 : decode cX6_init 31 = .ok (.putfield 20, 3) := by decide +kernel
theorem dX6_init_34 : decode cX6_init 34 = .ok (.aload_n 0, 1) := by decide +kernel
theorem dX6_init_35 : decode cX6_init 35 = .ok (.sipush 157, 3) := by decide +kernel
theorem dX6_init_38 : decode cX6_init 38 = .ok (.newarray .int, 2) := by decide +kernel
theorem dX6_init_40 : decode cX6_init 40 = .ok (.putfield 23, 3) := by decide +kernel
theorem dX6_init_43 : decode cX6_init 43 = .ok (.aload_n 0, 1) := by decide +kernel
theorem dX6_init_44 : decode cX6_init 44 = .ok (.bipush 8, 2) := by decide +kernel
theorem dX6_init_46 : decode cX6_init 46 = .ok (.sipush 157, 3) := by decide +kernel
theorem dX6_init_49 : decode cX6_init 49 = .ok (.multianewarray 26 2, 4) := by decide +kernel
theorem dX6_init_53 : decode cX6_init 53 = .ok (.putfield 28, 3) := by decide +kernel
theorem dX6_init_56 : decode cX6_init 56 = .ok (.aload_n 0, 1) := by decide +kernel
theorem dX6_init_57 : decode cX6_init 57 = .ok (.sipush 500, 3) := by decide +kernel
theorem dX6_init_60 : decode cX6_init 60 = .ok (.newarray .int, 2) := by decide +kernel
theorem dX6_init_62 : decode cX6_init 62 = .ok (.putfield 31, 3) := by decide +kernel
theorem dX6_init_65 : decode cX6_init 65 = .ok (.aload_n 0, 1) := by decide +kernel
theorem dX6_init_66 : decode cX6_init 66 = .ok (.sipush 4096, 3) := by decide +kernel
theorem dX6_init_69 : decode cX6_init 69 = .ok (.newarray .int, 2) := by decide +kernel
theorem dX6_init_71 : decode cX6_init 71 = .ok (.putfield 34, 3) := by decide +kernel
theorem dX6_init_74 : decode cX6_init 74 = .ok (.aload_n 0, 1) := by decide +kernel
theorem dX6_init_75 : decode cX6_init 75 = .ok (.sipush 4096, 3) := by decide +kernel
theorem dX6_init_78 : decode cX6_init 78 = .ok (.newarray .int, 2) := by decide +kernel
theorem dX6_init_80 : decode cX6_init 80 = .ok (.putfield 37, 3) := by decide +kernel
theorem dX6_init_83 : decode cX6_init 83 = .ok (.aload_n 0, 1) := by decide +kernel
theorem dX6_init_84 : decode cX6_init 84 = .ok (.sipush 4096, 3) := by decide +kernel
theorem dX6_init_87 : decode cX6_init 87 = .ok (.newarray .int, 2) := by decide +kernel
theorem dX6_init_89 : decode cX6_init 89 = .ok (.putfield 40, 3) := by decide +kernel
theorem dX6_init_92 : decode cX6_init 92 = .ok (.aload_n 0, 1) := by decide +kernel
theorem dX6_init_93 : decode cX6_init 93 = .ok (.sipush 4096, 3) := by decide +kernel
theorem dX6_init_96 : decode cX6_init 96 = .ok (.newarray .long, 2) := by decide +kernel
theorem dX6_init_98 : decode cX6_init 98 = .ok (.putfield 43, 3) := by decide +kernel
theorem dX6_init_101 : decode cX6_init 101 = .ok (.aload_n 0, 1) := by decide +kernel
theorem dX6_init_102 : decode cX6_init 102 = .ok (.bipush 12, 2) := by decide +kernel
theorem dX6_init_104 : decode cX6_init 104 = .ok (.newarray .int, 2) := by decide +kernel
theorem dX6_init_106 : decode cX6_init 106 = .ok (.putfield 47, 3) := by decide +kernel
theorem dX6_init_109 : decode cX6_init 109 = .ok (.aload_n 0, 1) := by decide +kernel
theorem dX6_init_110 : decode cX6_init 110 = .ok (.ldc 50, 2) := by decide +kernel
theorem dX6_init_112 : decode cX6_init 112 = .ok (.newarray .boolean, 2) := by decide +kernel
theorem dX6_init_114 : decode cX6_init 114 = .ok (.putfield 51, 3) := by decide +kernel
theorem dX6_init_117 : decode cX6_init 117 = .ok (.aload_n 0, 1) := by decide +kernel
theorem dX6_init_118 : decode cX6_init 118 = .ok (.bipush 13, 2) := by decide +kernel
theorem dX6_init_120 : decode cX6_init 120 = .ok (.newarray .int, 2) := by decide +kernel
theorem dX6_init_122 : decode cX6_init 122 = .ok (.putfield 55, 3) := by decide +kernel
theorem dX6_init_125 : decode cX6_init 125 = .ok (.aload_n 0, 1) := by decide +kernel
theorem dX6_init_126 : decode cX6_init 126 = .ok (.bipush 12, 2) := by decide +kernel
theorem dX6_init_128 : decode cX6_init 128 = .ok (.newarray .int, 2) := by decide +kernel
theorem dX6_init_130 : decode cX6_init 130 = .ok (.putfield 58, 3) := by decide +kernel
theorem dX6_init_133 : decode cX6_init 133 = .ok (.aload_n 0, 1) := by decide +kernel
theorem dX6_init_134 : decode cX6_init 134 = .ok (.getfield 20, 3) := by decide +kernel
theorem dX6_init_137 : decode cX6_init 137 = .ok (.invokestatic 61, 3) := by decide +kernel
theorem dX6_init_140 : decode cX6_init 140 = .ok (.aload_n 0, 1) := by decide +kernel
theorem dX6_init_141 : decode cX6_init 141 = .ok (.getfield 20, 3) := by decide +kernel
theorem dX6_init_144 : decode cX6_init 144 = .ok (.iconst 0, 1) := by decide +kernel
theorem dX6_init_145 : decode cX6_init 145 = .ok (.iconst 2, 1) := by decide +kernel
theorem dX6_init_146 : decode cX6_init 146 = .ok (.iastore, 1) := by decide +kernel
theorem dX6_init_147 : decode cX6_init 147 = .ok (.aload_n 0, 1) := by decide +kernel
theorem dX6_init_148 : decode cX6_init 148 = .ok (.getfield 20, 3) := by decide +kernel
theorem dX6_init_151 : decode cX6_init 151 = .ok (.iconst 0, 1) := by decide +kernel
theorem dX6_init_152 : decode cX6_init 152 = .ok (.iconst 1, 1) := by decide +kernel
theorem dX6_init_153 : decode cX6_init 153 = .ok (.iconst 1, 1) := by decide +kernel
theorem dX6_init_154 : decode cX6_init 154 = .ok (.invokestatic 65, 3) := by decide +kernel
theorem dX6_init_157 : decode cX6_init 157 = .ok (.aload_n 0, 1) := by decide +kernel
theorem dX6_init_158 : decode cX6_init 158 = .ok (.invokevirtual 69, 3) := by decide +kernel
theorem dX6_init_161 : decode cX6_init 161 = .ok (.return_, 1) := by decide +kernel
theorem dX6_begins_0 : decode cX6_begins 0 = .ok (.iconst 0, 1) := by decide +kernel
theorem dX6_begins_1 : decode cX6_begins 1 = .ok (.istore_n 1, 1) := by decide +kernel
theorem dX6_begins_2 : decode cX6_begins 2 = .ok (.iload_n 1, 1) := by decide +kernel
theorem dX6_begins_3 : decode cX6_begins 3 = .ok (.sipush 157, 3) := by decide +kernel
theorem dX6_begins_6 : decode cX6_begins 6 = .ok (.if_icmp .ge 13, 3) := by decide +kernel
theorem dX6_begins_9 : decode cX6_begins 9 = .ok (.aload_n 0, 1) := by decide +kernel
theorem dX6_begins_10 : decode cX6_begins 10 = .ok (.iload_n 1, 1) := by decide +kernel
theorem dX6_begins_11 : decode cX6_begins 11 = .ok (.iconst (-1), 1) := by decide +kernel
theorem dX6_begins_12 : decode cX6_begins 12 = .ok (.iastore, 1) := by decide +kernel
theorem dX6_begins_13 : decode cX6_begins 13 = .ok (.iinc 1 1, 3) := by decide +kernel
theorem dX6_begins_16 : decode cX6_begins 16 = .ok (.goto (-14), 3) := by decide +kernel
theorem dX6_begins_19 : decode cX6_begins 19 = .ok (.return_, 1) := by decide +kernel
theorem dX6_thrown_0 : decode cX6_thrown 0 = .ok (.aload_n 0, 1) := by decide +kernel
theorem dX6_thrown_1 : decode cX6_thrown 1 = .ok (.getfield 72, 3) := by decide +kernel
theorem dX6_thrown_4 : decode cX6_thrown 4 = .ok (.ireturn, 1) := by decide +kernel
theorem dX6_bad_0 : decode cX6_bad 0 = .ok (.iload_n 1, 1) := by decide +kernel
theorem dX6_bad_1 : decode cX6_bad 1 = .ok (.ifCond .eq 25, 3) := by decide +kernel
theorem dX6_bad_4 : decode cX6_bad 4 = .ok (.aload_n 0, 1) := by decide +kernel
theorem dX6_bad_5 : decode cX6_bad 5 = .ok (.getfield 72, 3) := by decide +kernel
theorem dX6_bad_8 : decode cX6_bad 8 = .ok (.ifCond .ne 18, 3) := by decide +kernel
theorem dX6_bad_11 : decode cX6_bad 11 = .ok (.aload_n 0, 1) := by decide +kernel
theorem dX6_bad_12 : decode cX6_bad 12 = .ok (.iload_n 2, 1) := by decide +kernel
theorem dX6_bad_13 : decode cX6_bad 13 = .ok (.putfield 72, 3) := by decide +kernel
theorem dX6_bad_16 : decode cX6_bad 16 = .ok (.aload_n 0, 1) := by decide +kernel
theorem dX6_bad_17 : decode cX6_bad 17 = .ok (.getfield 9, 3) := by decide +kernel
theorem dX6_bad_20 : decode cX6_bad 20 = .ok (.iload_n 3, 1) := by decide +kernel
theorem dX6_bad_21 : decode cX6_bad 21 = .ok (.dup2, 1) := by decide +kernel
theorem dX6_bad_22 : decode cX6_bad 22 = .ok (.iaload, 1) := by decide +kernel
theorem dX6_bad_23 : decode cX6_bad 23 = .ok (.iconst 1, 1) := by decide +kernel
theorem dX6_bad_24 : decode cX6_bad 24 = .ok (.iadd, 1) := by decide +kernel
theorem dX6_bad_25 : decode cX6_bad 25 = .ok (.iastore, 1) := by decide +kernel
theorem dX6_bad_26 : decode cX6_bad 26 = .ok (.aload_n 0, 1) := by decide +kernel
theorem dX6_bad_27 : decode cX6_bad 27 = .ok (.getfield 72, 3) := by decide +kernel
theorem dX6_bad_30 : decode cX6_bad 30 = .ok (.ifCond .eq 7, 3) := by decide +kernel
theorem dX6_bad_33 : decode cX6_bad 33 = .ok (.iconst 1, 1) := by decide +kernel
theorem dX6_bad_34 : decode cX6_bad 34 = .ok (.goto 4, 3) := by decide +kernel
theorem dX6_bad_37 : decode cX6_bad 37 = .ok (.iconst 0, 1) := by decide +kernel
theorem dX6_bad_38 : decode cX6_bad 38 = .ok (.ireturn, 1) := by decide +kernel
theorem dX6_in_0 : decode cX6_in 0 = .ok (.iload_n 0, 1) := by decide +kernel
theorem dX6_in_1 : decode cX6_in 1 = .ok (.iload_n 1, 1) := by decide +kernel
theorem dX6_in_2 : decode cX6_in 2 = .ok (.if_icmp .lt 12, 3) := by decide +kernel
theorem dX6_in_5 : decode cX6_in 5 = .ok (.iload_n 0, 1) := by decide +kernel
theorem dX6_in_6 : decode cX6_in 6 = .ok (.iload_n 2, 1) := by decide +kernel
theorem dX6_in_7 : decode cX6_in 7 = .ok (.if_icmp .gt 7, 3) := by decide +kernel
theorem dX6_in_10 : decode cX6_in 10 = .ok (.iconst 1, 1) := by decide +kernel
theorem dX6_in_11 : decode cX6_in 11 = .ok (.goto 4, 3) := by decide +kernel
theorem dX6_in_14 : decode cX6_in 14 = .ok (.iconst 0, 1) := by decide +kernel
theorem dX6_in_15 : decode cX6_in 15 = .ok (.ireturn, 1) := by decide +kernel
theorem dX6_less_0 : decode cX6_less 0 = .ok (.iload_n 0, 1) := by decide +kernel
theorem dX6_less_1 : decode cX6_less 1 = .ok (.iload_n 1, 1) := by decide +kernel
theorem dX6_less_2 : decode cX6_less 2 = .ok (.if_icmp .ge 7, 3) := by decide +kernel
theorem dX6_less_5 : decode cX6_less 5 = .ok (.iload_n 0, 1) := by decide +kernel
theorem dX6_less_6 : decode cX6_less 6 = .ok (.goto 4, 3) := by decide +kernel
theorem dX6_less_9 : decode cX6_less 9 = .ok (.iload_n 1, 1) := by decide +kernel
theorem dX6_less_10 : decode cX6_less 10 = .ok (.ireturn, 1) := by decide +kernel
theorem dX6_feed_0 : decode cX6_feed 0 = .ok (.aload_n 0, 1) := by decide +kernel
theorem dX6_feed_1 : decode cX6_feed 1 = .ok (.iconst 0, 1) := by decide +kernel
theorem dX6_feed_2 : decode cX6_feed 2 = .ok (.putfield 72, 3) := by decide +kernel
theorem dX6_feed_5 : decode cX6_feed 5 = .ok (.aload_n 0, 1) := by decide +kernel
theorem dX6_feed_6 : decode cX6_feed 6 = .ok (.getfield 75, 3) := by decide +kernel
theorem dX6_feed_9 : decode cX6_feed 9 = .ok (.bipush 20, 2) := by decide +kernel
theorem dX6_feed_11 : decode cX6_feed 11 = .ok (.iadd, 1) := by decide +kernel
theorem dX6_feed_12 : decode cX6_feed 12 = .ok (.sipush 500, 3) := by decide +kernel
theorem dX6_feed_15 : decode cX6_feed 15 = .ok (.if_icmp .le 5, 3) := by decide +kernel
theorem dX6_feed_18 : decode cX6_feed 18 = .ok (.iconst (-1), 1) := by decide +kernel
theorem dX6_feed_19 : decode cX6_feed 19 = .ok (.ireturn, 1) := by decide +kernel
theorem dX6_feed_20 : decode cX6_feed 20 = .ok (.iconst 0, 1) := by decide +kernel
theorem dX6_feed_21 : decode cX6_feed 21 = .ok (.istore 6, 2) := by decide +kernel
theorem dX6_feed_23 : decode cX6_feed 23 = .ok (.iload 6, 2) := by decide +kernel
theorem dX6_feed_25 : decode cX6_feed 25 = .ok (.bipush 20, 2) := by decide +kernel
theorem dX6_feed_27 : decode cX6_feed 27 = .ok (.if_icmp .ge 93, 3) := by decide +kernel
theorem dX6_feed_30 : decode cX6_feed 30 = .ok (.iload 6, 2) := by decide +kernel
theorem dX6_feed_32 : decode cX6_feed 32 = .ok (.iconst 4, 1) := by decide +kernel
theorem dX6_feed_33 : decode cX6_feed 33 = .ok (.if_icmp .ge 7, 3) := by decide +kernel
theorem dX6_feed_36 : decode cX6_feed 36 = .ok (.iload_n 1, 1) := by decide +kernel
theorem dX6_feed_37 : decode cX6_feed 37 = .ok (.goto 39, 3) := by decide +kernel
theorem dX6_feed_40 : decode cX6_feed 40 = .ok (.iload 6, 2) := by decide +kernel
theorem dX6_feed_42 : decode cX6_feed 42 = .ok (.bipush 8, 2) := by decide +kernel
theorem dX6_feed_44 : decode cX6_feed 44 = .ok (.if_icmp .ge 7, 3) := by decide +kernel
theorem dX6_feed_47 : decode cX6_feed 47 = .ok (.iload_n 2, 1) := by decide +kernel
theorem dX6_feed_48 : decode cX6_feed 48 = .ok (.goto 28, 3) := by decide +kernel
theorem dX6_feed_51 : decode cX6_feed 51 = .ok (.iload 6, 2) := by decide +kernel
theorem dX6_feed_53 : decode cX6_feed 53 = .ok (.bipush 12, 2) := by decide +kernel
theorem dX6_feed_55 : decode cX6_feed 55 = .ok (.if_icmp .ge 7, 3) := by decide +kernel
theorem dX6_feed_58 : decode cX6_feed 58 = .ok (.iload_n 3, 1) := by decide +kernel
theorem dX6_feed_59 : decode cX6_feed 59 = .ok (.goto 17, 3) := by decide +kernel
theorem dX6_feed_62 : decode cX6_feed 62 = .ok (.iload 6, 2) := by decide +kernel
theorem dX6_feed_64 : decode cX6_feed 64 = .ok (.bipush 16, 2) := by decide +kernel
theorem dX6_feed_66 : decode cX6_feed 66 = .ok (.if_icmp .ge 8, 3) := by decide +kernel
theorem dX6_feed_69 : decode cX6_feed 69 = .ok (.iload 4, 2) := by decide +kernel
theorem dX6_feed_71 : decode cX6_feed 71 = .ok (.goto 5, 3) := by decide +kernel
theorem dX6_feed_74 : decode cX6_feed 74 = .ok (.iload 5, 2) := by decide +kernel
theorem dX6_feed_76 : decode cX6_feed 76 = .ok (.istore 7, 2) := by decide +kernel
theorem dX6_feed_78 : decode cX6_feed 78 = .ok (.aload_n 0, 1) := by decide +kernel
theorem dX6_feed_79 : decode cX6_feed 79 = .ok (.getfield 17, 3) := by decide +kernel
theorem dX6_feed_82 : decode cX6_feed 82 = .ok (.aload_n 0, 1) := by decide +kernel
theorem dX6_feed_83 : decode cX6_feed 83 = .ok (.getfield 75, 3) := by decide +kernel
theorem dX6_feed_86 : decode cX6_feed 86 = .ok (.iload 7, 2) := by decide +kernel
theorem dX6_feed_88 : decode cX6_feed 88 = .ok (.bipush 24, 2) := by decide +kernel
theorem dX6_feed_90 : decode cX6_feed 90 = .ok (.bipush 8, 2) := by decide +kernel
theorem dX6_feed_92 : decode cX6_feed 92 = .ok (.iload 6, 2) := by decide +kernel
theorem dX6_feed_94 : decode cX6_feed 94 = .ok (.iconst 4, 1) := by decide +kernel
theorem dX6_feed_95 : decode cX6_feed 95 = .ok (.irem, 1) := by decide +kernel
theorem dX6_feed_96 : decode cX6_feed 96 = .ok (.imul, 1) := by decide +kernel
theorem dX6_feed_97 : decode cX6_feed 97 = .ok (.isub, 1) := by decide +kernel
theorem dX6_feed_98 : decode cX6_feed 98 = .ok (.ishr, 1) := by decide +kernel
theorem dX6_feed_99 : decode cX6_feed 99 = .ok (.sipush 255, 3) := by decide +kernel
theorem dX6_feed_102 : decode cX6_feed 102 = .ok (.iand, 1) := by decide +kernel
theorem dX6_feed_103 : decode cX6_feed 103 = .ok (.iastore, 1) := by decide +kernel
theorem dX6_feed_104 : decode cX6_feed 104 = .ok (.aload_n 0, 1) := by decide +kernel
theorem dX6_feed_105 : decode cX6_feed 105 = .ok (.dup, 1) := by decide +kernel
theorem dX6_feed_106 : decode cX6_feed 106 = .ok (.getfield 75, 3) := by decide +kernel
theorem dX6_feed_109 : decode cX6_feed 109 = .ok (.iconst 1, 1) := by decide +kernel
theorem dX6_feed_110 : decode cX6_feed 110 = .ok (.iadd, 1) := by decide +kernel
theorem dX6_feed_111 : decode cX6_feed 111 = .ok (.putfield 75, 3) := by decide +kernel
theorem dX6_feed_114 : decode cX6_feed 114 = .ok (.iinc 6 1, 3) := by decide +kernel
theorem dX6_feed_117 : decode cX6_feed 117 = .ok (.goto (-94), 3) := by decide +kernel
theorem dX6_feed_120 : decode cX6_feed 120 = .ok (.aload_n 0, 1) := by decide +kernel
theorem dX6_feed_121 : decode cX6_feed 121 = .ok (.getfield 75, 3) := by decide +kernel
theorem dX6_feed_124 : decode cX6_feed 124 = .ok (.ireturn, 1) := by decide +kernel
theorem dX6_copies_0 : decode cX6_copies 0 = .ok (.iconst 0, 1) := by decide +kernel
theorem dX6_copies_1 : decode cX6_copies 1 = .ok (.istore_n 2, 1) := by decide +kernel
theorem dX6_copies_2 : decode cX6_copies 2 = .ok (.iload_n 2, 1) := by decide +kernel
theorem dX6_copies_3 : decode cX6_copies 3 = .ok (.sipush 157, 3) := by decide +kernel
theorem dX6_copies_6 : decode cX6_copies 6 = .ok (.if_icmp .ge 15, 3) := by decide +kernel
theorem dX6_copies_9 : decode cX6_copies 9 = .ok (.aload_n 1, 1) := by decide +kernel
theorem dX6_copies_10 : decode cX6_copies 10 = .ok (.iload_n 2, 1) := by decide +kernel
theorem dX6_copies_11 : decode cX6_copies 11 = .ok (.aload_n 0, 1) := by decide +kernel
theorem dX6_copies_12 : decode cX6_copies 12 = .ok (.iload_n 2, 1) := by decide +kernel
theorem dX6_copies_13 : decode cX6_copies 13 = .ok (.iaload, 1) := by decide +kernel
theorem dX6_copies_14 : decode cX6_copies 14 = .ok (.iastore, 1) := by decide +kernel
theorem dX6_copies_15 : decode cX6_copies 15 = .ok (.iinc 2 1, 3) := by decide +kernel
theorem dX6_copies_18 : decode cX6_copies 18 = .ok (.goto (-16), 3) := by decide +kernel
theorem dX6_copies_21 : decode cX6_copies 21 = .ok (.return_, 1) := by decide +kernel
theorem dX6_joins_0 : decode cX6_joins 0 = .ok (.aload_n 0, 1) := by decide +kernel
theorem dX6_joins_1 : decode cX6_joins 1 = .ok (.bipush 13, 2) := by decide +kernel
theorem dX6_joins_3 : decode cX6_joins 3 = .ok (.bipush 12, 2) := by decide +kernel
theorem dX6_joins_5 : decode cX6_joins 5 = .ok (.iload_n 1, 1) := by decide +kernel
theorem dX6_joins_6 : decode cX6_joins 6 = .ok (.imul, 1) := by decide +kernel
theorem dX6_joins_7 : decode cX6_joins 7 = .ok (.iadd, 1) := by decide +kernel
theorem dX6_joins_8 : decode cX6_joins 8 = .ok (.iload_n 2, 1) := by decide +kernel
theorem dX6_joins_9 : decode cX6_joins 9 = .ok (.iadd, 1) := by decide +kernel
theorem dX6_joins_10 : decode cX6_joins 10 = .ok (.iload_n 3, 1) := by decide +kernel
theorem dX6_joins_11 : decode cX6_joins 11 = .ok (.iastore, 1) := by decide +kernel
theorem dX6_joins_12 : decode cX6_joins 12 = .ok (.aload_n 0, 1) := by decide +kernel
theorem dX6_joins_13 : decode cX6_joins 13 = .ok (.bipush 13, 2) := by decide +kernel
theorem dX6_joins_15 : decode cX6_joins 15 = .ok (.bipush 12, 2) := by decide +kernel
theorem dX6_joins_17 : decode cX6_joins 17 = .ok (.iload_n 2, 1) := by decide +kernel
theorem dX6_joins_18 : decode cX6_joins 18 = .ok (.imul, 1) := by decide +kernel
theorem dX6_joins_19 : decode cX6_joins 19 = .ok (.iadd, 1) := by decide +kernel
theorem dX6_joins_20 : decode cX6_joins 20 = .ok (.iload_n 1, 1) := by decide +kernel
theorem dX6_joins_21 : decode cX6_joins 21 = .ok (.iadd, 1) := by decide +kernel
theorem dX6_joins_22 : decode cX6_joins 22 = .ok (.iload_n 3, 1) := by decide +kernel
theorem dX6_joins_23 : decode cX6_joins 23 = .ok (.iastore, 1) := by decide +kernel
theorem dX6_joins_24 : decode cX6_joins 24 = .ok (.return_, 1) := by decide +kernel
theorem dX6_byteAt_0 : decode cX6_byteAt 0 = .ok (.iload_n 1, 1) := by decide +kernel
theorem dX6_byteAt_1 : decode cX6_byteAt 1 = .ok (.aload_n 0, 1) := by decide +kernel
theorem dX6_byteAt_2 : decode cX6_byteAt 2 = .ok (.getfield 78, 3) := by decide +kernel
theorem dX6_byteAt_5 : decode cX6_byteAt 5 = .ok (.if_icmp .lt 7, 3) := by decide +kernel
theorem dX6_byteAt_8 : decode cX6_byteAt 8 = .ok (.iconst (-1), 1) := by decide +kernel
theorem dX6_byteAt_9 : decode cX6_byteAt 9 = .ok (.goto 9, 3) := by decide +kernel
theorem dX6_byteAt_12 : decode cX6_byteAt 12 = .ok (.aload_n 0, 1) := by decide +kernel
theorem dX6_byteAt_13 : decode cX6_byteAt 13 = .ok (.getfield 17, 3) := by decide +kernel
theorem dX6_byteAt_16 : decode cX6_byteAt 16 = .ok (.iload_n 1, 1) := by decide +kernel
theorem dX6_byteAt_17 : decode cX6_byteAt 17 = .ok (.iaload, 1) := by decide +kernel
theorem dX6_byteAt_18 : decode cX6_byteAt 18 = .ok (.ireturn, 1) := by decide +kernel
theorem dX6_here_0 : decode cX6_here 0 = .ok (.aload_n 0, 1) := by decide +kernel
theorem dX6_here_1 : decode cX6_here 1 = .ok (.aload_n 0, 1) := by decide +kernel
theorem dX6_here_2 : decode cX6_here 2 = .ok (.getfield 81, 3) := by decide +kernel
theorem dX6_here_5 : decode cX6_here 5 = .ok (.invokevirtual 84, 3) := by decide +kernel
theorem dX6_here_8 : decode cX6_here 8 = .ok (.bipush 32, 2) := by decide +kernel
theorem dX6_here_10 : decode cX6_here 10 = .ok (.if_icmp .ne 16, 3) := by decide +kernel
theorem dX6_here_13 : decode cX6_here 13 = .ok (.aload_n 0, 1) := by decide +kernel
theorem dX6_here_14 : decode cX6_here 14 = .ok (.dup, 1) := by decide +kernel
theorem dX6_here_15 : decode cX6_here 15 = .ok (.getfield 81, 3) := by decide +kernel
theorem dX6_here_18 : decode cX6_here 18 = .ok (.iconst 1, 1) := by decide +kernel
theorem dX6_here_19 : decode cX6_here 19 = .ok (.iadd, 1) := by decide +kernel
theorem dX6_here_20 : decode cX6_here 20 = .ok (.putfield 81, 3) := by decide +kernel
theorem dX6_here_23 : decode cX6_here 23 = .ok (.goto (-23), 3) := by decide +kernel
theorem dX6_here_26 : decode cX6_here 26 = .ok (.aload_n 0, 1) := by decide +kernel
theorem dX6_here_27 : decode cX6_here 27 = .ok (.aload_n 0, 1) := by decide +kernel
theorem dX6_here_28 : decode cX6_here 28 = .ok (.getfield 81, 3) := by decide +kernel
theorem dX6_here_31 : decode cX6_here 31 = .ok (.invokevirtual 84, 3) := by decide +kernel
theorem dX6_here_34 : decode cX6_here 34 = .ok (.ireturn, 1) := by decide +kernel
theorem dX6_fine_0 : decode cX6_fine 0 = .ok (.aload_n 0, 1) := by decide +kernel
theorem dX6_fine_1 : decode cX6_fine 1 = .ok (.getfield 88, 3) := by decide +kernel
theorem dX6_fine_4 : decode cX6_fine 4 = .ok (.ifCond .ne 7, 3) := by decide +kernel
theorem dX6_fine_7 : decode cX6_fine 7 = .ok (.iconst 1, 1) := by decide +kernel
theorem dX6_fine_8 : decode cX6_fine 8 = .ok (.goto 4, 3) := by decide +kernel
theorem dX6_fine_11 : decode cX6_fine 11 = .ok (.iconst 0, 1) := by decide +kernel
theorem dX6_fine_12 : decode cX6_fine 12 = .ok (.ireturn, 1) := by decide +kernel
theorem dX6_wrong_0 : decode cX6_wrong 0 = .ok (.aload_n 0, 1) := by decide +kernel
theorem dX6_wrong_1 : decode cX6_wrong 1 = .ok (.getfield 88, 3) := by decide +kernel
theorem dX6_wrong_4 : decode cX6_wrong 4 = .ok (.ifCond .ne 13, 3) := by decide +kernel
theorem dX6_wrong_7 : decode cX6_wrong 7 = .ok (.aload_n 0, 1) := by decide +kernel
theorem dX6_wrong_8 : decode cX6_wrong 8 = .ok (.iload_n 1, 1) := by decide +kernel
theorem dX6_wrong_9 : decode cX6_wrong 9 = .ok (.putfield 88, 3) := by decide +kernel
theorem dX6_wrong_12 : decode cX6_wrong 12 = .ok (.aload_n 0, 1) := by decide +kernel
theorem dX6_wrong_13 : decode cX6_wrong 13 = .ok (.iload_n 2, 1) := by decide +kernel
theorem dX6_wrong_14 : decode cX6_wrong 14 = .ok (.putfield 91, 3) := by decide +kernel
theorem dX6_wrong_17 : decode cX6_wrong 17 = .ok (.return_, 1) := by decide +kernel
theorem dX6_isDigit_0 : decode cX6_isDigit 0 = .ok (.iload_n 0, 1) := by decide +kernel
theorem dX6_isDigit_1 : decode cX6_isDigit 1 = .ok (.bipush 48, 2) := by decide +kernel
theorem dX6_isDigit_3 : decode cX6_isDigit 3 = .ok (.if_icmp .lt 13, 3) := by decide +kernel
theorem dX6_isDigit_6 : decode cX6_isDigit 6 = .ok (.iload_n 0, 1) := by decide +kernel
theorem dX6_isDigit_7 : decode cX6_isDigit 7 = .ok (.bipush 57, 2) := by decide +kernel
theorem dX6_isDigit_9 : decode cX6_isDigit 9 = .ok (.if_icmp .gt 7, 3) := by decide +kernel
theorem dX6_isDigit_12 : decode cX6_isDigit 12 = .ok (.iconst 1, 1) := by decide +kernel
theorem dX6_isDigit_13 : decode cX6_isDigit 13 = .ok (.goto 4, 3) := by decide +kernel
theorem dX6_isDigit_16 : decode cX6_isDigit 16 = .ok (.iconst 0, 1) := by decide +kernel
theorem dX6_isDigit_17 : decode cX6_isDigit 17 = .ok (.ireturn, 1) := by decide +kernel
theorem dX6_takes_0 : decode cX6_takes 0 = .ok (.aload_n 0, 1) := by decide +kernel
theorem dX6_takes_1 : decode cX6_takes 1 = .ok (.invokevirtual 94, 3) := by decide +kernel
theorem dX6_takes_4 : decode cX6_takes 4 = .ok (.ifCond .ne 5, 3) := by decide +kernel
theorem dX6_takes_7 : decode cX6_takes 7 = .ok (.iconst 0, 1) := by decide +kernel
theorem dX6_takes_8 : decode cX6_takes 8 = .ok (.ireturn, 1) := by decide +kernel
theorem dX6_takes_9 : decode cX6_takes 9 = .ok (.aload_n 0, 1) := by decide +kernel
theorem dX6_takes_10 : decode cX6_takes 10 = .ok (.invokevirtual 98, 3) := by decide +kernel
theorem dX6_takes_13 : decode cX6_takes 13 = .ok (.pop, 1) := by decide +kernel
theorem dX6_takes_14 : decode cX6_takes 14 = .ok (.iconst 0, 1) := by decide +kernel
theorem dX6_takes_15 : decode cX6_takes 15 = .ok (.istore_n 2, 1) := by decide +kernel
theorem dX6_takes_16 : decode cX6_takes 16 = .ok (.iload_n 2, 1) := by decide +kernel
theorem dX6_takes_17 : decode cX6_takes 17 = .ok (.aload_n 1, 1) := by decide +kernel
theorem dX6_takes_18 : decode cX6_takes 18 = .ok (.invokevirtual 102, 3) := by decide +kernel
theorem dX6_takes_21 : decode cX6_takes 21 = .ok (.if_icmp .ge 27, 3) := by decide +kernel
theorem dX6_takes_24 : decode cX6_takes 24 = .ok (.aload_n 0, 1) := by decide +kernel
theorem dX6_takes_25 : decode cX6_takes 25 = .ok (.aload_n 0, 1) := by decide +kernel
theorem dX6_takes_26 : decode cX6_takes 26 = .ok (.getfield 81, 3) := by decide +kernel
theorem dX6_takes_29 : decode cX6_takes 29 = .ok (.iload_n 2, 1) := by decide +kernel
theorem dX6_takes_30 : decode cX6_takes 30 = .ok (.iadd, 1) := by decide +kernel
theorem dX6_takes_31 : decode cX6_takes 31 = .ok (.invokevirtual 84, 3) := by decide +kernel
theorem dX6_takes_34 : decode cX6_takes 34 = .ok (.aload_n 1, 1) := by decide +kernel
theorem dX6_takes_35 : decode cX6_takes 35 = .ok (.iload_n 2, 1) := by decide +kernel
theorem dX6_takes_36 : decode cX6_takes 36 = .ok (.invokevirtual 107, 3) := by decide +kernel
theorem dX6_takes_39 : decode cX6_takes 39 = .ok (.if_icmp .ne 9, 3) := by decide +kernel
theorem dX6_takes_42 : decode cX6_takes 42 = .ok (.iinc 2 1, 3) := by decide +kernel
theorem dX6_takes_45 : decode cX6_takes 45 = .ok (.goto (-29), 3) := by decide +kernel
theorem dX6_takes_48 : decode cX6_takes 48 = .ok (.iload_n 2, 1) := by decide +kernel
theorem dX6_takes_49 : decode cX6_takes 49 = .ok (.aload_n 1, 1) := by decide +kernel
theorem dX6_takes_50 : decode cX6_takes 50 = .ok (.invokevirtual 102, 3) := by decide +kernel
theorem dX6_takes_53 : decode cX6_takes 53 = .ok (.if_icmp .lt 23, 3) := by decide +kernel
theorem dX6_takes_56 : decode cX6_takes 56 = .ok (.aload_n 0, 1) := by decide +kernel
theorem dX6_takes_57 : decode cX6_takes 57 = .ok (.aload_n 0, 1) := by decide +kernel
theorem dX6_takes_58 : decode cX6_takes 58 = .ok (.getfield 81, 3) := by decide +kernel
theorem dX6_takes_61 : decode cX6_takes 61 = .ok (.iload_n 2, 1) := by decide +kernel
theorem dX6_takes_62 : decode cX6_takes 62 = .ok (.iadd, 1) := by decide +kernel
theorem dX6_takes_63 : decode cX6_takes 63 = .ok (.invokevirtual 84, 3) := by decide +kernel
theorem dX6_takes_66 : decode cX6_takes 66 = .ok (.bipush 97, 2) := by decide +kernel
theorem dX6_takes_68 : decode cX6_takes 68 = .ok (.bipush 122, 2) := by decide +kernel
theorem dX6_takes_70 : decode cX6_takes 70 = .ok (.invokestatic 111, 3) := by decide +kernel
theorem dX6_takes_73 : decode cX6_takes 73 = .ok (.ifCond .eq 5, 3) := by decide +kernel
theorem dX6_takes_76 : decode cX6_takes 76 = .ok (.iconst 0, 1) := by decide +kernel
theorem dX6_takes_77 : decode cX6_takes 77 = .ok (.ireturn, 1) := by decide +kernel
theorem dX6_takes_78 : decode cX6_takes 78 = .ok (.aload_n 0, 1) := by decide +kernel
theorem dX6_takes_79 : decode cX6_takes 79 = .ok (.dup, 1) := by decide +kernel
theorem dX6_takes_80 : decode cX6_takes 80 = .ok (.getfield 81, 3) := by decide +kernel
theorem dX6_takes_83 : decode cX6_takes 83 = .ok (.iload_n 2, 1) := by decide +kernel
theorem dX6_takes_84 : decode cX6_takes 84 = .ok (.iadd, 1) := by decide +kernel
theorem dX6_takes_85 : decode cX6_takes 85 = .ok (.putfield 81, 3) := by decide +kernel
theorem dX6_takes_88 : decode cX6_takes 88 = .ok (.iconst 1, 1) := by decide +kernel
theorem dX6_takes_89 : decode cX6_takes 89 = .ok (.ireturn, 1) := by decide +kernel
theorem dX6_must_0 : decode cX6_must 0 = .ok (.aload_n 0, 1) := by decide +kernel
theorem dX6_must_1 : decode cX6_must 1 = .ok (.invokevirtual 94, 3) := by decide +kernel
theorem dX6_must_4 : decode cX6_must 4 = .ok (.ifCond .ne 4, 3) := by decide +kernel
theorem dX6_must_7 : decode cX6_must 7 = .ok (.return_, 1) := by decide +kernel
theorem dX6_must_8 : decode cX6_must 8 = .ok (.aload_n 0, 1) := by decide +kernel
theorem dX6_must_9 : decode cX6_must 9 = .ok (.invokevirtual 98, 3) := by decide +kernel
theorem dX6_must_12 : decode cX6_must 12 = .ok (.iload_n 1, 1) := by decide +kernel
theorem dX6_must_13 : decode cX6_must 13 = .ok (.if_icmp .ne 16, 3) := by decide +kernel
theorem dX6_must_16 : decode cX6_must 16 = .ok (.aload_n 0, 1) := by decide +kernel
theorem dX6_must_17 : decode cX6_must 17 = .ok (.dup, 1) := by decide +kernel
theorem dX6_must_18 : decode cX6_must 18 = .ok (.getfield 81, 3) := by decide +kernel
theorem dX6_must_21 : decode cX6_must 21 = .ok (.iconst 1, 1) := by decide +kernel
theorem dX6_must_22 : decode cX6_must 22 = .ok (.iadd, 1) := by decide +kernel
theorem dX6_must_23 : decode cX6_must 23 = .ok (.putfield 81, 3) := by decide +kernel
theorem dX6_must_26 : decode cX6_must 26 = .ok (.goto 12, 3) := by decide +kernel
theorem dX6_must_29 : decode cX6_must 29 = .ok (.aload_n 0, 1) := by decide +kernel
theorem dX6_must_30 : decode cX6_must 30 = .ok (.iconst 1, 1) := by decide +kernel
theorem dX6_must_31 : decode cX6_must 31 = .ok (.aload_n 0, 1) := by decide +kernel
theorem dX6_must_32 : decode cX6_must 32 = .ok (.getfield 81, 3) := by decide +kernel
theorem dX6_must_35 : decode cX6_must 35 = .ok (.invokevirtual 115, 3) := by decide +kernel
theorem dX6_must_38 : decode cX6_must 38 = .ok (.return_, 1) := by decide +kernel
theorem dX6_number_0 : decode cX6_number 0 = .ok (.aload_n 0, 1) := by decide +kernel
theorem dX6_number_1 : decode cX6_number 1 = .ok (.invokevirtual 94, 3) := by decide +kernel
theorem dX6_number_4 : decode cX6_number 4 = .ok (.ifCond .ne 5, 3) := by decide +kernel
theorem dX6_number_7 : decode cX6_number 7 = .ok (.iconst 0, 1) := by decide +kernel
theorem dX6_number_8 : decode cX6_number 8 = .ok (.ireturn, 1) := by decide +kernel
theorem dX6_number_9 : decode cX6_number 9 = .ok (.aload_n 0, 1) := by decide +kernel
theorem dX6_number_10 : decode cX6_number 10 = .ok (.invokevirtual 98, 3) := by decide +kernel
theorem dX6_number_13 : decode cX6_number 13 = .ok (.invokestatic 119, 3) := by decide +kernel
theorem dX6_number_16 : decode cX6_number 16 = .ok (.ifCond .ne 14, 3) := by decide +kernel
theorem dX6_number_19 : decode cX6_number 19 = .ok (.aload_n 0, 1) := by decide +kernel
theorem dX6_number_20 : decode cX6_number 20 = .ok (.iconst 1, 1) := by decide +kernel
theorem dX6_number_21 : decode cX6_number 21 = .ok (.aload_n 0, 1) := by decide +kernel
theorem dX6_number_22 : decode cX6_number 22 = .ok (.getfield 81, 3) := by decide +kernel
theorem dX6_number_25 : decode cX6_number 25 = .ok (.invokevirtual 115, 3) := by decide +kernel
theorem dX6_number_28 : decode cX6_number 28 = .ok (.iconst 0, 1) := by decide +kernel
theorem dX6_number_29 : decode cX6_number 29 = .ok (.ireturn, 1) := by decide +kernel
theorem dX6_number_30 : decode cX6_number 30 = .ok (.aload_n 0, 1) := by decide +kernel
theorem dX6_number_31 : decode cX6_number 31 = .ok (.getfield 81, 3) := by decide +kernel
theorem dX6_number_34 : decode cX6_number 34 = .ok (.istore 4, 2) := by decide +kernel
theorem dX6_number_36 : decode cX6_number 36 = .ok (.iconst 0, 1) := by decide +kernel
theorem dX6_number_37 : decode cX6_number 37 = .ok (.istore 5, 2) := by decide +kernel
theorem dX6_number_39 : decode cX6_number 39 = .ok (.aload_n 0, 1) := by decide +kernel
theorem dX6_number_40 : decode cX6_number 40 = .ok (.aload_n 0, 1) := by decide +kernel
theorem dX6_number_41 : decode cX6_number 41 = .ok (.getfield 81, 3) := by decide +kernel
theorem dX6_number_44 : decode cX6_number 44 = .ok (.invokevirtual 84, 3) := by decide +kernel
theorem dX6_number_47 : decode cX6_number 47 = .ok (.invokestatic 119, 3) := by decide +kernel
theorem dX6_number_50 : decode cX6_number 50 = .ok (.ifCond .eq 40, 3) := by decide +kernel
theorem dX6_number_53 : decode cX6_number 53 = .ok (.ldc 123, 2) := by decide +kernel
theorem dX6_number_55 : decode cX6_number 55 = .ok (.bipush 10, 2) := by decide +kernel
theorem dX6_number_57 : decode cX6_number 57 = .ok (.iload 5, 2) := by decide +kernel
theorem dX6_number_59 : decode cX6_number 59 = .ok (.imul, 1) := by decide +kernel
theorem dX6_number_60 : decode cX6_number 60 = .ok (.aload_n 0, 1) := by decide +kernel
theorem dX6_number_61 : decode cX6_number 61 = .ok (.aload_n 0, 1) := by decide +kernel
theorem dX6_number_62 : decode cX6_number 62 = .ok (.getfield 81, 3) := by decide +kernel
theorem dX6_number_65 : decode cX6_number 65 = .ok (.invokevirtual 84, 3) := by decide +kernel
theorem dX6_number_68 : decode cX6_number 68 = .ok (.iadd, 1) := by decide +kernel
theorem dX6_number_69 : decode cX6_number 69 = .ok (.bipush 48, 2) := by decide +kernel
theorem dX6_number_71 : decode cX6_number 71 = .ok (.isub, 1) := by decide +kernel
theorem dX6_number_72 : decode cX6_number 72 = .ok (.invokestatic 124, 3) := by decide +kernel
theorem dX6_number_75 : decode cX6_number 75 = .ok (.istore 5, 2) := by decide +kernel
theorem dX6_number_77 : decode cX6_number 77 = .ok (.aload_n 0, 1) := by decide +kernel
theorem dX6_number_78 : decode cX6_number 78 = .ok (.dup, 1) := by decide +kernel
theorem dX6_number_79 : decode cX6_number 79 = .ok (.getfield 81, 3) := by decide +kernel
theorem dX6_number_82 : decode cX6_number 82 = .ok (.iconst 1, 1) := by decide +kernel
theorem dX6_number_83 : decode cX6_number 83 = .ok (.iadd, 1) := by decide +kernel
theorem dX6_number_84 : decode cX6_number 84 = .ok (.putfield 81, 3) := by decide +kernel
theorem dX6_number_87 : decode cX6_number 87 = .ok (.goto (-48), 3) := by decide +kernel
theorem dX6_number_90 : decode cX6_number 90 = .ok (.iload 5, 2) := by decide +kernel
theorem dX6_number_92 : decode cX6_number 92 = .ok (.iload_n 1, 1) := by decide +kernel
theorem dX6_number_93 : decode cX6_number 93 = .ok (.iload_n 2, 1) := by decide +kernel
theorem dX6_number_94 : decode cX6_number 94 = .ok (.invokestatic 111, 3) := by decide +kernel
theorem dX6_number_97 : decode cX6_number 97 = .ok (.ifCond .eq 20, 3) := by decide +kernel
theorem dX6_number_100 : decode cX6_number 100 = .ok (.iload 5, 2) := by decide +kernel
theorem dX6_number_102 : decode cX6_number 102 = .ok (.bipush 12, 2) := by decide +kernel
theorem dX6_number_104 : decode cX6_number 104 = .ok (.if_icmp .ge 20, 3) := by decide +kernel
theorem dX6_number_107 : decode cX6_number 107 = .ok (.iload_n 3, 1) := by decide +kernel
theorem dX6_number_108 : decode cX6_number 108 = .ok (.iload 5, 2) := by decide +kernel
theorem dX6_number_110 : decode cX6_number 110 = .ok (.ishr, 1) := by decide +kernel
theorem dX6_number_111 : decode cX6_number 111 = .ok (.iconst 1, 1) := by decide +kernel
theorem dX6_number_112 : decode cX6_number 112 = .ok (.iand, 1) := by decide +kernel
theorem dX6_number_113 : decode cX6_number 113 = .ok (.iconst 1, 1) := by decide +kernel
theorem dX6_number_114 : decode cX6_number 114 = .ok (.if_icmp .ne 10, 3) := by decide +kernel
theorem dX6_number_117 : decode cX6_number 117 = .ok (.aload_n 0, 1) := by decide +kernel
theorem dX6_number_118 : decode cX6_number 118 = .ok (.iconst 2, 1) := by decide +kernel
theorem dX6_number_119 : decode cX6_number 119 = .ok (.iload 4, 2) := by decide +kernel
theorem dX6_number_121 : decode cX6_number 121 = .ok (.invokevirtual 115, 3) := by decide +kernel
theorem dX6_number_124 : decode cX6_number 124 = .ok (.iload 5, 2) := by decide +kernel
theorem dX6_number_126 : decode cX6_number 126 = .ok (.ireturn, 1) := by decide +kernel
theorem dX6_nodeTold_0 : decode cX6_nodeTold 0 = .ok (.aload_n 0, 1) := by decide +kernel
theorem dX6_nodeTold_1 : decode cX6_nodeTold 1 = .ok (.iconst 0, 1) := by decide +kernel
theorem dX6_nodeTold_2 : decode cX6_nodeTold 2 = .ok (.aload_n 0, 1) := by decide +kernel
theorem dX6_nodeTold_3 : decode cX6_nodeTold 3 = .ok (.getfield 23, 3) := by decide +kernel
theorem dX6_nodeTold_6 : decode cX6_nodeTold 6 = .ok (.iconst 0, 1) := by decide +kernel
theorem dX6_nodeTold_7 : decode cX6_nodeTold 7 = .ok (.iaload, 1) := by decide +kernel
theorem dX6_nodeTold_8 : decode cX6_nodeTold 8 = .ok (.iconst 1, 1) := by decide +kernel
theorem dX6_nodeTold_9 : decode cX6_nodeTold 9 = .ok (.isub, 1) := by decide +kernel
theorem dX6_nodeTold_10 : decode cX6_nodeTold 10 = .ok (.iload_n 1, 1) := by decide +kernel
theorem dX6_nodeTold_11 : decode cX6_nodeTold 11 = .ok (.invokevirtual 128, 3) := by decide +kernel
theorem dX6_nodeTold_14 : decode cX6_nodeTold 14 = .ok (.ireturn, 1) := by decide +kernel
theorem dX6_comes_0 : decode cX6_comes 0 = .ok (.aload_n 0, 1) := by decide +kernel
theorem dX6_comes_1 : decode cX6_comes 1 = .ok (.invokevirtual 94, 3) := by decide +kernel
theorem dX6_comes_4 : decode cX6_comes 4 = .ok (.ifCond .eq 31, 3) := by decide +kernel
theorem dX6_comes_7 : decode cX6_comes 7 = .ok (.aload_n 0, 1) := by decide +kernel
theorem dX6_comes_8 : decode cX6_comes 8 = .ok (.getfield 23, 3) := by decide +kernel
theorem dX6_comes_11 : decode cX6_comes 11 = .ok (.bipush 13, 2) := by decide +kernel
theorem dX6_comes_13 : decode cX6_comes 13 = .ok (.bipush 12, 2) := by decide +kernel
theorem dX6_comes_15 : decode cX6_comes 15 = .ok (.iload_n 1, 1) := by decide +kernel
theorem dX6_comes_16 : decode cX6_comes 16 = .ok (.imul, 1) := by decide +kernel
theorem dX6_comes_17 : decode cX6_comes 17 = .ok (.iadd, 1) := by decide +kernel
theorem dX6_comes_18 : decode cX6_comes 18 = .ok (.iload_n 2, 1) := by decide +kernel
theorem dX6_comes_19 : decode cX6_comes 19 = .ok (.iadd, 1) := by decide +kernel
theorem dX6_comes_20 : decode cX6_comes 20 = .ok (.iaload, 1) := by decide +kernel
theorem dX6_comes_21 : decode cX6_comes 21 = .ok (.iconst (-1), 1) := by decide +kernel
theorem dX6_comes_22 : decode cX6_comes 22 = .ok (.if_icmp .ne 13, 3) := by decide +kernel
theorem dX6_comes_25 : decode cX6_comes 25 = .ok (.aload_n 0, 1) := by decide +kernel
theorem dX6_comes_26 : decode cX6_comes 26 = .ok (.getfield 23, 3) := by decide +kernel
theorem dX6_comes_29 : decode cX6_comes 29 = .ok (.iload_n 1, 1) := by decide +kernel
theorem dX6_comes_30 : decode cX6_comes 30 = .ok (.iload_n 2, 1) := by decide +kernel
theorem dX6_comes_31 : decode cX6_comes 31 = .ok (.iconst 1, 1) := by decide +kernel
theorem dX6_comes_32 : decode cX6_comes 32 = .ok (.invokestatic 65, 3) := by decide +kernel
theorem dX6_comes_35 : decode cX6_comes 35 = .ok (.return_, 1) := by decide +kernel
theorem dX6_readsRing_0 : decode cX6_readsRing 0 = .ok (.aload_n 0, 1) := by decide +kernel
theorem dX6_readsRing_1 : decode cX6_readsRing 1 = .ok (.iconst 0, 1) := by decide +kernel
theorem dX6_readsRing_2 : decode cX6_readsRing 2 = .ok (.invokevirtual 131, 3) := by decide +kernel
theorem dX6_readsRing_5 : decode cX6_readsRing 5 = .ok (.istore_n 1, 1) := by decide +kernel
theorem dX6_readsRing_6 : decode cX6_readsRing 6 = .ok (.iload_n 1, 1) := by decide +kernel
theorem dX6_readsRing_7 : decode cX6_readsRing 7 = .ok (.istore_n 2, 1) := by decide +kernel
theorem dX6_readsRing_8 : decode cX6_readsRing 8 = .ok (.aload_n 0, 1) := by decide +kernel
theorem dX6_readsRing_9 : decode cX6_readsRing 9 = .ok (.invokevirtual 94, 3) := by decide +kernel
theorem dX6_readsRing_12 : decode cX6_readsRing 12 = .ok (.ifCond .eq 9, 3) := by decide +kernel
theorem dX6_readsRing_15 : decode cX6_readsRing 15 = .ok (.iconst 1, 1) := by decide +kernel
theorem dX6_readsRing_16 : decode cX6_readsRing 16 = .ok (.iload_n 1, 1) := by decide +kernel
theorem dX6_readsRing_17 : decode cX6_readsRing 17 = .ok (.ishl, 1) := by decide +kernel
theorem dX6_readsRing_18 : decode cX6_readsRing 18 = .ok (.goto 4, 3) := by decide +kernel
theorem dX6_readsRing_21 : decode cX6_readsRing 21 = .ok (.iconst 0, 1) := by decide +kernel
theorem dX6_readsRing_22 : decode cX6_readsRing 22 = .ok (.istore_n 3, 1) := by decide +kernel
theorem dX6_readsRing_23 : decode cX6_readsRing 23 = .ok (.iconst 1, 1) := by decide +kernel
theorem dX6_readsRing_24 : decode cX6_readsRing 24 = .ok (.istore 4, 2) := by decide +kernel
theorem dX6_readsRing_26 : decode cX6_readsRing 26 = .ok (.aload_n 0, 1) := by decide +kernel
theorem dX6_readsRing_27 : decode cX6_readsRing 27 = .ok (.invokevirtual 94, 3) := by decide +kernel
theorem dX6_readsRing_30 : decode cX6_readsRing 30 = .ok (.ifCond .eq 73, 3) := by decide +kernel
theorem dX6_readsRing_33 : decode cX6_readsRing 33 = .ok (.iload 4, 2) := by decide +kernel
theorem dX6_readsRing_35 : decode cX6_readsRing 35 = .ok (.iconst 2, 1) := by decide +kernel
theorem dX6_readsRing_36 : decode cX6_readsRing 36 = .ok (.if_icmp .lt 13, 3) := by decide +kernel
theorem dX6_readsRing_39 : decode cX6_readsRing 39 = .ok (.aload_n 0, 1) := by decide +kernel
theorem dX6_readsRing_40 : decode cX6_readsRing 40 = .ok (.invokevirtual 98, 3) := by decide +kernel
theorem dX6_readsRing_43 : decode cX6_readsRing 43 = .ok (.invokestatic 119, 3) := by decide +kernel
theorem dX6_readsRing_46 : decode cX6_readsRing 46 = .ok (.ifCond .eq 57, 3) := by decide +kernel
theorem dX6_readsRing_49 : decode cX6_readsRing 49 = .ok (.iload 4, 2) := by decide +kernel
theorem dX6_readsRing_51 : decode cX6_readsRing 51 = .ok (.bipush 12, 2) := by decide +kernel
theorem dX6_readsRing_53 : decode cX6_readsRing 53 = .ok (.if_icmp .ne 12, 3) := by decide +kernel
theorem dX6_readsRing_56 : decode cX6_readsRing 56 = .ok (.aload_n 0, 1) := by decide +kernel
theorem dX6_readsRing_57 : decode cX6_readsRing 57 = .ok (.iconst 1, 1) := by decide +kernel
theorem dX6_readsRing_58 : decode cX6_readsRing 58 = .ok (.aload_n 0, 1) := by decide +kernel
theorem dX6_readsRing_59 : decode cX6_readsRing 59 = .ok (.getfield 81, 3) := by decide +kernel
theorem dX6_readsRing_62 : decode cX6_readsRing 62 = .ok (.invokevirtual 115, 3) := by decide +kernel
theorem dX6_readsRing_65 : decode cX6_readsRing 65 = .ok (.aload_n 0, 1) := by decide +kernel
theorem dX6_readsRing_66 : decode cX6_readsRing 66 = .ok (.iload_n 3, 1) := by decide +kernel
theorem dX6_readsRing_67 : decode cX6_readsRing 67 = .ok (.invokevirtual 131, 3) := by decide +kernel
theorem dX6_readsRing_70 : decode cX6_readsRing 70 = .ok (.istore 5, 2) := by decide +kernel
theorem dX6_readsRing_72 : decode cX6_readsRing 72 = .ok (.aload_n 0, 1) := by decide +kernel
theorem dX6_readsRing_73 : decode cX6_readsRing 73 = .ok (.invokevirtual 94, 3) := by decide +kernel
theorem dX6_readsRing_76 : decode cX6_readsRing 76 = .ok (.ifCond .ne 4, 3) := by decide +kernel
theorem dX6_readsRing_79 : decode cX6_readsRing 79 = .ok (.return_, 1) := by decide +kernel
theorem dX6_readsRing_80 : decode cX6_readsRing 80 = .ok (.aload_n 0, 1) := by decide +kernel
theorem dX6_readsRing_81 : decode cX6_readsRing 81 = .ok (.iload_n 2, 1) := by decide +kernel
theorem dX6_readsRing_82 : decode cX6_readsRing 82 = .ok (.iload 5, 2) := by decide +kernel
theorem dX6_readsRing_84 : decode cX6_readsRing 84 = .ok (.invokevirtual 134, 3) := by decide +kernel
theorem dX6_readsRing_87 : decode cX6_readsRing 87 = .ok (.iload_n 3, 1) := by decide +kernel
theorem dX6_readsRing_88 : decode cX6_readsRing 88 = .ok (.iconst 1, 1) := by decide +kernel
theorem dX6_readsRing_89 : decode cX6_readsRing 89 = .ok (.iload 5, 2) := by decide +kernel
theorem dX6_readsRing_91 : decode cX6_readsRing 91 = .ok (.ishl, 1) := by decide +kernel
theorem dX6_readsRing_92 : decode cX6_readsRing 92 = .ok (.ior, 1) := by decide +kernel
theorem dX6_readsRing_93 : decode cX6_readsRing 93 = .ok (.istore_n 3, 1) := by decide +kernel
theorem dX6_readsRing_94 : decode cX6_readsRing 94 = .ok (.iload 5, 2) := by decide +kernel
theorem dX6_readsRing_96 : decode cX6_readsRing 96 = .ok (.istore_n 2, 1) := by decide +kernel
theorem dX6_readsRing_97 : decode cX6_readsRing 97 = .ok (.iinc 4 1, 3) := by decide +kernel
theorem dX6_readsRing_100 : decode cX6_readsRing 100 = .ok (.goto (-74), 3) := by decide +kernel
theorem dX6_readsRing_103 : decode cX6_readsRing 103 = .ok (.aload_n 0, 1) := by decide +kernel
theorem dX6_readsRing_104 : decode cX6_readsRing 104 = .ok (.invokevirtual 94, 3) := by decide +kernel
theorem dX6_readsRing_107 : decode cX6_readsRing 107 = .ok (.ifCond .eq 9, 3) := by decide +kernel
theorem dX6_readsRing_110 : decode cX6_readsRing 110 = .ok (.aload_n 0, 1) := by decide +kernel
theorem dX6_readsRing_111 : decode cX6_readsRing 111 = .ok (.iload_n 2, 1) := by decide +kernel
theorem dX6_readsRing_112 : decode cX6_readsRing 112 = .ok (.iload_n 1, 1) := by decide +kernel
theorem dX6_readsRing_113 : decode cX6_readsRing 113 = .ok (.invokevirtual 134, 3) := by decide +kernel
theorem dX6_readsRing_116 : decode cX6_readsRing 116 = .ok (.return_, 1) := by decide +kernel
theorem dX6_readsLine_0 : decode cX6_readsLine 0 = .ok (.aload_n 0, 1) := by decide +kernel
theorem dX6_readsLine_1 : decode cX6_readsLine 1 = .ok (.invokevirtual 98, 3) := by decide +kernel
theorem dX6_readsLine_4 : decode cX6_readsLine 4 = .ok (.pop, 1) := by decide +kernel
theorem dX6_readsLine_5 : decode cX6_readsLine 5 = .ok (.aload_n 0, 1) := by decide +kernel
theorem dX6_readsLine_6 : decode cX6_readsLine 6 = .ok (.getfield 81, 3) := by decide +kernel
theorem dX6_readsLine_9 : decode cX6_readsLine 9 = .ok (.istore_n 1, 1) := by decide +kernel
theorem dX6_readsLine_10 : decode cX6_readsLine 10 = .ok (.aload_n 0, 1) := by decide +kernel
theorem dX6_readsLine_11 : decode cX6_readsLine 11 = .ok (.ldc 137, 2) := by decide +kernel
theorem dX6_readsLine_13 : decode cX6_readsLine 13 = .ok (.invokevirtual 139, 3) := by decide +kernel
theorem dX6_readsLine_16 : decode cX6_readsLine 16 = .ok (.ifCond .eq 80, 3) := by decide +kernel
theorem dX6_readsLine_19 : decode cX6_readsLine 19 = .ok (.aload_n 0, 1) := by decide +kernel
theorem dX6_readsLine_20 : decode cX6_readsLine 20 = .ok (.iconst 0, 1) := by decide +kernel
theorem dX6_readsLine_21 : decode cX6_readsLine 21 = .ok (.invokevirtual 131, 3) := by decide +kernel
theorem dX6_readsLine_24 : decode cX6_readsLine 24 = .ok (.istore_n 2, 1) := by decide +kernel
theorem dX6_readsLine_25 : decode cX6_readsLine 25 = .ok (.aload_n 0, 1) := by decide +kernel
theorem dX6_readsLine_26 : decode cX6_readsLine 26 = .ok (.aload_n 0, 1) := by decide +kernel
theorem dX6_readsLine_27 : decode cX6_readsLine 27 = .ok (.invokevirtual 94, 3) := by decide +kernel
theorem dX6_readsLine_30 : decode cX6_readsLine 30 = .ok (.ifCond .eq 9, 3) := by decide +kernel
theorem dX6_readsLine_33 : decode cX6_readsLine 33 = .ok (.iconst 1, 1) := by decide +kernel
theorem dX6_readsLine_34 : decode cX6_readsLine 34 = .ok (.iload_n 2, 1) := by decide +kernel
theorem dX6_readsLine_35 : decode cX6_readsLine 35 = .ok (.ishl, 1) := by decide +kernel
theorem dX6_readsLine_36 : decode cX6_readsLine 36 = .ok (.goto 4, 3) := by decide +kernel
theorem dX6_readsLine_39 : decode cX6_readsLine 39 = .ok (.iconst 0, 1) := by decide +kernel
theorem dX6_readsLine_40 : decode cX6_readsLine 40 = .ok (.invokevirtual 131, 3) := by decide +kernel
theorem dX6_readsLine_43 : decode cX6_readsLine 43 = .ok (.istore_n 3, 1) := by decide +kernel
theorem dX6_readsLine_44 : decode cX6_readsLine 44 = .ok (.iconst 1, 1) := by decide +kernel
theorem dX6_readsLine_45 : decode cX6_readsLine 45 = .ok (.istore 4, 2) := by decide +kernel
theorem dX6_readsLine_47 : decode cX6_readsLine 47 = .ok (.aload_n 0, 1) := by decide +kernel
theorem dX6_readsLine_48 : decode cX6_readsLine 48 = .ok (.invokevirtual 94, 3) := by decide +kernel
theorem dX6_readsLine_51 : decode cX6_readsLine 51 = .ok (.ifCond .eq 24, 3) := by decide +kernel
theorem dX6_readsLine_54 : decode cX6_readsLine 54 = .ok (.aload_n 0, 1) := by decide +kernel
theorem dX6_readsLine_55 : decode cX6_readsLine 55 = .ok (.invokevirtual 98, 3) := by decide +kernel
theorem dX6_readsLine_58 : decode cX6_readsLine 58 = .ok (.invokestatic 119, 3) := by decide +kernel
theorem dX6_readsLine_61 : decode cX6_readsLine 61 = .ok (.ifCond .eq 14, 3) := by decide +kernel
theorem dX6_readsLine_64 : decode cX6_readsLine 64 = .ok (.aload_n 0, 1) := by decide +kernel
theorem dX6_readsLine_65 : decode cX6_readsLine 65 = .ok (.iconst 0, 1) := by decide +kernel
theorem dX6_readsLine_66 : decode cX6_readsLine 66 = .ok (.sipush 999, 3) := by decide +kernel
theorem dX6_readsLine_69 : decode cX6_readsLine 69 = .ok (.iconst 0, 1) := by decide +kernel
theorem dX6_readsLine_70 : decode cX6_readsLine 70 = .ok (.invokevirtual 128, 3) := by decide +kernel
theorem dX6_readsLine_73 : decode cX6_readsLine 73 = .ok (.istore 4, 2) := by decide +kernel
theorem dX6_readsLine_75 : decode cX6_readsLine 75 = .ok (.aload_n 0, 1) := by decide +kernel
theorem dX6_readsLine_76 : decode cX6_readsLine 76 = .ok (.invokevirtual 94, 3) := by decide +kernel
theorem dX6_readsLine_79 : decode cX6_readsLine 79 = .ok (.ifCond .eq 14, 3) := by decide +kernel
theorem dX6_readsLine_82 : decode cX6_readsLine 82 = .ok (.aload_n 0, 1) := by decide +kernel
theorem dX6_readsLine_83 : decode cX6_readsLine 83 = .ok (.getfield 23, 3) := by decide +kernel
theorem dX6_readsLine_86 : decode cX6_readsLine 86 = .ok (.iload_n 2, 1) := by decide +kernel
theorem dX6_readsLine_87 : decode cX6_readsLine 87 = .ok (.iload_n 3, 1) := by decide +kernel
theorem dX6_readsLine_88 : decode cX6_readsLine 88 = .ok (.iload 4, 2) := by decide +kernel
theorem dX6_readsLine_90 : decode cX6_readsLine 90 = .ok (.invokestatic 65, 3) := by decide +kernel
theorem dX6_readsLine_93 : decode cX6_readsLine 93 = .ok (.goto 150, 3) := by decide +kernel
theorem dX6_readsLine_96 : decode cX6_readsLine 96 = .ok (.aload_n 0, 1) := by decide +kernel
theorem dX6_readsLine_97 : decode cX6_readsLine 97 = .ok (.ldc 143, 2) := by decide +kernel
theorem dX6_readsLine_99 : decode cX6_readsLine 99 = .ok (.invokevirtual 139, 3) := by decide +kernel
theorem dX6_readsLine_102 : decode cX6_readsLine 102 = .ok (.ifCond .eq 10, 3) := by decide +kernel
theorem dX6_readsLine_105 : decode cX6_readsLine 105 = .ok (.aload_n 0, 1) := by decide +kernel
theorem dX6_readsLine_106 : decode cX6_readsLine 106 = .ok (.invokevirtual 145, 3) := by decide +kernel
theorem dX6_readsLine_109 : decode cX6_readsLine 109 = .ok (.goto 134, 3) := by decide +kernel
theorem dX6_readsLine_112 : decode cX6_readsLine 112 = .ok (.aload_n 0, 1) := by decide +kernel
theorem dX6_readsLine_113 : decode cX6_readsLine 113 = .ok (.ldc 148, 2) := by decide +kernel
theorem dX6_readsLine_115 : decode cX6_readsLine 115 = .ok (.invokevirtual 139, 3) := by decide +kernel
theorem dX6_readsLine_118 : decode cX6_readsLine 118 = .ok (.ifCond .eq 43, 3) := by decide +kernel
theorem dX6_readsLine_121 : decode cX6_readsLine 121 = .ok (.iconst 0, 1) := by decide +kernel
theorem dX6_readsLine_122 : decode cX6_readsLine 122 = .ok (.istore_n 2, 1) := by decide +kernel
theorem dX6_readsLine_123 : decode cX6_readsLine 123 = .ok (.iload_n 2, 1) := by decide +kernel
theorem dX6_readsLine_124 : decode cX6_readsLine 124 = .ok (.aload_n 0, 1) := by decide +kernel
theorem dX6_readsLine_125 : decode cX6_readsLine 125 = .ok (.getfield 23, 3) := by decide +kernel
theorem dX6_readsLine_128 : decode cX6_readsLine 128 = .ok (.iconst 0, 1) := by decide +kernel
theorem dX6_readsLine_129 : decode cX6_readsLine 129 = .ok (.iaload, 1) := by decide +kernel
theorem dX6_readsLine_130 : decode cX6_readsLine 130 = .ok (.if_icmp .ge 28, 3) := by decide +kernel
theorem dX6_readsLine_133 : decode cX6_readsLine 133 = .ok (.iconst 0, 1) := by decide +kernel
theorem dX6_readsLine_134 : decode cX6_readsLine 134 = .ok (.istore_n 3, 1) := by decide +kernel
theorem dX6_readsLine_135 : decode cX6_readsLine 135 = .ok (.iload_n 3, 1) := by decide +kernel
theorem dX6_readsLine_136 : decode cX6_readsLine 136 = .ok (.iload_n 2, 1) := by decide +kernel
theorem dX6_readsLine_137 : decode cX6_readsLine 137 = .ok (.if_icmp .ge 15, 3) := by decide +kernel
theorem dX6_readsLine_140 : decode cX6_readsLine 140 = .ok (.aload_n 0, 1) := by decide +kernel
theorem dX6_readsLine_141 : decode cX6_readsLine 141 = .ok (.iload_n 2, 1) := by decide +kernel
theorem dX6_readsLine_142 : decode cX6_readsLine 142 = .ok (.iload_n 3, 1) := by decide +kernel
theorem dX6_readsLine_143 : decode cX6_readsLine 143 = .ok (.invokevirtual 134, 3) := by decide +kernel
theorem dX6_readsLine_146 : decode cX6_readsLine 146 = .ok (.iinc 3 1, 3) := by decide +kernel
theorem dX6_readsLine_149 : decode cX6_readsLine 149 = .ok (.goto (-14), 3) := by decide +kernel
theorem dX6_readsLine_152 : decode cX6_readsLine 152 = .ok (.iinc 2 1, 3) := by decide +kernel
theorem dX6_readsLine_155 : decode cX6_readsLine 155 = .ok (.goto (-32), 3) := by decide +kernel
theorem dX6_readsLine_158 : decode cX6_readsLine 158 = .ok (.goto 85, 3) := by decide +kernel
theorem dX6_readsLine_161 : decode cX6_readsLine 161 = .ok (.aload_n 0, 1) := by decide +kernel
theorem dX6_readsLine_162 : decode cX6_readsLine 162 = .ok (.ldc 150, 2) := by decide +kernel
theorem dX6_readsLine_164 : decode cX6_readsLine 164 = .ok (.invokevirtual 139, 3) := by decide +kernel
theorem dX6_readsLine_167 : decode cX6_readsLine 167 = .ok (.ifCond .eq 70, 3) := by decide +kernel
theorem dX6_readsLine_170 : decode cX6_readsLine 170 = .ok (.aload_n 0, 1) := by decide +kernel
theorem dX6_readsLine_171 : decode cX6_readsLine 171 = .ok (.iconst 0, 1) := by decide +kernel
theorem dX6_readsLine_172 : decode cX6_readsLine 172 = .ok (.invokevirtual 131, 3) := by decide +kernel
theorem dX6_readsLine_175 : decode cX6_readsLine 175 = .ok (.istore_n 2, 1) := by decide +kernel
theorem dX6_readsLine_176 : decode cX6_readsLine 176 = .ok (.aload_n 0, 1) := by decide +kernel
theorem dX6_readsLine_177 : decode cX6_readsLine 177 = .ok (.aload_n 0, 1) := by decide +kernel
theorem dX6_readsLine_178 : decode cX6_readsLine 178 = .ok (.invokevirtual 94, 3) := by decide +kernel
theorem dX6_readsLine_181 : decode cX6_readsLine 181 = .ok (.ifCond .eq 9, 3) := by decide +kernel
theorem dX6_readsLine_184 : decode cX6_readsLine 184 = .ok (.iconst 1, 1) := by decide +kernel
theorem dX6_readsLine_185 : decode cX6_readsLine 185 = .ok (.iload_n 2, 1) := by decide +kernel
theorem dX6_readsLine_186 : decode cX6_readsLine 186 = .ok (.ishl, 1) := by decide +kernel
theorem dX6_readsLine_187 : decode cX6_readsLine 187 = .ok (.goto 4, 3) := by decide +kernel
theorem dX6_readsLine_190 : decode cX6_readsLine 190 = .ok (.iconst 0, 1) := by decide +kernel
theorem dX6_readsLine_191 : decode cX6_readsLine 191 = .ok (.invokevirtual 131, 3) := by decide +kernel
theorem dX6_readsLine_194 : decode cX6_readsLine 194 = .ok (.istore_n 3, 1) := by decide +kernel
theorem dX6_readsLine_195 : decode cX6_readsLine 195 = .ok (.aload_n 0, 1) := by decide +kernel
theorem dX6_readsLine_196 : decode cX6_readsLine 196 = .ok (.invokevirtual 94, 3) := by decide +kernel
theorem dX6_readsLine_199 : decode cX6_readsLine 199 = .ok (.ifCond .eq 35, 3) := by decide +kernel
theorem dX6_readsLine_202 : decode cX6_readsLine 202 = .ok (.aload_n 0, 1) := by decide +kernel
theorem dX6_readsLine_203 : decode cX6_readsLine 203 = .ok (.getfield 31, 3) := by decide +kernel
theorem dX6_readsLine_206 : decode cX6_readsLine 206 = .ok (.aload_n 0, 1) := by decide +kernel
theorem dX6_readsLine_207 : decode cX6_readsLine 207 = .ok (.getfield 152, 3) := by decide +kernel
theorem dX6_readsLine_210 : decode cX6_readsLine 210 = .ok (.iload_n 2, 1) := by decide +kernel
theorem dX6_readsLine_211 : decode cX6_readsLine 211 = .ok (.iastore, 1) := by decide +kernel
theorem dX6_readsLine_212 : decode cX6_readsLine 212 = .ok (.aload_n 0, 1) := by decide +kernel
theorem dX6_readsLine_213 : decode cX6_readsLine 213 = .ok (.getfield 31, 3) := by decide +kernel
theorem dX6_readsLine_216 : decode cX6_readsLine 216 = .ok (.aload_n 0, 1) := by decide +kernel
theorem dX6_readsLine_217 : decode cX6_readsLine 217 = .ok (.getfield 152, 3) := by decide +kernel
theorem dX6_readsLine_220 : decode cX6_readsLine 220 = .ok (.iconst 1, 1) := by decide +kernel
theorem dX6_readsLine_221 : decode cX6_readsLine 221 = .ok (.iadd, 1) := by decide +kernel
theorem dX6_readsLine_222 : decode cX6_readsLine 222 = .ok (.iload_n 3, 1) := by decide +kernel
theorem dX6_readsLine_223 : decode cX6_readsLine 223 = .ok (.iastore, 1) := by decide +kernel
theorem dX6_readsLine_224 : decode cX6_readsLine 224 = .ok (.aload_n 0, 1) := by decide +kernel
theorem dX6_readsLine_225 : decode cX6_readsLine 225 = .ok (.dup, 1) := by decide +kernel
theorem dX6_readsLine_226 : decode cX6_readsLine 226 = .ok (.getfield 152, 3) := by decide +kernel
theorem dX6_readsLine_229 : decode cX6_readsLine 229 = .ok (.iconst 2, 1) := by decide +kernel
theorem dX6_readsLine_230 : decode cX6_readsLine 230 = .ok (.iadd, 1) := by decide +kernel
theorem dX6_readsLine_231 : decode cX6_readsLine 231 = .ok (.putfield 152, 3) := by decide +kernel
theorem dX6_readsLine_234 : decode cX6_readsLine 234 = .ok (.goto 9, 3) := by decide +kernel
theorem dX6_readsLine_237 : decode cX6_readsLine 237 = .ok (.aload_n 0, 1) := by decide +kernel
theorem dX6_readsLine_238 : decode cX6_readsLine 238 = .ok (.iconst 1, 1) := by decide +kernel
theorem dX6_readsLine_239 : decode cX6_readsLine 239 = .ok (.iload_n 1, 1) := by decide +kernel
theorem dX6_readsLine_240 : decode cX6_readsLine 240 = .ok (.invokevirtual 115, 3) := by decide +kernel
theorem dX6_readsLine_243 : decode cX6_readsLine 243 = .ok (.aload_n 0, 1) := by decide +kernel
theorem dX6_readsLine_244 : decode cX6_readsLine 244 = .ok (.bipush 59, 2) := by decide +kernel
theorem dX6_readsLine_246 : decode cX6_readsLine 246 = .ok (.invokevirtual 155, 3) := by decide +kernel
theorem dX6_readsLine_249 : decode cX6_readsLine 249 = .ok (.return_, 1) := by decide +kernel
theorem dX6_arePairs_0 : decode cX6_arePairs 0 = .ok (.iconst 0, 1) := by decide +kernel
theorem dX6_arePairs_1 : decode cX6_arePairs 1 = .ok (.istore_n 1, 1) := by decide +kernel
theorem dX6_arePairs_2 : decode cX6_arePairs 2 = .ok (.iload_n 1, 1) := by decide +kernel
theorem dX6_arePairs_3 : decode cX6_arePairs 3 = .ok (.aload_n 0, 1) := by decide +kernel
theorem dX6_arePairs_4 : decode cX6_arePairs 4 = .ok (.getfield 152, 3) := by decide +kernel
theorem dX6_arePairs_7 : decode cX6_arePairs 7 = .ok (.if_icmp .ge 87, 3) := by decide +kernel
theorem dX6_arePairs_10 : decode cX6_arePairs 10 = .ok (.aload_n 0, 1) := by decide +kernel
theorem dX6_arePairs_11 : decode cX6_arePairs 11 = .ok (.getfield 31, 3) := by decide +kernel
theorem dX6_arePairs_14 : decode cX6_arePairs 14 = .ok (.iload_n 1, 1) := by decide +kernel
theorem dX6_arePairs_15 : decode cX6_arePairs 15 = .ok (.iaload, 1) := by decide +kernel
theorem dX6_arePairs_16 : decode cX6_arePairs 16 = .ok (.istore_n 2, 1) := by decide +kernel
theorem dX6_arePairs_17 : decode cX6_arePairs 17 = .ok (.aload_n 0, 1) := by decide +kernel
theorem dX6_arePairs_18 : decode cX6_arePairs 18 = .ok (.getfield 31, 3) := by decide +kernel
theorem dX6_arePairs_21 : decode cX6_arePairs 21 = .ok (.iload_n 1, 1) := by decide +kernel
theorem dX6_arePairs_22 : decode cX6_arePairs 22 = .ok (.iconst 1, 1) := by decide +kernel
theorem dX6_arePairs_23 : decode cX6_arePairs 23 = .ok (.iadd, 1) := by decide +kernel
theorem dX6_arePairs_24 : decode cX6_arePairs 24 = .ok (.iaload, 1) := by decide +kernel
theorem dX6_arePairs_25 : decode cX6_arePairs 25 = .ok (.istore_n 3, 1) := by decide +kernel
theorem dX6_arePairs_26 : decode cX6_arePairs 26 = .ok (.aload_n 0, 1) := by decide +kernel
theorem dX6_arePairs_27 : decode cX6_arePairs 27 = .ok (.getfield 23, 3) := by decide +kernel
theorem dX6_arePairs_30 : decode cX6_arePairs 30 = .ok (.bipush 13, 2) := by decide +kernel
theorem dX6_arePairs_32 : decode cX6_arePairs 32 = .ok (.bipush 12, 2) := by decide +kernel
theorem dX6_arePairs_34 : decode cX6_arePairs 34 = .ok (.iload_n 2, 1) := by decide +kernel
theorem dX6_arePairs_35 : decode cX6_arePairs 35 = .ok (.imul, 1) := by decide +kernel
theorem dX6_arePairs_36 : decode cX6_arePairs 36 = .ok (.iadd, 1) := by decide +kernel
theorem dX6_arePairs_37 : decode cX6_arePairs 37 = .ok (.iload_n 3, 1) := by decide +kernel
theorem dX6_arePairs_38 : decode cX6_arePairs 38 = .ok (.iadd, 1) := by decide +kernel
theorem dX6_arePairs_39 : decode cX6_arePairs 39 = .ok (.iaload, 1) := by decide +kernel
theorem dX6_arePairs_40 : decode cX6_arePairs 40 = .ok (.iconst (-1), 1) := by decide +kernel
theorem dX6_arePairs_41 : decode cX6_arePairs 41 = .ok (.if_icmp .eq 27, 3) := by decide +kernel
theorem dX6_arePairs_44 : decode cX6_arePairs 44 = .ok (.aload_n 0, 1) := by decide +kernel
theorem dX6_arePairs_45 : decode cX6_arePairs 45 = .ok (.getfield 23, 3) := by decide +kernel
theorem dX6_arePairs_48 : decode cX6_arePairs 48 = .ok (.iconst 1, 1) := by decide +kernel
theorem dX6_arePairs_49 : decode cX6_arePairs 49 = .ok (.iload_n 2, 1) := by decide +kernel
theorem dX6_arePairs_50 : decode cX6_arePairs 50 = .ok (.iadd, 1) := by decide +kernel
theorem dX6_arePairs_51 : decode cX6_arePairs 51 = .ok (.iaload, 1) := by decide +kernel
theorem dX6_arePairs_52 : decode cX6_arePairs 52 = .ok (.iconst (-1), 1) := by decide +kernel
theorem dX6_arePairs_53 : decode cX6_arePairs 53 = .ok (.if_icmp .ne 15, 3) := by decide +kernel
theorem dX6_arePairs_56 : decode cX6_arePairs 56 = .ok (.aload_n 0, 1) := by decide +kernel
theorem dX6_arePairs_57 : decode cX6_arePairs 57 = .ok (.getfield 23, 3) := by decide +kernel
theorem dX6_arePairs_60 : decode cX6_arePairs 60 = .ok (.iconst 1, 1) := by decide +kernel
theorem dX6_arePairs_61 : decode cX6_arePairs 61 = .ok (.iload_n 3, 1) := by decide +kernel
theorem dX6_arePairs_62 : decode cX6_arePairs 62 = .ok (.iadd, 1) := by decide +kernel
theorem dX6_arePairs_63 : decode cX6_arePairs 63 = .ok (.iaload, 1) := by decide +kernel
theorem dX6_arePairs_64 : decode cX6_arePairs 64 = .ok (.iconst (-1), 1) := by decide +kernel
theorem dX6_arePairs_65 : decode cX6_arePairs 65 = .ok (.if_icmp .eq 5, 3) := by decide +kernel
theorem dX6_arePairs_68 : decode cX6_arePairs 68 = .ok (.iconst 0, 1) := by decide +kernel
theorem dX6_arePairs_69 : decode cX6_arePairs 69 = .ok (.ireturn, 1) := by decide +kernel
theorem dX6_arePairs_70 : decode cX6_arePairs 70 = .ok (.aload_n 0, 1) := by decide +kernel
theorem dX6_arePairs_71 : decode cX6_arePairs 71 = .ok (.getfield 23, 3) := by decide +kernel
theorem dX6_arePairs_74 : decode cX6_arePairs 74 = .ok (.iconst 1, 1) := by decide +kernel
theorem dX6_arePairs_75 : decode cX6_arePairs 75 = .ok (.iload_n 2, 1) := by decide +kernel
theorem dX6_arePairs_76 : decode cX6_arePairs 76 = .ok (.iadd, 1) := by decide +kernel
theorem dX6_arePairs_77 : decode cX6_arePairs 77 = .ok (.iload_n 3, 1) := by decide +kernel
theorem dX6_arePairs_78 : decode cX6_arePairs 78 = .ok (.iastore, 1) := by decide +kernel
theorem dX6_arePairs_79 : decode cX6_arePairs 79 = .ok (.aload_n 0, 1) := by decide +kernel
theorem dX6_arePairs_80 : decode cX6_arePairs 80 = .ok (.getfield 23, 3) := by decide +kernel
theorem dX6_arePairs_83 : decode cX6_arePairs 83 = .ok (.iconst 1, 1) := by decide +kernel
theorem dX6_arePairs_84 : decode cX6_arePairs 84 = .ok (.iload_n 3, 1) := by decide +kernel
theorem dX6_arePairs_85 : decode cX6_arePairs 85 = .ok (.iadd, 1) := by decide +kernel
theorem dX6_arePairs_86 : decode cX6_arePairs 86 = .ok (.iload_n 2, 1) := by decide +kernel
theorem dX6_arePairs_87 : decode cX6_arePairs 87 = .ok (.iastore, 1) := by decide +kernel
theorem dX6_arePairs_88 : decode cX6_arePairs 88 = .ok (.iinc 1 2, 3) := by decide +kernel
theorem dX6_arePairs_91 : decode cX6_arePairs 91 = .ok (.goto (-89), 3) := by decide +kernel
theorem dX6_arePairs_94 : decode cX6_arePairs 94 = .ok (.iconst 1, 1) := by decide +kernel
theorem dX6_arePairs_95 : decode cX6_arePairs 95 = .ok (.ireturn, 1) := by decide +kernel
theorem dX6_text_0 : decode cX6_text 0 = .ok (.aload_n 0, 1) := by decide +kernel
theorem dX6_text_1 : decode cX6_text 1 = .ok (.iconst 0, 1) := by decide +kernel
theorem dX6_text_2 : decode cX6_text 2 = .ok (.putfield 72, 3) := by decide +kernel
theorem dX6_text_5 : decode cX6_text 5 = .ok (.aload_n 0, 1) := by decide +kernel
theorem dX6_text_6 : decode cX6_text 6 = .ok (.iload_n 1, 1) := by decide +kernel
theorem dX6_text_7 : decode cX6_text 7 = .ok (.iconst 0, 1) := by decide +kernel
theorem dX6_text_8 : decode cX6_text 8 = .ok (.aload_n 0, 1) := by decide +kernel
theorem dX6_text_9 : decode cX6_text 9 = .ok (.getfield 75, 3) := by decide +kernel
theorem dX6_text_12 : decode cX6_text 12 = .ok (.invokestatic 111, 3) := by decide +kernel
theorem dX6_text_15 : decode cX6_text 15 = .ok (.ifCond .ne 7, 3) := by decide +kernel
theorem dX6_text_18 : decode cX6_text 18 = .ok (.iconst 1, 1) := by decide +kernel
theorem dX6_text_19 : decode cX6_text 19 = .ok (.goto 4, 3) := by decide +kernel
theorem dX6_text_22 : decode cX6_text 22 = .ok (.iconst 0, 1) := by decide +kernel
theorem dX6_text_23 : decode cX6_text 23 = .ok (.iconst 1, 1) := by decide +kernel
theorem dX6_text_24 : decode cX6_text 24 = .ok (.iconst 1, 1) := by decide +kernel
theorem dX6_text_25 : decode cX6_text 25 = .ok (.invokevirtual 159, 3) := by decide +kernel
theorem dX6_text_28 : decode cX6_text 28 = .ok (.ifCond .eq 5, 3) := by decide +kernel
theorem dX6_text_31 : decode cX6_text 31 = .ok (.iconst 0, 1) := by decide +kernel
theorem dX6_text_32 : decode cX6_text 32 = .ok (.ireturn, 1) := by decide +kernel
theorem dX6_text_33 : decode cX6_text 33 = .ok (.aload_n 0, 1) := by decide +kernel
theorem dX6_text_34 : decode cX6_text 34 = .ok (.iconst 0, 1) := by decide +kernel
theorem dX6_text_35 : decode cX6_text 35 = .ok (.putfield 75, 3) := by decide +kernel
theorem dX6_text_38 : decode cX6_text 38 = .ok (.aload_n 0, 1) := by decide +kernel
theorem dX6_text_39 : decode cX6_text 39 = .ok (.iload_n 1, 1) := by decide +kernel
theorem dX6_text_40 : decode cX6_text 40 = .ok (.putfield 78, 3) := by decide +kernel
theorem dX6_text_43 : decode cX6_text 43 = .ok (.aload_n 0, 1) := by decide +kernel
theorem dX6_text_44 : decode cX6_text 44 = .ok (.iconst 0, 1) := by decide +kernel
theorem dX6_text_45 : decode cX6_text 45 = .ok (.putfield 81, 3) := by decide +kernel
theorem dX6_text_48 : decode cX6_text 48 = .ok (.aload_n 0, 1) := by decide +kernel
theorem dX6_text_49 : decode cX6_text 49 = .ok (.iconst 0, 1) := by decide +kernel
theorem dX6_text_50 : decode cX6_text 50 = .ok (.putfield 88, 3) := by decide +kernel
theorem dX6_text_53 : decode cX6_text 53 = .ok (.aload_n 0, 1) := by decide +kernel
theorem dX6_text_54 : decode cX6_text 54 = .ok (.iconst (-1), 1) := by decide +kernel
theorem dX6_text_55 : decode cX6_text 55 = .ok (.putfield 91, 3) := by decide +kernel
theorem dX6_text_58 : decode cX6_text 58 = .ok (.aload_n 0, 1) := by decide +kernel
theorem dX6_text_59 : decode cX6_text 59 = .ok (.iconst 0, 1) := by decide +kernel
theorem dX6_text_60 : decode cX6_text 60 = .ok (.putfield 152, 3) := by decide +kernel
theorem dX6_text_63 : decode cX6_text 63 = .ok (.aload_n 0, 1) := by decide +kernel
theorem dX6_text_64 : decode cX6_text 64 = .ok (.getfield 23, 3) := by decide +kernel
theorem dX6_text_67 : decode cX6_text 67 = .ok (.invokestatic 61, 3) := by decide +kernel
theorem dX6_text_70 : decode cX6_text 70 = .ok (.aload_n 0, 1) := by decide +kernel
theorem dX6_text_71 : decode cX6_text 71 = .ok (.ldc 163, 2) := by decide +kernel
theorem dX6_text_73 : decode cX6_text 73 = .ok (.invokevirtual 139, 3) := by decide +kernel
theorem dX6_text_76 : decode cX6_text 76 = .ok (.ifCond .ne 12, 3) := by decide +kernel
theorem dX6_text_79 : decode cX6_text 79 = .ok (.aload_n 0, 1) := by decide +kernel
theorem dX6_text_80 : decode cX6_text 80 = .ok (.iconst 1, 1) := by decide +kernel
theorem dX6_text_81 : decode cX6_text 81 = .ok (.aload_n 0, 1) := by decide +kernel
theorem dX6_text_82 : decode cX6_text 82 = .ok (.getfield 81, 3) := by decide +kernel
theorem dX6_text_85 : decode cX6_text 85 = .ok (.invokevirtual 115, 3) := by decide +kernel
theorem dX6_text_88 : decode cX6_text 88 = .ok (.aload_n 0, 1) := by decide +kernel
theorem dX6_text_89 : decode cX6_text 89 = .ok (.getfield 23, 3) := by decide +kernel
theorem dX6_text_92 : decode cX6_text 92 = .ok (.iconst 0, 1) := by decide +kernel
theorem dX6_text_93 : decode cX6_text 93 = .ok (.aload_n 0, 1) := by decide +kernel
theorem dX6_text_94 : decode cX6_text 94 = .ok (.iconst 1, 1) := by decide +kernel
theorem dX6_text_95 : decode cX6_text 95 = .ok (.bipush 12, 2) := by decide +kernel
theorem dX6_text_97 : decode cX6_text 97 = .ok (.iconst 0, 1) := by decide +kernel
theorem dX6_text_98 : decode cX6_text 98 = .ok (.invokevirtual 128, 3) := by decide +kernel
theorem dX6_text_101 : decode cX6_text 101 = .ok (.iastore, 1) := by decide +kernel
theorem dX6_text_102 : decode cX6_text 102 = .ok (.aload_n 0, 1) := by decide +kernel
theorem dX6_text_103 : decode cX6_text 103 = .ok (.bipush 59, 2) := by decide +kernel
theorem dX6_text_105 : decode cX6_text 105 = .ok (.invokevirtual 155, 3) := by decide +kernel
theorem dX6_text_108 : decode cX6_text 108 = .ok (.aload_n 0, 1) := by decide +kernel
theorem dX6_text_109 : decode cX6_text 109 = .ok (.invokevirtual 94, 3) := by decide +kernel
theorem dX6_text_112 : decode cX6_text 112 = .ok (.ifCond .eq 18, 3) := by decide +kernel
theorem dX6_text_115 : decode cX6_text 115 = .ok (.aload_n 0, 1) := by decide +kernel
theorem dX6_text_116 : decode cX6_text 116 = .ok (.invokevirtual 98, 3) := by decide +kernel
theorem dX6_text_119 : decode cX6_text 119 = .ok (.iconst (-1), 1) := by decide +kernel
theorem dX6_text_120 : decode cX6_text 120 = .ok (.if_icmp .eq 10, 3) := by decide +kernel
theorem dX6_text_123 : decode cX6_text 123 = .ok (.aload_n 0, 1) := by decide +kernel
theorem dX6_text_124 : decode cX6_text 124 = .ok (.invokevirtual 165, 3) := by decide +kernel
theorem dX6_text_127 : decode cX6_text 127 = .ok (.goto (-19), 3) := by decide +kernel
theorem dX6_text_130 : decode cX6_text 130 = .ok (.aload_n 0, 1) := by decide +kernel
theorem dX6_text_131 : decode cX6_text 131 = .ok (.invokevirtual 94, 3) := by decide +kernel
theorem dX6_text_134 : decode cX6_text 134 = .ok (.ifCond .eq 19, 3) := by decide +kernel
theorem dX6_text_137 : decode cX6_text 137 = .ok (.aload_n 0, 1) := by decide +kernel
theorem dX6_text_138 : decode cX6_text 138 = .ok (.invokevirtual 168, 3) := by decide +kernel
theorem dX6_text_141 : decode cX6_text 141 = .ok (.ifCond .ne 12, 3) := by decide +kernel
theorem dX6_text_144 : decode cX6_text 144 = .ok (.aload_n 0, 1) := by decide +kernel
theorem dX6_text_145 : decode cX6_text 145 = .ok (.iconst 3, 1) := by decide +kernel
theorem dX6_text_146 : decode cX6_text 146 = .ok (.aload_n 0, 1) := by decide +kernel
theorem dX6_text_147 : decode cX6_text 147 = .ok (.getfield 78, 3) := by decide +kernel
theorem dX6_text_150 : decode cX6_text 150 = .ok (.invokevirtual 115, 3) := by decide +kernel
theorem dX6_text_153 : decode cX6_text 153 = .ok (.aload_n 0, 1) := by decide +kernel
theorem dX6_text_154 : decode cX6_text 154 = .ok (.aload_n 0, 1) := by decide +kernel
theorem dX6_text_155 : decode cX6_text 155 = .ok (.getfield 91, 3) := by decide +kernel
theorem dX6_text_158 : decode cX6_text 158 = .ok (.putfield 13, 3) := by decide +kernel
theorem dX6_text_161 : decode cX6_text 161 = .ok (.aload_n 0, 1) := by decide +kernel
theorem dX6_text_162 : decode cX6_text 162 = .ok (.invokevirtual 94, 3) := by decide +kernel
theorem dX6_text_165 : decode cX6_text 165 = .ok (.ifCond .ne 11, 3) := by decide +kernel
theorem dX6_text_168 : decode cX6_text 168 = .ok (.aload_n 0, 1) := by decide +kernel
theorem dX6_text_169 : decode cX6_text 169 = .ok (.getfield 88, 3) := by decide +kernel
theorem dX6_text_172 : decode cX6_text 172 = .ok (.bipush 10, 2) := by decide +kernel
theorem dX6_text_174 : decode cX6_text 174 = .ok (.isub, 1) := by decide +kernel
theorem dX6_text_175 : decode cX6_text 175 = .ok (.ireturn, 1) := by decide +kernel
theorem dX6_text_176 : decode cX6_text 176 = .ok (.aload_n 0, 1) := by decide +kernel
theorem dX6_text_177 : decode cX6_text 177 = .ok (.invokevirtual 171, 3) := by decide +kernel
theorem dX6_text_180 : decode cX6_text 180 = .ok (.aload_n 0, 1) := by decide +kernel
theorem dX6_text_181 : decode cX6_text 181 = .ok (.getfield 23, 3) := by decide +kernel
theorem dX6_text_184 : decode cX6_text 184 = .ok (.aload_n 0, 1) := by decide +kernel
theorem dX6_text_185 : decode cX6_text 185 = .ok (.getfield 20, 3) := by decide +kernel
theorem dX6_text_188 : decode cX6_text 188 = .ok (.invokestatic 174, 3) := by decide +kernel
theorem dX6_text_191 : decode cX6_text 191 = .ok (.aload_n 0, 1) := by decide +kernel
theorem dX6_text_192 : decode cX6_text 192 = .ok (.invokevirtual 69, 3) := by decide +kernel
theorem dX6_text_195 : decode cX6_text 195 = .ok (.aload_n 0, 1) := by decide +kernel
theorem dX6_text_196 : decode cX6_text 196 = .ok (.invokevirtual 178, 3) := by decide +kernel
theorem dX6_text_199 : decode cX6_text 199 = .ok (.ireturn, 1) := by decide +kernel
theorem dX6_fault_0 : decode cX6_fault 0 = .ok (.aload_n 0, 1) := by decide +kernel
theorem dX6_fault_1 : decode cX6_fault 1 = .ok (.iconst 0, 1) := by decide +kernel
theorem dX6_fault_2 : decode cX6_fault 2 = .ok (.putfield 72, 3) := by decide +kernel
theorem dX6_fault_5 : decode cX6_fault 5 = .ok (.aload_n 0, 1) := by decide +kernel
theorem dX6_fault_6 : decode cX6_fault 6 = .ok (.getfield 13, 3) := by decide +kernel
theorem dX6_fault_9 : decode cX6_fault 9 = .ok (.ireturn, 1) := by decide +kernel
theorem dX6_nodes_0 : decode cX6_nodes 0 = .ok (.aload_n 0, 1) := by decide +kernel
theorem dX6_nodes_1 : decode cX6_nodes 1 = .ok (.getfield 20, 3) := by decide +kernel
theorem dX6_nodes_4 : decode cX6_nodes 4 = .ok (.iconst 0, 1) := by decide +kernel
theorem dX6_nodes_5 : decode cX6_nodes 5 = .ok (.iaload, 1) := by decide +kernel
theorem dX6_nodes_6 : decode cX6_nodes 6 = .ok (.ireturn, 1) := by decide +kernel
theorem dX6_all_0 : decode cX6_all 0 = .ok (.iconst 1, 1) := by decide +kernel
theorem dX6_all_1 : decode cX6_all 1 = .ok (.aload_n 0, 1) := by decide +kernel
theorem dX6_all_2 : decode cX6_all 2 = .ok (.invokevirtual 181, 3) := by decide +kernel
theorem dX6_all_5 : decode cX6_all 5 = .ok (.ishl, 1) := by decide +kernel
theorem dX6_all_6 : decode cX6_all 6 = .ok (.iconst 1, 1) := by decide +kernel
theorem dX6_all_7 : decode cX6_all 7 = .ok (.isub, 1) := by decide +kernel
theorem dX6_all_8 : decode cX6_all 8 = .ok (.ireturn, 1) := by decide +kernel
theorem dX6_mate_0 : decode cX6_mate 0 = .ok (.aload_n 0, 1) := by decide +kernel
theorem dX6_mate_1 : decode cX6_mate 1 = .ok (.getfield 20, 3) := by decide +kernel
theorem dX6_mate_4 : decode cX6_mate 4 = .ok (.iconst 1, 1) := by decide +kernel
theorem dX6_mate_5 : decode cX6_mate 5 = .ok (.iload_n 1, 1) := by decide +kernel
theorem dX6_mate_6 : decode cX6_mate 6 = .ok (.iadd, 1) := by decide +kernel
theorem dX6_mate_7 : decode cX6_mate 7 = .ok (.iaload, 1) := by decide +kernel
theorem dX6_mate_8 : decode cX6_mate 8 = .ok (.ireturn, 1) := by decide +kernel
theorem dX6_weight_0 : decode cX6_weight 0 = .ok (.aload_n 0, 1) := by decide +kernel
theorem dX6_weight_1 : decode cX6_weight 1 = .ok (.getfield 20, 3) := by decide +kernel
theorem dX6_weight_4 : decode cX6_weight 4 = .ok (.bipush 13, 2) := by decide +kernel
theorem dX6_weight_6 : decode cX6_weight 6 = .ok (.bipush 12, 2) := by decide +kernel
theorem dX6_weight_8 : decode cX6_weight 8 = .ok (.iload_n 1, 1) := by decide +kernel
theorem dX6_weight_9 : decode cX6_weight 9 = .ok (.imul, 1) := by decide +kernel
theorem dX6_weight_10 : decode cX6_weight 10 = .ok (.iadd, 1) := by decide +kernel
theorem dX6_weight_11 : decode cX6_weight 11 = .ok (.iload_n 2, 1) := by decide +kernel
theorem dX6_weight_12 : decode cX6_weight 12 = .ok (.iadd, 1) := by decide +kernel
theorem dX6_weight_13 : decode cX6_weight 13 = .ok (.iaload, 1) := by decide +kernel
theorem dX6_weight_14 : decode cX6_weight 14 = .ok (.ireturn, 1) := by decide +kernel
theorem dX6_has_0 : decode cX6_has 0 = .ok (.iload_n 0, 1) := by decide +kernel
theorem dX6_has_1 : decode cX6_has 1 = .ok (.iload_n 1, 1) := by decide +kernel
theorem dX6_has_2 : decode cX6_has 2 = .ok (.ishr, 1) := by decide +kernel
theorem dX6_has_3 : decode cX6_has 3 = .ok (.iconst 1, 1) := by decide +kernel
theorem dX6_has_4 : decode cX6_has 4 = .ok (.iand, 1) := by decide +kernel
theorem dX6_has_5 : decode cX6_has 5 = .ok (.iconst 1, 1) := by decide +kernel
theorem dX6_has_6 : decode cX6_has 6 = .ok (.if_icmp .ne 7, 3) := by decide +kernel
theorem dX6_has_9 : decode cX6_has 9 = .ok (.iconst 1, 1) := by decide +kernel
theorem dX6_has_10 : decode cX6_has 10 = .ok (.goto 4, 3) := by decide +kernel
theorem dX6_has_13 : decode cX6_has 13 = .ok (.iconst 0, 1) := by decide +kernel
theorem dX6_has_14 : decode cX6_has 14 = .ok (.ireturn, 1) := by decide +kernel
theorem dX6_bits_0 : decode cX6_bits 0 = .ok (.iconst 0, 1) := by decide +kernel
theorem dX6_bits_1 : decode cX6_bits 1 = .ok (.istore_n 1, 1) := by decide +kernel
theorem dX6_bits_2 : decode cX6_bits 2 = .ok (.iload_n 0, 1) := by decide +kernel
theorem dX6_bits_3 : decode cX6_bits 3 = .ok (.istore_n 2, 1) := by decide +kernel
theorem dX6_bits_4 : decode cX6_bits 4 = .ok (.iload_n 2, 1) := by decide +kernel
theorem dX6_bits_5 : decode cX6_bits 5 = .ok (.ifCond .eq 15, 3) := by decide +kernel
theorem dX6_bits_8 : decode cX6_bits 8 = .ok (.iinc 1 1, 3) := by decide +kernel
theorem dX6_bits_11 : decode cX6_bits 11 = .ok (.iload_n 2, 1) := by decide +kernel
theorem dX6_bits_12 : decode cX6_bits 12 = .ok (.iload_n 2, 1) := by decide +kernel
theorem dX6_bits_13 : decode cX6_bits 13 = .ok (.iconst 1, 1) := by decide +kernel
theorem dX6_bits_14 : decode cX6_bits 14 = .ok (.isub, 1) := by decide +kernel
theorem dX6_bits_15 : decode cX6_bits 15 = .ok (.iand, 1) := by decide +kernel
theorem dX6_bits_16 : decode cX6_bits 16 = .ok (.istore_n 2, 1) := by decide +kernel
theorem dX6_bits_17 : decode cX6_bits 17 = .ok (.goto (-13), 3) := by decide +kernel
theorem dX6_bits_20 : decode cX6_bits 20 = .ok (.iload_n 1, 1) := by decide +kernel
theorem dX6_bits_21 : decode cX6_bits 21 = .ok (.ireturn, 1) := by decide +kernel
theorem dX6_first_0 : decode cX6_first 0 = .ok (.iconst 0, 1) := by decide +kernel
theorem dX6_first_1 : decode cX6_first 1 = .ok (.istore_n 1, 1) := by decide +kernel
theorem dX6_first_2 : decode cX6_first 2 = .ok (.iload_n 0, 1) := by decide +kernel
theorem dX6_first_3 : decode cX6_first 3 = .ok (.iload_n 1, 1) := by decide +kernel
theorem dX6_first_4 : decode cX6_first 4 = .ok (.invokestatic 183, 3) := by decide +kernel
theorem dX6_first_7 : decode cX6_first 7 = .ok (.ifCond .ne 9, 3) := by decide +kernel
theorem dX6_first_10 : decode cX6_first 10 = .ok (.iinc 1 1, 3) := by decide +kernel
theorem dX6_first_13 : decode cX6_first 13 = .ok (.goto (-11), 3) := by decide +kernel
theorem dX6_first_16 : decode cX6_first 16 = .ok (.iload_n 1, 1) := by decide +kernel
theorem dX6_first_17 : decode cX6_first 17 = .ok (.ireturn, 1) := by decide +kernel
theorem dX6_changes_0 : decode cX6_changes 0 = .ok (.aload_n 0, 1) := by decide +kernel
theorem dX6_changes_1 : decode cX6_changes 1 = .ok (.iconst 0, 1) := by decide +kernel
theorem dX6_changes_2 : decode cX6_changes 2 = .ok (.putfield 187, 3) := by decide +kernel
theorem dX6_changes_5 : decode cX6_changes 5 = .ok (.return_, 1) := by decide +kernel
theorem dX6_adds_0 : decode cX6_adds 0 = .ok (.aload_n 0, 1) := by decide +kernel
theorem dX6_adds_1 : decode cX6_adds 1 = .ok (.getfield 34, 3) := by decide +kernel
theorem dX6_adds_4 : decode cX6_adds 4 = .ok (.iload_n 2, 1) := by decide +kernel
theorem dX6_adds_5 : decode cX6_adds 5 = .ok (.iaload, 1) := by decide +kernel
theorem dX6_adds_6 : decode cX6_adds 6 = .ok (.iload_n 3, 1) := by decide +kernel
theorem dX6_adds_7 : decode cX6_adds 7 = .ok (.iadd, 1) := by decide +kernel
theorem dX6_adds_8 : decode cX6_adds 8 = .ok (.istore 5, 2) := by decide +kernel
theorem dX6_adds_10 : decode cX6_adds 10 = .ok (.iload 5, 2) := by decide +kernel
theorem dX6_adds_12 : decode cX6_adds 12 = .ok (.aload_n 0, 1) := by decide +kernel
theorem dX6_adds_13 : decode cX6_adds 13 = .ok (.getfield 34, 3) := by decide +kernel
theorem dX6_adds_16 : decode cX6_adds 16 = .ok (.iload_n 1, 1) := by decide +kernel
theorem dX6_adds_17 : decode cX6_adds 17 = .ok (.iaload, 1) := by decide +kernel
theorem dX6_adds_18 : decode cX6_adds 18 = .ok (.if_icmp .ge 4, 3) := by decide +kernel
theorem dX6_adds_21 : decode cX6_adds 21 = .ok (.return_, 1) := by decide +kernel
theorem dX6_adds_22 : decode cX6_adds 22 = .ok (.iload 5, 2) := by decide +kernel
theorem dX6_adds_24 : decode cX6_adds 24 = .ok (.aload_n 0, 1) := by decide +kernel
theorem dX6_adds_25 : decode cX6_adds 25 = .ok (.getfield 34, 3) := by decide +kernel
theorem dX6_adds_28 : decode cX6_adds 28 = .ok (.iload_n 1, 1) := by decide +kernel
theorem dX6_adds_29 : decode cX6_adds 29 = .ok (.iaload, 1) := by decide +kernel
theorem dX6_adds_30 : decode cX6_adds 30 = .ok (.if_icmp .le 25, 3) := by decide +kernel
theorem dX6_adds_33 : decode cX6_adds 33 = .ok (.aload_n 0, 1) := by decide +kernel
theorem dX6_adds_34 : decode cX6_adds 34 = .ok (.getfield 43, 3) := by decide +kernel
theorem dX6_adds_37 : decode cX6_adds 37 = .ok (.iload_n 1, 1) := by decide +kernel
theorem dX6_adds_38 : decode cX6_adds 38 = .ok (.lconst 0, 1) := by decide +kernel
theorem dX6_adds_39 : decode cX6_adds 39 = .ok (.lastore, 1) := by decide +kernel
theorem dX6_adds_40 : decode cX6_adds 40 = .ok (.aload_n 0, 1) := by decide +kernel
theorem dX6_adds_41 : decode cX6_adds 41 = .ok (.getfield 37, 3) := by decide +kernel
theorem dX6_adds_44 : decode cX6_adds 44 = .ok (.iload_n 1, 1) := by decide +kernel
theorem dX6_adds_45 : decode cX6_adds 45 = .ok (.iconst (-1), 1) := by decide +kernel
theorem dX6_adds_46 : decode cX6_adds 46 = .ok (.iastore, 1) := by decide +kernel
theorem dX6_adds_47 : decode cX6_adds 47 = .ok (.aload_n 0, 1) := by decide +kernel
theorem dX6_adds_48 : decode cX6_adds 48 = .ok (.getfield 40, 3) := by decide +kernel
theorem dX6_adds_51 : decode cX6_adds 51 = .ok (.iload_n 1, 1) := by decide +kernel
theorem dX6_adds_52 : decode cX6_adds 52 = .ok (.ldc 193, 2) := by decide +kernel
theorem dX6_adds_54 : decode cX6_adds 54 = .ok (.iastore, 1) := by decide +kernel
theorem dX6_adds_55 : decode cX6_adds 55 = .ok (.aload_n 0, 1) := by decide +kernel
theorem dX6_adds_56 : decode cX6_adds 56 = .ok (.getfield 34, 3) := by decide +kernel
theorem dX6_adds_59 : decode cX6_adds 59 = .ok (.iload_n 1, 1) := by decide +kernel
theorem dX6_adds_60 : decode cX6_adds 60 = .ok (.iload 5, 2) := by decide +kernel
theorem dX6_adds_62 : decode cX6_adds 62 = .ok (.iastore, 1) := by decide +kernel
theorem dX6_adds_63 : decode cX6_adds 63 = .ok (.aload_n 0, 1) := by decide +kernel
theorem dX6_adds_64 : decode cX6_adds 64 = .ok (.getfield 43, 3) := by decide +kernel
theorem dX6_adds_67 : decode cX6_adds 67 = .ok (.iload_n 1, 1) := by decide +kernel
theorem dX6_adds_68 : decode cX6_adds 68 = .ok (.dup2, 1) := by decide +kernel
theorem dX6_adds_69 : decode cX6_adds 69 = .ok (.laload, 1) := by decide +kernel
theorem dX6_adds_70 : decode cX6_adds 70 = .ok (.aload_n 0, 1) := by decide +kernel
theorem dX6_adds_71 : decode cX6_adds 71 = .ok (.getfield 43, 3) := by decide +kernel
theorem dX6_adds_74 : decode cX6_adds 74 = .ok (.iload_n 2, 1) := by decide +kernel
theorem dX6_adds_75 : decode cX6_adds 75 = .ok (.laload, 1) := by decide +kernel
theorem dX6_adds_76 : decode cX6_adds 76 = .ok (.ladd, 1) := by decide +kernel
theorem dX6_adds_77 : decode cX6_adds 77 = .ok (.lastore, 1) := by decide +kernel
theorem dX6_adds_78 : decode cX6_adds 78 = .ok (.aload_n 0, 1) := by decide +kernel
theorem dX6_adds_79 : decode cX6_adds 79 = .ok (.getfield 37, 3) := by decide +kernel
theorem dX6_adds_82 : decode cX6_adds 82 = .ok (.iload_n 1, 1) := by decide +kernel
theorem dX6_adds_83 : decode cX6_adds 83 = .ok (.aload_n 0, 1) := by decide +kernel
theorem dX6_adds_84 : decode cX6_adds 84 = .ok (.getfield 37, 3) := by decide +kernel
theorem dX6_adds_87 : decode cX6_adds 87 = .ok (.iload_n 1, 1) := by decide +kernel
theorem dX6_adds_88 : decode cX6_adds 88 = .ok (.iaload, 1) := by decide +kernel
theorem dX6_adds_89 : decode cX6_adds 89 = .ok (.aload_n 0, 1) := by decide +kernel
theorem dX6_adds_90 : decode cX6_adds 90 = .ok (.getfield 37, 3) := by decide +kernel
theorem dX6_adds_93 : decode cX6_adds 93 = .ok (.iload_n 2, 1) := by decide +kernel
theorem dX6_adds_94 : decode cX6_adds 94 = .ok (.iaload, 1) := by decide +kernel
theorem dX6_adds_95 : decode cX6_adds 95 = .ok (.iload 4, 2) := by decide +kernel
theorem dX6_adds_97 : decode cX6_adds 97 = .ok (.iadd, 1) := by decide +kernel
theorem dX6_adds_98 : decode cX6_adds 98 = .ok (.if_icmp .le 12, 3) := by decide +kernel
theorem dX6_adds_101 : decode cX6_adds 101 = .ok (.aload_n 0, 1) := by decide +kernel
theorem dX6_adds_102 : decode cX6_adds 102 = .ok (.getfield 37, 3) := by decide +kernel
theorem dX6_adds_105 : decode cX6_adds 105 = .ok (.iload_n 1, 1) := by decide +kernel
theorem dX6_adds_106 : decode cX6_adds 106 = .ok (.iaload, 1) := by decide +kernel
theorem dX6_adds_107 : decode cX6_adds 107 = .ok (.goto 12, 3) := by decide +kernel
theorem dX6_adds_110 : decode cX6_adds 110 = .ok (.aload_n 0, 1) := by decide +kernel
theorem dX6_adds_111 : decode cX6_adds 111 = .ok (.getfield 37, 3) := by decide +kernel
theorem dX6_adds_114 : decode cX6_adds 114 = .ok (.iload_n 2, 1) := by decide +kernel
theorem dX6_adds_115 : decode cX6_adds 115 = .ok (.iaload, 1) := by decide +kernel
theorem dX6_adds_116 : decode cX6_adds 116 = .ok (.iload 4, 2) := by decide +kernel
theorem dX6_adds_118 : decode cX6_adds 118 = .ok (.iadd, 1) := by decide +kernel
theorem dX6_adds_119 : decode cX6_adds 119 = .ok (.iastore, 1) := by decide +kernel
theorem dX6_adds_120 : decode cX6_adds 120 = .ok (.aload_n 0, 1) := by decide +kernel
theorem dX6_adds_121 : decode cX6_adds 121 = .ok (.getfield 40, 3) := by decide +kernel
theorem dX6_adds_124 : decode cX6_adds 124 = .ok (.iload_n 1, 1) := by decide +kernel
theorem dX6_adds_125 : decode cX6_adds 125 = .ok (.aload_n 0, 1) := by decide +kernel
theorem dX6_adds_126 : decode cX6_adds 126 = .ok (.getfield 40, 3) := by decide +kernel
theorem dX6_adds_129 : decode cX6_adds 129 = .ok (.iload_n 1, 1) := by decide +kernel
theorem dX6_adds_130 : decode cX6_adds 130 = .ok (.iaload, 1) := by decide +kernel
theorem dX6_adds_131 : decode cX6_adds 131 = .ok (.aload_n 0, 1) := by decide +kernel
theorem dX6_adds_132 : decode cX6_adds 132 = .ok (.getfield 40, 3) := by decide +kernel
theorem dX6_adds_135 : decode cX6_adds 135 = .ok (.iload_n 2, 1) := by decide +kernel
theorem dX6_adds_136 : decode cX6_adds 136 = .ok (.iaload, 1) := by decide +kernel
theorem dX6_adds_137 : decode cX6_adds 137 = .ok (.iload 4, 2) := by decide +kernel
theorem dX6_adds_139 : decode cX6_adds 139 = .ok (.iadd, 1) := by decide +kernel
theorem dX6_adds_140 : decode cX6_adds 140 = .ok (.invokestatic 124, 3) := by decide +kernel
theorem dX6_adds_143 : decode cX6_adds 143 = .ok (.iastore, 1) := by decide +kernel
theorem dX6_adds_144 : decode cX6_adds 144 = .ok (.return_, 1) := by decide +kernel
theorem dX6_lays_0 : decode cX6_lays 0 = .ok (.aload_n 0, 1) := by decide +kernel
theorem dX6_lays_1 : decode cX6_lays 1 = .ok (.getfield 187, 3) := by decide +kernel
theorem dX6_lays_4 : decode cX6_lays 4 = .ok (.ifCond .eq 4, 3) := by decide +kernel
theorem dX6_lays_7 : decode cX6_lays 7 = .ok (.return_, 1) := by decide +kernel
theorem dX6_lays_8 : decode cX6_lays 8 = .ok (.aload_n 0, 1) := by decide +kernel
theorem dX6_lays_9 : decode cX6_lays 9 = .ok (.iconst 1, 1) := by decide +kernel
theorem dX6_lays_10 : decode cX6_lays 10 = .ok (.putfield 187, 3) := by decide +kernel
theorem dX6_lays_13 : decode cX6_lays 13 = .ok (.aload_n 0, 1) := by decide +kernel
theorem dX6_lays_14 : decode cX6_lays 14 = .ok (.getfield 43, 3) := by decide +kernel
theorem dX6_lays_17 : decode cX6_lays 17 = .ok (.iconst 0, 1) := by decide +kernel
theorem dX6_lays_18 : decode cX6_lays 18 = .ok (.lconst 1, 1) := by decide +kernel
theorem dX6_lays_19 : decode cX6_lays 19 = .ok (.lastore, 1) := by decide +kernel
theorem dX6_lays_20 : decode cX6_lays 20 = .ok (.aload_n 0, 1) := by decide +kernel
theorem dX6_lays_21 : decode cX6_lays 21 = .ok (.getfield 34, 3) := by decide +kernel
theorem dX6_lays_24 : decode cX6_lays 24 = .ok (.iconst 0, 1) := by decide +kernel
theorem dX6_lays_25 : decode cX6_lays 25 = .ok (.iconst 0, 1) := by decide +kernel
theorem dX6_lays_26 : decode cX6_lays 26 = .ok (.iastore, 1) := by decide +kernel
theorem dX6_lays_27 : decode cX6_lays 27 = .ok (.aload_n 0, 1) := by decide +kernel
theorem dX6_lays_28 : decode cX6_lays 28 = .ok (.getfield 37, 3) := by decide +kernel
theorem dX6_lays_31 : decode cX6_lays 31 = .ok (.iconst 0, 1) := by decide +kernel
theorem dX6_lays_32 : decode cX6_lays 32 = .ok (.iconst 0, 1) := by decide +kernel
theorem dX6_lays_33 : decode cX6_lays 33 = .ok (.iastore, 1) := by decide +kernel
theorem dX6_lays_34 : decode cX6_lays 34 = .ok (.aload_n 0, 1) := by decide +kernel
theorem dX6_lays_35 : decode cX6_lays 35 = .ok (.getfield 40, 3) := by decide +kernel
theorem dX6_lays_38 : decode cX6_lays 38 = .ok (.iconst 0, 1) := by decide +kernel
theorem dX6_lays_39 : decode cX6_lays 39 = .ok (.iconst 0, 1) := by decide +kernel
theorem dX6_lays_40 : decode cX6_lays 40 = .ok (.iastore, 1) := by decide +kernel
theorem dX6_lays_41 : decode cX6_lays 41 = .ok (.iconst 1, 1) := by decide +kernel
theorem dX6_lays_42 : decode cX6_lays 42 = .ok (.istore_n 1, 1) := by decide +kernel
theorem dX6_lays_43 : decode cX6_lays 43 = .ok (.iload_n 1, 1) := by decide +kernel
theorem dX6_lays_44 : decode cX6_lays 44 = .ok (.aload_n 0, 1) := by decide +kernel
theorem dX6_lays_45 : decode cX6_lays 45 = .ok (.invokevirtual 194, 3) := by decide +kernel
theorem dX6_lays_48 : decode cX6_lays 48 = .ok (.if_icmp .gt 98, 3) := by decide +kernel
theorem dX6_lays_51 : decode cX6_lays 51 = .ok (.iload_n 1, 1) := by decide +kernel
theorem dX6_lays_52 : decode cX6_lays 52 = .ok (.invokestatic 196, 3) := by decide +kernel
theorem dX6_lays_55 : decode cX6_lays 55 = .ok (.istore_n 2, 1) := by decide +kernel
theorem dX6_lays_56 : decode cX6_lays 56 = .ok (.iload_n 1, 1) := by decide +kernel
theorem dX6_lays_57 : decode cX6_lays 57 = .ok (.iconst 1, 1) := by decide +kernel
theorem dX6_lays_58 : decode cX6_lays 58 = .ok (.iload_n 2, 1) := by decide +kernel
theorem dX6_lays_59 : decode cX6_lays 59 = .ok (.ishl, 1) := by decide +kernel
theorem dX6_lays_60 : decode cX6_lays 60 = .ok (.iconst (-1), 1) := by decide +kernel
theorem dX6_lays_61 : decode cX6_lays 61 = .ok (.ixor, 1) := by decide +kernel
theorem dX6_lays_62 : decode cX6_lays 62 = .ok (.iand, 1) := by decide +kernel
theorem dX6_lays_63 : decode cX6_lays 63 = .ok (.istore_n 3, 1) := by decide +kernel
theorem dX6_lays_64 : decode cX6_lays 64 = .ok (.aload_n 0, 1) := by decide +kernel
theorem dX6_lays_65 : decode cX6_lays 65 = .ok (.getfield 34, 3) := by decide +kernel
theorem dX6_lays_68 : decode cX6_lays 68 = .ok (.iload_n 1, 1) := by decide +kernel
theorem dX6_lays_69 : decode cX6_lays 69 = .ok (.iconst (-1), 1) := by decide +kernel
theorem dX6_lays_70 : decode cX6_lays 70 = .ok (.iastore, 1) := by decide +kernel
theorem dX6_lays_71 : decode cX6_lays 71 = .ok (.aload_n 0, 1) := by decide +kernel
theorem dX6_lays_72 : decode cX6_lays 72 = .ok (.iload_n 1, 1) := by decide +kernel
theorem dX6_lays_73 : decode cX6_lays 73 = .ok (.iload_n 3, 1) := by decide +kernel
theorem dX6_lays_74 : decode cX6_lays 74 = .ok (.iconst 0, 1) := by decide +kernel
theorem dX6_lays_75 : decode cX6_lays 75 = .ok (.iconst 0, 1) := by decide +kernel
theorem dX6_lays_76 : decode cX6_lays 76 = .ok (.invokevirtual 199, 3) := by decide +kernel
theorem dX6_lays_79 : decode cX6_lays 79 = .ok (.iload_n 2, 1) := by decide +kernel
theorem dX6_lays_80 : decode cX6_lays 80 = .ok (.iconst 1, 1) := by decide +kernel
theorem dX6_lays_81 : decode cX6_lays 81 = .ok (.iadd, 1) := by decide +kernel
theorem dX6_lays_82 : decode cX6_lays 82 = .ok (.istore 4, 2) := by decide +kernel
theorem dX6_lays_84 : decode cX6_lays 84 = .ok (.iload 4, 2) := by decide +kernel
theorem dX6_lays_86 : decode cX6_lays 86 = .ok (.aload_n 0, 1) := by decide +kernel
theorem dX6_lays_87 : decode cX6_lays 87 = .ok (.invokevirtual 181, 3) := by decide +kernel
theorem dX6_lays_90 : decode cX6_lays 90 = .ok (.if_icmp .ge 50, 3) := by decide +kernel
theorem dX6_lays_93 : decode cX6_lays 93 = .ok (.iload_n 3, 1) := by decide +kernel
theorem dX6_lays_94 : decode cX6_lays 94 = .ok (.iload 4, 2) := by decide +kernel
theorem dX6_lays_96 : decode cX6_lays 96 = .ok (.invokestatic 183, 3) := by decide +kernel
theorem dX6_lays_99 : decode cX6_lays 99 = .ok (.ifCond .eq 35, 3) := by decide +kernel
theorem dX6_lays_102 : decode cX6_lays 102 = .ok (.aload_n 0, 1) := by decide +kernel
theorem dX6_lays_103 : decode cX6_lays 103 = .ok (.iload_n 2, 1) := by decide +kernel
theorem dX6_lays_104 : decode cX6_lays 104 = .ok (.iload 4, 2) := by decide +kernel
theorem dX6_lays_106 : decode cX6_lays 106 = .ok (.invokevirtual 203, 3) := by decide +kernel
theorem dX6_lays_109 : decode cX6_lays 109 = .ok (.iconst (-1), 1) := by decide +kernel
theorem dX6_lays_110 : decode cX6_lays 110 = .ok (.if_icmp .eq 24, 3) := by decide +kernel
theorem dX6_lays_113 : decode cX6_lays 113 = .ok (.aload_n 0, 1) := by decide +kernel
theorem dX6_lays_114 : decode cX6_lays 114 = .ok (.iload_n 1, 1) := by decide +kernel
theorem dX6_lays_115 : decode cX6_lays 115 = .ok (.iload_n 3, 1) := by decide +kernel
theorem dX6_lays_116 : decode cX6_lays 116 = .ok (.iconst 1, 1) := by decide +kernel
theorem dX6_lays_117 : decode cX6_lays 117 = .ok (.iload 4, 2) := by decide +kernel
theorem dX6_lays_119 : decode cX6_lays 119 = .ok (.ishl, 1) := by decide +kernel
theorem dX6_lays_120 : decode cX6_lays 120 = .ok (.iconst (-1), 1) := by decide +kernel
theorem dX6_lays_121 : decode cX6_lays 121 = .ok (.ixor, 1) := by decide +kernel
theorem dX6_lays_122 : decode cX6_lays 122 = .ok (.iand, 1) := by decide +kernel
theorem dX6_lays_123 : decode cX6_lays 123 = .ok (.iconst 1, 1) := by decide +kernel
theorem dX6_lays_124 : decode cX6_lays 124 = .ok (.aload_n 0, 1) := by decide +kernel
theorem dX6_lays_125 : decode cX6_lays 125 = .ok (.iload_n 2, 1) := by decide +kernel
theorem dX6_lays_126 : decode cX6_lays 126 = .ok (.iload 4, 2) := by decide +kernel
theorem dX6_lays_128 : decode cX6_lays 128 = .ok (.invokevirtual 203, 3) := by decide +kernel
theorem dX6_lays_131 : decode cX6_lays 131 = .ok (.invokevirtual 199, 3) := by decide +kernel
theorem dX6_lays_134 : decode cX6_lays 134 = .ok (.iinc 4 1, 3) := by decide +kernel
theorem dX6_lays_137 : decode cX6_lays 137 = .ok (.goto (-53), 3) := by decide +kernel
theorem dX6_lays_140 : decode cX6_lays 140 = .ok (.iinc 1 1, 3) := by decide +kernel
theorem dX6_lays_143 : decode cX6_lays 143 = .ok (.goto (-100), 3) := by decide +kernel
theorem dX6_lays_146 : decode cX6_lays 146 = .ok (.return_, 1) := by decide +kernel
theorem dX6_missing_0 : decode cX6_missing 0 = .ok (.aload_n 0, 1) := by decide +kernel
theorem dX6_missing_1 : decode cX6_missing 1 = .ok (.invokevirtual 181, 3) := by decide +kernel
theorem dX6_missing_4 : decode cX6_missing 4 = .ok (.iconst 2, 1) := by decide +kernel
theorem dX6_missing_5 : decode cX6_missing 5 = .ok (.aload_n 0, 1) := by decide +kernel
theorem dX6_missing_6 : decode cX6_missing 6 = .ok (.getfield 34, 3) := by decide +kernel
theorem dX6_missing_9 : decode cX6_missing 9 = .ok (.aload_n 0, 1) := by decide +kernel
theorem dX6_missing_10 : decode cX6_missing 10 = .ok (.invokevirtual 194, 3) := by decide +kernel
theorem dX6_missing_13 : decode cX6_missing 13 = .ok (.iaload, 1) := by decide +kernel
theorem dX6_missing_14 : decode cX6_missing 14 = .ok (.imul, 1) := by decide +kernel
theorem dX6_missing_15 : decode cX6_missing 15 = .ok (.isub, 1) := by decide +kernel
theorem dX6_missing_16 : decode cX6_missing 16 = .ok (.ireturn, 1) := by decide +kernel
theorem dX6_lines_0 : decode cX6_lines 0 = .ok (.iconst 0, 1) := by decide +kernel
theorem dX6_lines_1 : decode cX6_lines 1 = .ok (.istore_n 1, 1) := by decide +kernel
theorem dX6_lines_2 : decode cX6_lines 2 = .ok (.iconst 0, 1) := by decide +kernel
theorem dX6_lines_3 : decode cX6_lines 3 = .ok (.istore_n 2, 1) := by decide +kernel
theorem dX6_lines_4 : decode cX6_lines 4 = .ok (.iload_n 2, 1) := by decide +kernel
theorem dX6_lines_5 : decode cX6_lines 5 = .ok (.aload_n 0, 1) := by decide +kernel
theorem dX6_lines_6 : decode cX6_lines 6 = .ok (.invokevirtual 181, 3) := by decide +kernel
theorem dX6_lines_9 : decode cX6_lines 9 = .ok (.if_icmp .ge 40, 3) := by decide +kernel
theorem dX6_lines_12 : decode cX6_lines 12 = .ok (.iconst 0, 1) := by decide +kernel
theorem dX6_lines_13 : decode cX6_lines 13 = .ok (.istore_n 3, 1) := by decide +kernel
theorem dX6_lines_14 : decode cX6_lines 14 = .ok (.iload_n 3, 1) := by decide +kernel
theorem dX6_lines_15 : decode cX6_lines 15 = .ok (.iload_n 2, 1) := by decide +kernel
theorem dX6_lines_16 : decode cX6_lines 16 = .ok (.if_icmp .ge 27, 3) := by decide +kernel
theorem dX6_lines_19 : decode cX6_lines 19 = .ok (.iload_n 1, 1) := by decide +kernel
theorem dX6_lines_20 : decode cX6_lines 20 = .ok (.aload_n 0, 1) := by decide +kernel
theorem dX6_lines_21 : decode cX6_lines 21 = .ok (.iload_n 2, 1) := by decide +kernel
theorem dX6_lines_22 : decode cX6_lines 22 = .ok (.iload_n 3, 1) := by decide +kernel
theorem dX6_lines_23 : decode cX6_lines 23 = .ok (.invokevirtual 203, 3) := by decide +kernel
theorem dX6_lines_26 : decode cX6_lines 26 = .ok (.iconst (-1), 1) := by decide +kernel
theorem dX6_lines_27 : decode cX6_lines 27 = .ok (.if_icmp .ne 7, 3) := by decide +kernel
theorem dX6_lines_30 : decode cX6_lines 30 = .ok (.iconst 0, 1) := by decide +kernel
theorem dX6_lines_31 : decode cX6_lines 31 = .ok (.goto 4, 3) := by decide +kernel
theorem dX6_lines_34 : decode cX6_lines 34 = .ok (.iconst 1, 1) := by decide +kernel
theorem dX6_lines_35 : decode cX6_lines 35 = .ok (.iadd, 1) := by decide +kernel
theorem dX6_lines_36 : decode cX6_lines 36 = .ok (.istore_n 1, 1) := by decide +kernel
theorem dX6_lines_37 : decode cX6_lines 37 = .ok (.iinc 3 1, 3) := by decide +kernel
theorem dX6_lines_40 : decode cX6_lines 40 = .ok (.goto (-26), 3) := by decide +kernel
theorem dX6_lines_43 : decode cX6_lines 43 = .ok (.iinc 2 1, 3) := by decide +kernel
theorem dX6_lines_46 : decode cX6_lines 46 = .ok (.goto (-42), 3) := by decide +kernel
theorem dX6_lines_49 : decode cX6_lines 49 = .ok (.iload_n 1, 1) := by decide +kernel
theorem dX6_lines_50 : decode cX6_lines 50 = .ok (.ireturn, 1) := by decide +kernel
theorem dX6_pairsNow_0 : decode cX6_pairsNow 0 = .ok (.iconst 0, 1) := by decide +kernel
theorem dX6_pairsNow_1 : decode cX6_pairsNow 1 = .ok (.istore_n 1, 1) := by decide +kernel
theorem dX6_pairsNow_2 : decode cX6_pairsNow 2 = .ok (.iconst 0, 1) := by decide +kernel
theorem dX6_pairsNow_3 : decode cX6_pairsNow 3 = .ok (.istore_n 2, 1) := by decide +kernel
theorem dX6_pairsNow_4 : decode cX6_pairsNow 4 = .ok (.iload_n 2, 1) := by decide +kernel
theorem dX6_pairsNow_5 : decode cX6_pairsNow 5 = .ok (.aload_n 0, 1) := by decide +kernel
theorem dX6_pairsNow_6 : decode cX6_pairsNow 6 = .ok (.invokevirtual 181, 3) := by decide +kernel
theorem dX6_pairsNow_9 : decode cX6_pairsNow 9 = .ok (.if_icmp .ge 26, 3) := by decide +kernel
theorem dX6_pairsNow_12 : decode cX6_pairsNow 12 = .ok (.iload_n 1, 1) := by decide +kernel
theorem dX6_pairsNow_13 : decode cX6_pairsNow 13 = .ok (.aload_n 0, 1) := by decide +kernel
theorem dX6_pairsNow_14 : decode cX6_pairsNow 14 = .ok (.iload_n 2, 1) := by decide +kernel
theorem dX6_pairsNow_15 : decode cX6_pairsNow 15 = .ok (.invokevirtual 206, 3) := by decide +kernel
theorem dX6_pairsNow_18 : decode cX6_pairsNow 18 = .ok (.iload_n 2, 1) := by decide +kernel
theorem dX6_pairsNow_19 : decode cX6_pairsNow 19 = .ok (.if_icmp .le 7, 3) := by decide +kernel
theorem dX6_pairsNow_22 : decode cX6_pairsNow 22 = .ok (.iconst 1, 1) := by decide +kernel
theorem dX6_pairsNow_23 : decode cX6_pairsNow 23 = .ok (.goto 4, 3) := by decide +kernel
theorem dX6_pairsNow_26 : decode cX6_pairsNow 26 = .ok (.iconst 0, 1) := by decide +kernel
theorem dX6_pairsNow_27 : decode cX6_pairsNow 27 = .ok (.iadd, 1) := by decide +kernel
theorem dX6_pairsNow_28 : decode cX6_pairsNow 28 = .ok (.istore_n 1, 1) := by decide +kernel
theorem dX6_pairsNow_29 : decode cX6_pairsNow 29 = .ok (.iinc 2 1, 3) := by decide +kernel
theorem dX6_pairsNow_32 : decode cX6_pairsNow 32 = .ok (.goto (-28), 3) := by decide +kernel
theorem dX6_pairsNow_35 : decode cX6_pairsNow 35 = .ok (.iload_n 1, 1) := by decide +kernel
theorem dX6_pairsNow_36 : decode cX6_pairsNow 36 = .ok (.ireturn, 1) := by decide +kernel
theorem dX6_laysFirst_0 : decode cX6_laysFirst 0 = .ok (.aload_n 0, 1) := by decide +kernel
theorem dX6_laysFirst_1 : decode cX6_laysFirst 1 = .ok (.invokevirtual 209, 3) := by decide +kernel
theorem dX6_laysFirst_4 : decode cX6_laysFirst 4 = .ok (.aload_n 0, 1) := by decide +kernel
theorem dX6_laysFirst_5 : decode cX6_laysFirst 5 = .ok (.invokevirtual 194, 3) := by decide +kernel
theorem dX6_laysFirst_8 : decode cX6_laysFirst 8 = .ok (.istore_n 1, 1) := by decide +kernel
theorem dX6_laysFirst_9 : decode cX6_laysFirst 9 = .ok (.aload_n 0, 1) := by decide +kernel
theorem dX6_laysFirst_10 : decode cX6_laysFirst 10 = .ok (.getfield 34, 3) := by decide +kernel
theorem dX6_laysFirst_13 : decode cX6_laysFirst 13 = .ok (.aload_n 0, 1) := by decide +kernel
theorem dX6_laysFirst_14 : decode cX6_laysFirst 14 = .ok (.invokevirtual 194, 3) := by decide +kernel
theorem dX6_laysFirst_17 : decode cX6_laysFirst 17 = .ok (.iaload, 1) := by decide +kernel
theorem dX6_laysFirst_18 : decode cX6_laysFirst 18 = .ok (.istore_n 2, 1) := by decide +kernel
theorem dX6_laysFirst_19 : decode cX6_laysFirst 19 = .ok (.iconst 0, 1) := by decide +kernel
theorem dX6_laysFirst_20 : decode cX6_laysFirst 20 = .ok (.istore_n 3, 1) := by decide +kernel
theorem dX6_laysFirst_21 : decode cX6_laysFirst 21 = .ok (.iload_n 3, 1) := by decide +kernel
theorem dX6_laysFirst_22 : decode cX6_laysFirst 22 = .ok (.aload_n 0, 1) := by decide +kernel
theorem dX6_laysFirst_23 : decode cX6_laysFirst 23 = .ok (.invokevirtual 181, 3) := by decide +kernel
theorem dX6_laysFirst_26 : decode cX6_laysFirst 26 = .ok (.if_icmp .ge 135, 3) := by decide +kernel
theorem dX6_laysFirst_29 : decode cX6_laysFirst 29 = .ok (.iload_n 1, 1) := by decide +kernel
theorem dX6_laysFirst_30 : decode cX6_laysFirst 30 = .ok (.iload_n 3, 1) := by decide +kernel
theorem dX6_laysFirst_31 : decode cX6_laysFirst 31 = .ok (.invokestatic 183, 3) := by decide +kernel
theorem dX6_laysFirst_34 : decode cX6_laysFirst 34 = .ok (.ifCond .ne 6, 3) := by decide +kernel
theorem dX6_laysFirst_37 : decode cX6_laysFirst 37 = .ok (.goto 118, 3) := by decide +kernel
theorem dX6_laysFirst_40 : decode cX6_laysFirst 40 = .ok (.iload_n 1, 1) := by decide +kernel
theorem dX6_laysFirst_41 : decode cX6_laysFirst 41 = .ok (.iconst 1, 1) := by decide +kernel
theorem dX6_laysFirst_42 : decode cX6_laysFirst 42 = .ok (.iload_n 3, 1) := by decide +kernel
theorem dX6_laysFirst_43 : decode cX6_laysFirst 43 = .ok (.ishl, 1) := by decide +kernel
theorem dX6_laysFirst_44 : decode cX6_laysFirst 44 = .ok (.iconst (-1), 1) := by decide +kernel
theorem dX6_laysFirst_45 : decode cX6_laysFirst 45 = .ok (.ixor, 1) := by decide +kernel
theorem dX6_laysFirst_46 : decode cX6_laysFirst 46 = .ok (.iand, 1) := by decide +kernel
theorem dX6_laysFirst_47 : decode cX6_laysFirst 47 = .ok (.istore_n 1, 1) := by decide +kernel
theorem dX6_laysFirst_48 : decode cX6_laysFirst 48 = .ok (.aload_n 0, 1) := by decide +kernel
theorem dX6_laysFirst_49 : decode cX6_laysFirst 49 = .ok (.getfield 47, 3) := by decide +kernel
theorem dX6_laysFirst_52 : decode cX6_laysFirst 52 = .ok (.iload_n 3, 1) := by decide +kernel
theorem dX6_laysFirst_53 : decode cX6_laysFirst 53 = .ok (.iconst (-1), 1) := by decide +kernel
theorem dX6_laysFirst_54 : decode cX6_laysFirst 54 = .ok (.iastore, 1) := by decide +kernel
theorem dX6_laysFirst_55 : decode cX6_laysFirst 55 = .ok (.iload_n 3, 1) := by decide +kernel
theorem dX6_laysFirst_56 : decode cX6_laysFirst 56 = .ok (.iconst 1, 1) := by decide +kernel
theorem dX6_laysFirst_57 : decode cX6_laysFirst 57 = .ok (.iadd, 1) := by decide +kernel
theorem dX6_laysFirst_58 : decode cX6_laysFirst 58 = .ok (.istore 4, 2) := by decide +kernel
theorem dX6_laysFirst_60 : decode cX6_laysFirst 60 = .ok (.iload 4, 2) := by decide +kernel
theorem dX6_laysFirst_62 : decode cX6_laysFirst 62 = .ok (.aload_n 0, 1) := by decide +kernel
theorem dX6_laysFirst_63 : decode cX6_laysFirst 63 = .ok (.invokevirtual 181, 3) := by decide +kernel
theorem dX6_laysFirst_66 : decode cX6_laysFirst 66 = .ok (.if_icmp .ge 89, 3) := by decide +kernel
theorem dX6_laysFirst_69 : decode cX6_laysFirst 69 = .ok (.aload_n 0, 1) := by decide +kernel
theorem dX6_laysFirst_70 : decode cX6_laysFirst 70 = .ok (.getfield 47, 3) := by decide +kernel
theorem dX6_laysFirst_73 : decode cX6_laysFirst 73 = .ok (.iload_n 3, 1) := by decide +kernel
theorem dX6_laysFirst_74 : decode cX6_laysFirst 74 = .ok (.iaload, 1) := by decide +kernel
theorem dX6_laysFirst_75 : decode cX6_laysFirst 75 = .ok (.iconst (-1), 1) := by decide +kernel
theorem dX6_laysFirst_76 : decode cX6_laysFirst 76 = .ok (.if_icmp .ne 79, 3) := by decide +kernel
theorem dX6_laysFirst_79 : decode cX6_laysFirst 79 = .ok (.iload_n 1, 1) := by decide +kernel
theorem dX6_laysFirst_80 : decode cX6_laysFirst 80 = .ok (.iload 4, 2) := by decide +kernel
theorem dX6_laysFirst_82 : decode cX6_laysFirst 82 = .ok (.invokestatic 183, 3) := by decide +kernel
theorem dX6_laysFirst_85 : decode cX6_laysFirst 85 = .ok (.ifCond .eq 64, 3) := by decide +kernel
theorem dX6_laysFirst_88 : decode cX6_laysFirst 88 = .ok (.aload_n 0, 1) := by decide +kernel
theorem dX6_laysFirst_89 : decode cX6_laysFirst 89 = .ok (.iload_n 3, 1) := by decide +kernel
theorem dX6_laysFirst_90 : decode cX6_laysFirst 90 = .ok (.iload 4, 2) := by decide +kernel
theorem dX6_laysFirst_92 : decode cX6_laysFirst 92 = .ok (.invokevirtual 203, 3) := by decide +kernel
theorem dX6_laysFirst_95 : decode cX6_laysFirst 95 = .ok (.iconst (-1), 1) := by decide +kernel
theorem dX6_laysFirst_96 : decode cX6_laysFirst 96 = .ok (.if_icmp .eq 53, 3) := by decide +kernel
theorem dX6_laysFirst_99 : decode cX6_laysFirst 99 = .ok (.aload_n 0, 1) := by decide +kernel
theorem dX6_laysFirst_100 : decode cX6_laysFirst 100 = .ok (.getfield 34, 3) := by decide +kernel
theorem dX6_laysFirst_103 : decode cX6_laysFirst 103 = .ok (.iload_n 1, 1) := by decide +kernel
theorem dX6_laysFirst_104 : decode cX6_laysFirst 104 = .ok (.iconst 1, 1) := by decide +kernel
theorem dX6_laysFirst_105 : decode cX6_laysFirst 105 = .ok (.iload 4, 2) := by decide +kernel
theorem dX6_laysFirst_107 : decode cX6_laysFirst 107 = .ok (.ishl, 1) := by decide +kernel
theorem dX6_laysFirst_108 : decode cX6_laysFirst 108 = .ok (.iconst (-1), 1) := by decide +kernel
theorem dX6_laysFirst_109 : decode cX6_laysFirst 109 = .ok (.ixor, 1) := by decide +kernel
theorem dX6_laysFirst_110 : decode cX6_laysFirst 110 = .ok (.iand, 1) := by decide +kernel
theorem dX6_laysFirst_111 : decode cX6_laysFirst 111 = .ok (.iaload, 1) := by decide +kernel
theorem dX6_laysFirst_112 : decode cX6_laysFirst 112 = .ok (.iconst 1, 1) := by decide +kernel
theorem dX6_laysFirst_113 : decode cX6_laysFirst 113 = .ok (.iadd, 1) := by decide +kernel
theorem dX6_laysFirst_114 : decode cX6_laysFirst 114 = .ok (.iload_n 2, 1) := by decide +kernel
theorem dX6_laysFirst_115 : decode cX6_laysFirst 115 = .ok (.if_icmp .eq 6, 3) := by decide +kernel
theorem dX6_laysFirst_118 : decode cX6_laysFirst 118 = .ok (.goto 31, 3) := by decide +kernel
theorem dX6_laysFirst_121 : decode cX6_laysFirst 121 = .ok (.aload_n 0, 1) := by decide +kernel
theorem dX6_laysFirst_122 : decode cX6_laysFirst 122 = .ok (.getfield 47, 3) := by decide +kernel
theorem dX6_laysFirst_125 : decode cX6_laysFirst 125 = .ok (.iload_n 3, 1) := by decide +kernel
theorem dX6_laysFirst_126 : decode cX6_laysFirst 126 = .ok (.iload 4, 2) := by decide +kernel
theorem dX6_laysFirst_128 : decode cX6_laysFirst 128 = .ok (.iastore, 1) := by decide +kernel
theorem dX6_laysFirst_129 : decode cX6_laysFirst 129 = .ok (.aload_n 0, 1) := by decide +kernel
theorem dX6_laysFirst_130 : decode cX6_laysFirst 130 = .ok (.getfield 47, 3) := by decide +kernel
theorem dX6_laysFirst_133 : decode cX6_laysFirst 133 = .ok (.iload 4, 2) := by decide +kernel
theorem dX6_laysFirst_135 : decode cX6_laysFirst 135 = .ok (.iload_n 3, 1) := by decide +kernel
theorem dX6_laysFirst_136 : decode cX6_laysFirst 136 = .ok (.iastore, 1) := by decide +kernel
theorem dX6_laysFirst_137 : decode cX6_laysFirst 137 = .ok (.iload_n 1, 1) := by decide +kernel
theorem dX6_laysFirst_138 : decode cX6_laysFirst 138 = .ok (.iconst 1, 1) := by decide +kernel
theorem dX6_laysFirst_139 : decode cX6_laysFirst 139 = .ok (.iload 4, 2) := by decide +kernel
theorem dX6_laysFirst_141 : decode cX6_laysFirst 141 = .ok (.ishl, 1) := by decide +kernel
theorem dX6_laysFirst_142 : decode cX6_laysFirst 142 = .ok (.iconst (-1), 1) := by decide +kernel
theorem dX6_laysFirst_143 : decode cX6_laysFirst 143 = .ok (.ixor, 1) := by decide +kernel
theorem dX6_laysFirst_144 : decode cX6_laysFirst 144 = .ok (.iand, 1) := by decide +kernel
theorem dX6_laysFirst_145 : decode cX6_laysFirst 145 = .ok (.istore_n 1, 1) := by decide +kernel
theorem dX6_laysFirst_146 : decode cX6_laysFirst 146 = .ok (.iinc 2 (-1), 3) := by decide +kernel
theorem dX6_laysFirst_149 : decode cX6_laysFirst 149 = .ok (.iinc 4 1, 3) := by decide +kernel
theorem dX6_laysFirst_152 : decode cX6_laysFirst 152 = .ok (.goto (-92), 3) := by decide +kernel
theorem dX6_laysFirst_155 : decode cX6_laysFirst 155 = .ok (.iinc 3 1, 3) := by decide +kernel
theorem dX6_laysFirst_158 : decode cX6_laysFirst 158 = .ok (.goto (-137), 3) := by decide +kernel
theorem dX6_laysFirst_161 : decode cX6_laysFirst 161 = .ok (.return_, 1) := by decide +kernel
theorem dX6_missed_0 : decode cX6_missed 0 = .ok (.aload_n 0, 1) := by decide +kernel
theorem dX6_missed_1 : decode cX6_missed 1 = .ok (.invokevirtual 209, 3) := by decide +kernel
theorem dX6_missed_4 : decode cX6_missed 4 = .ok (.iconst 0, 1) := by decide +kernel
theorem dX6_missed_5 : decode cX6_missed 5 = .ok (.istore_n 1, 1) := by decide +kernel
theorem dX6_missed_6 : decode cX6_missed 6 = .ok (.iconst 0, 1) := by decide +kernel
theorem dX6_missed_7 : decode cX6_missed 7 = .ok (.istore_n 2, 1) := by decide +kernel
theorem dX6_missed_8 : decode cX6_missed 8 = .ok (.iload_n 2, 1) := by decide +kernel
theorem dX6_missed_9 : decode cX6_missed 9 = .ok (.aload_n 0, 1) := by decide +kernel
theorem dX6_missed_10 : decode cX6_missed 10 = .ok (.invokevirtual 181, 3) := by decide +kernel
theorem dX6_missed_13 : decode cX6_missed 13 = .ok (.if_icmp .ge 46, 3) := by decide +kernel
theorem dX6_missed_16 : decode cX6_missed 16 = .ok (.iload_n 1, 1) := by decide +kernel
theorem dX6_missed_17 : decode cX6_missed 17 = .ok (.aload_n 0, 1) := by decide +kernel
theorem dX6_missed_18 : decode cX6_missed 18 = .ok (.getfield 34, 3) := by decide +kernel
theorem dX6_missed_21 : decode cX6_missed 21 = .ok (.aload_n 0, 1) := by decide +kernel
theorem dX6_missed_22 : decode cX6_missed 22 = .ok (.invokevirtual 194, 3) := by decide +kernel
theorem dX6_missed_25 : decode cX6_missed 25 = .ok (.iconst 1, 1) := by decide +kernel
theorem dX6_missed_26 : decode cX6_missed 26 = .ok (.iload_n 2, 1) := by decide +kernel
theorem dX6_missed_27 : decode cX6_missed 27 = .ok (.ishl, 1) := by decide +kernel
theorem dX6_missed_28 : decode cX6_missed 28 = .ok (.iconst (-1), 1) := by decide +kernel
theorem dX6_missed_29 : decode cX6_missed 29 = .ok (.ixor, 1) := by decide +kernel
theorem dX6_missed_30 : decode cX6_missed 30 = .ok (.iand, 1) := by decide +kernel
theorem dX6_missed_31 : decode cX6_missed 31 = .ok (.iaload, 1) := by decide +kernel
theorem dX6_missed_32 : decode cX6_missed 32 = .ok (.aload_n 0, 1) := by decide +kernel
theorem dX6_missed_33 : decode cX6_missed 33 = .ok (.getfield 34, 3) := by decide +kernel
theorem dX6_missed_36 : decode cX6_missed 36 = .ok (.aload_n 0, 1) := by decide +kernel
theorem dX6_missed_37 : decode cX6_missed 37 = .ok (.invokevirtual 194, 3) := by decide +kernel
theorem dX6_missed_40 : decode cX6_missed 40 = .ok (.iaload, 1) := by decide +kernel
theorem dX6_missed_41 : decode cX6_missed 41 = .ok (.if_icmp .ne 9, 3) := by decide +kernel
theorem dX6_missed_44 : decode cX6_missed 44 = .ok (.iconst 1, 1) := by decide +kernel
theorem dX6_missed_45 : decode cX6_missed 45 = .ok (.iload_n 2, 1) := by decide +kernel
theorem dX6_missed_46 : decode cX6_missed 46 = .ok (.ishl, 1) := by decide +kernel
theorem dX6_missed_47 : decode cX6_missed 47 = .ok (.goto 4, 3) := by decide +kernel
theorem dX6_missed_50 : decode cX6_missed 50 = .ok (.iconst 0, 1) := by decide +kernel
theorem dX6_missed_51 : decode cX6_missed 51 = .ok (.ior, 1) := by decide +kernel
theorem dX6_missed_52 : decode cX6_missed 52 = .ok (.istore_n 1, 1) := by decide +kernel
theorem dX6_missed_53 : decode cX6_missed 53 = .ok (.iinc 2 1, 3) := by decide +kernel
theorem dX6_missed_56 : decode cX6_missed 56 = .ok (.goto (-48), 3) := by decide +kernel
theorem dX6_missed_59 : decode cX6_missed 59 = .ok (.iload_n 1, 1) := by decide +kernel
theorem dX6_missed_60 : decode cX6_missed 60 = .ok (.ireturn, 1) := by decide +kernel
theorem dX6_beside_0 : decode cX6_beside 0 = .ok (.iconst 0, 1) := by decide +kernel
theorem dX6_beside_1 : decode cX6_beside 1 = .ok (.istore_n 2, 1) := by decide +kernel
theorem dX6_beside_2 : decode cX6_beside 2 = .ok (.iconst 0, 1) := by decide +kernel
theorem dX6_beside_3 : decode cX6_beside 3 = .ok (.istore_n 3, 1) := by decide +kernel
theorem dX6_beside_4 : decode cX6_beside 4 = .ok (.iload_n 3, 1) := by decide +kernel
theorem dX6_beside_5 : decode cX6_beside 5 = .ok (.aload_n 0, 1) := by decide +kernel
theorem dX6_beside_6 : decode cX6_beside 6 = .ok (.invokevirtual 181, 3) := by decide +kernel
theorem dX6_beside_9 : decode cX6_beside 9 = .ok (.if_icmp .ge 61, 3) := by decide +kernel
theorem dX6_beside_12 : decode cX6_beside 12 = .ok (.iconst 0, 1) := by decide +kernel
theorem dX6_beside_13 : decode cX6_beside 13 = .ok (.istore 4, 2) := by decide +kernel
theorem dX6_beside_15 : decode cX6_beside 15 = .ok (.iload 4, 2) := by decide +kernel
theorem dX6_beside_17 : decode cX6_beside 17 = .ok (.aload_n 0, 1) := by decide +kernel
theorem dX6_beside_18 : decode cX6_beside 18 = .ok (.invokevirtual 181, 3) := by decide +kernel
theorem dX6_beside_21 : decode cX6_beside 21 = .ok (.if_icmp .ge 43, 3) := by decide +kernel
theorem dX6_beside_24 : decode cX6_beside 24 = .ok (.iload_n 1, 1) := by decide +kernel
theorem dX6_beside_25 : decode cX6_beside 25 = .ok (.iload_n 3, 1) := by decide +kernel
theorem dX6_beside_26 : decode cX6_beside 26 = .ok (.invokestatic 183, 3) := by decide +kernel
theorem dX6_beside_29 : decode cX6_beside 29 = .ok (.ifCond .ne 29, 3) := by decide +kernel
theorem dX6_beside_32 : decode cX6_beside 32 = .ok (.iload_n 1, 1) := by decide +kernel
theorem dX6_beside_33 : decode cX6_beside 33 = .ok (.iload 4, 2) := by decide +kernel
theorem dX6_beside_35 : decode cX6_beside 35 = .ok (.invokestatic 183, 3) := by decide +kernel
theorem dX6_beside_38 : decode cX6_beside 38 = .ok (.ifCond .eq 20, 3) := by decide +kernel
theorem dX6_beside_41 : decode cX6_beside 41 = .ok (.aload_n 0, 1) := by decide +kernel
theorem dX6_beside_42 : decode cX6_beside 42 = .ok (.iload_n 3, 1) := by decide +kernel
theorem dX6_beside_43 : decode cX6_beside 43 = .ok (.iload 4, 2) := by decide +kernel
theorem dX6_beside_45 : decode cX6_beside 45 = .ok (.invokevirtual 203, 3) := by decide +kernel
theorem dX6_beside_48 : decode cX6_beside 48 = .ok (.iconst (-1), 1) := by decide +kernel
theorem dX6_beside_49 : decode cX6_beside 49 = .ok (.if_icmp .eq 9, 3) := by decide +kernel
theorem dX6_beside_52 : decode cX6_beside 52 = .ok (.iload_n 2, 1) := by decide +kernel
theorem dX6_beside_53 : decode cX6_beside 53 = .ok (.iconst 1, 1) := by decide +kernel
theorem dX6_beside_54 : decode cX6_beside 54 = .ok (.iload_n 3, 1) := by decide +kernel
theorem dX6_beside_55 : decode cX6_beside 55 = .ok (.ishl, 1) := by decide +kernel
theorem dX6_beside_56 : decode cX6_beside 56 = .ok (.ior, 1) := by decide +kernel
theorem dX6_beside_57 : decode cX6_beside 57 = .ok (.istore_n 2, 1) := by decide +kernel
theorem dX6_beside_58 : decode cX6_beside 58 = .ok (.iinc 4 1, 3) := by decide +kernel
theorem dX6_beside_61 : decode cX6_beside 61 = .ok (.goto (-46), 3) := by decide +kernel
theorem dX6_beside_64 : decode cX6_beside 64 = .ok (.iinc 3 1, 3) := by decide +kernel
theorem dX6_beside_67 : decode cX6_beside 67 = .ok (.goto (-63), 3) := by decide +kernel
theorem dX6_beside_70 : decode cX6_beside 70 = .ok (.iload_n 2, 1) := by decide +kernel
theorem dX6_beside_71 : decode cX6_beside 71 = .ok (.ireturn, 1) := by decide +kernel
theorem dX6_setOf_0 : decode cX6_setOf 0 = .ok (.aload_n 0, 1) := by decide +kernel
theorem dX6_setOf_1 : decode cX6_setOf 1 = .ok (.invokevirtual 212, 3) := by decide +kernel
theorem dX6_setOf_4 : decode cX6_setOf 4 = .ok (.istore_n 2, 1) := by decide +kernel
theorem dX6_setOf_5 : decode cX6_setOf 5 = .ok (.aload_n 0, 1) := by decide +kernel
theorem dX6_setOf_6 : decode cX6_setOf 6 = .ok (.iload_n 2, 1) := by decide +kernel
theorem dX6_setOf_7 : decode cX6_setOf 7 = .ok (.invokevirtual 215, 3) := by decide +kernel
theorem dX6_setOf_10 : decode cX6_setOf 10 = .ok (.istore_n 3, 1) := by decide +kernel
theorem dX6_setOf_11 : decode cX6_setOf 11 = .ok (.iload_n 1, 1) := by decide +kernel
theorem dX6_setOf_12 : decode cX6_setOf 12 = .ok (.ifCond .ne 7, 3) := by decide +kernel
theorem dX6_setOf_15 : decode cX6_setOf 15 = .ok (.iload_n 2, 1) := by decide +kernel
theorem dX6_setOf_16 : decode cX6_setOf 16 = .ok (.goto 24, 3) := by decide +kernel
theorem dX6_setOf_19 : decode cX6_setOf 19 = .ok (.iload_n 1, 1) := by decide +kernel
theorem dX6_setOf_20 : decode cX6_setOf 20 = .ok (.iconst 1, 1) := by decide +kernel
theorem dX6_setOf_21 : decode cX6_setOf 21 = .ok (.if_icmp .ne 7, 3) := by decide +kernel
theorem dX6_setOf_24 : decode cX6_setOf 24 = .ok (.iload_n 3, 1) := by decide +kernel
theorem dX6_setOf_25 : decode cX6_setOf 25 = .ok (.goto 15, 3) := by decide +kernel
theorem dX6_setOf_28 : decode cX6_setOf 28 = .ok (.aload_n 0, 1) := by decide +kernel
theorem dX6_setOf_29 : decode cX6_setOf 29 = .ok (.invokevirtual 194, 3) := by decide +kernel
theorem dX6_setOf_32 : decode cX6_setOf 32 = .ok (.iload_n 2, 1) := by decide +kernel
theorem dX6_setOf_33 : decode cX6_setOf 33 = .ok (.iconst (-1), 1) := by decide +kernel
theorem dX6_setOf_34 : decode cX6_setOf 34 = .ok (.ixor, 1) := by decide +kernel
theorem dX6_setOf_35 : decode cX6_setOf 35 = .ok (.iand, 1) := by decide +kernel
theorem dX6_setOf_36 : decode cX6_setOf 36 = .ok (.iload_n 3, 1) := by decide +kernel
theorem dX6_setOf_37 : decode cX6_setOf 37 = .ok (.iconst (-1), 1) := by decide +kernel
theorem dX6_setOf_38 : decode cX6_setOf 38 = .ok (.ixor, 1) := by decide +kernel
theorem dX6_setOf_39 : decode cX6_setOf 39 = .ok (.iand, 1) := by decide +kernel
theorem dX6_setOf_40 : decode cX6_setOf 40 = .ok (.ireturn, 1) := by decide +kernel
theorem dX6_partOf_0 : decode cX6_partOf 0 = .ok (.iconst 1, 1) := by decide +kernel
theorem dX6_partOf_1 : decode cX6_partOf 1 = .ok (.iload_n 1, 1) := by decide +kernel
theorem dX6_partOf_2 : decode cX6_partOf 2 = .ok (.ishl, 1) := by decide +kernel
theorem dX6_partOf_3 : decode cX6_partOf 3 = .ok (.istore_n 3, 1) := by decide +kernel
theorem dX6_partOf_4 : decode cX6_partOf 4 = .ok (.iconst 0, 1) := by decide +kernel
theorem dX6_partOf_5 : decode cX6_partOf 5 = .ok (.istore 4, 2) := by decide +kernel
theorem dX6_partOf_7 : decode cX6_partOf 7 = .ok (.iload_n 3, 1) := by decide +kernel
theorem dX6_partOf_8 : decode cX6_partOf 8 = .ok (.iload 4, 2) := by decide +kernel
theorem dX6_partOf_10 : decode cX6_partOf 10 = .ok (.if_icmp .eq 83, 3) := by decide +kernel
theorem dX6_partOf_13 : decode cX6_partOf 13 = .ok (.iload_n 3, 1) := by decide +kernel
theorem dX6_partOf_14 : decode cX6_partOf 14 = .ok (.istore 4, 2) := by decide +kernel
theorem dX6_partOf_16 : decode cX6_partOf 16 = .ok (.iconst 0, 1) := by decide +kernel
theorem dX6_partOf_17 : decode cX6_partOf 17 = .ok (.istore 5, 2) := by decide +kernel
theorem dX6_partOf_19 : decode cX6_partOf 19 = .ok (.iload 5, 2) := by decide +kernel
theorem dX6_partOf_21 : decode cX6_partOf 21 = .ok (.aload_n 0, 1) := by decide +kernel
theorem dX6_partOf_22 : decode cX6_partOf 22 = .ok (.invokevirtual 181, 3) := by decide +kernel
theorem dX6_partOf_25 : decode cX6_partOf 25 = .ok (.if_icmp .ge 65, 3) := by decide +kernel
theorem dX6_partOf_28 : decode cX6_partOf 28 = .ok (.iconst 0, 1) := by decide +kernel
theorem dX6_partOf_29 : decode cX6_partOf 29 = .ok (.istore 6, 2) := by decide +kernel
theorem dX6_partOf_31 : decode cX6_partOf 31 = .ok (.iload 6, 2) := by decide +kernel
theorem dX6_partOf_33 : decode cX6_partOf 33 = .ok (.aload_n 0, 1) := by decide +kernel
theorem dX6_partOf_34 : decode cX6_partOf 34 = .ok (.invokevirtual 181, 3) := by decide +kernel
theorem dX6_partOf_37 : decode cX6_partOf 37 = .ok (.if_icmp .ge 47, 3) := by decide +kernel
theorem dX6_partOf_40 : decode cX6_partOf 40 = .ok (.iload 4, 2) := by decide +kernel
theorem dX6_partOf_42 : decode cX6_partOf 42 = .ok (.iload 5, 2) := by decide +kernel
theorem dX6_partOf_44 : decode cX6_partOf 44 = .ok (.invokestatic 183, 3) := by decide +kernel
theorem dX6_partOf_47 : decode cX6_partOf 47 = .ok (.ifCond .eq 37, 3) := by decide +kernel
theorem dX6_partOf_50 : decode cX6_partOf 50 = .ok (.iload_n 2, 1) := by decide +kernel
theorem dX6_partOf_51 : decode cX6_partOf 51 = .ok (.iload 6, 2) := by decide +kernel
theorem dX6_partOf_53 : decode cX6_partOf 53 = .ok (.invokestatic 183, 3) := by decide +kernel
theorem dX6_partOf_56 : decode cX6_partOf 56 = .ok (.ifCond .eq 22, 3) := by decide +kernel
theorem dX6_partOf_59 : decode cX6_partOf 59 = .ok (.aload_n 0, 1) := by decide +kernel
theorem dX6_partOf_60 : decode cX6_partOf 60 = .ok (.iload 5, 2) := by decide +kernel
theorem dX6_partOf_62 : decode cX6_partOf 62 = .ok (.iload 6, 2) := by decide +kernel
theorem dX6_partOf_64 : decode cX6_partOf 64 = .ok (.invokevirtual 203, 3) := by decide +kernel
theorem dX6_partOf_67 : decode cX6_partOf 67 = .ok (.iconst (-1), 1) := by decide +kernel
theorem dX6_partOf_68 : decode cX6_partOf 68 = .ok (.if_icmp .eq 10, 3) := by decide +kernel
theorem dX6_partOf_71 : decode cX6_partOf 71 = .ok (.iload_n 3, 1) := by decide +kernel
theorem dX6_partOf_72 : decode cX6_partOf 72 = .ok (.iconst 1, 1) := by decide +kernel
theorem dX6_partOf_73 : decode cX6_partOf 73 = .ok (.iload 6, 2) := by decide +kernel
theorem dX6_partOf_75 : decode cX6_partOf 75 = .ok (.ishl, 1) := by decide +kernel
theorem dX6_partOf_76 : decode cX6_partOf 76 = .ok (.ior, 1) := by decide +kernel
theorem dX6_partOf_77 : decode cX6_partOf 77 = .ok (.istore_n 3, 1) := by decide +kernel
theorem dX6_partOf_78 : decode cX6_partOf 78 = .ok (.iinc 6 1, 3) := by decide +kernel
theorem dX6_partOf_81 : decode cX6_partOf 81 = .ok (.goto (-50), 3) := by decide +kernel
theorem dX6_partOf_84 : decode cX6_partOf 84 = .ok (.iinc 5 1, 3) := by decide +kernel
theorem dX6_partOf_87 : decode cX6_partOf 87 = .ok (.goto (-68), 3) := by decide +kernel
theorem dX6_partOf_90 : decode cX6_partOf 90 = .ok (.goto (-83), 3) := by decide +kernel
theorem dX6_partOf_93 : decode cX6_partOf 93 = .ok (.iload_n 3, 1) := by decide +kernel
theorem dX6_partOf_94 : decode cX6_partOf 94 = .ok (.ireturn, 1) := by decide +kernel
theorem dX6_oddOf_0 : decode cX6_oddOf 0 = .ok (.aload_n 0, 1) := by decide +kernel
theorem dX6_oddOf_1 : decode cX6_oddOf 1 = .ok (.invokevirtual 194, 3) := by decide +kernel
theorem dX6_oddOf_4 : decode cX6_oddOf 4 = .ok (.iload_n 1, 1) := by decide +kernel
theorem dX6_oddOf_5 : decode cX6_oddOf 5 = .ok (.iconst (-1), 1) := by decide +kernel
theorem dX6_oddOf_6 : decode cX6_oddOf 6 = .ok (.ixor, 1) := by decide +kernel
theorem dX6_oddOf_7 : decode cX6_oddOf 7 = .ok (.iand, 1) := by decide +kernel
theorem dX6_oddOf_8 : decode cX6_oddOf 8 = .ok (.istore_n 2, 1) := by decide +kernel
theorem dX6_oddOf_9 : decode cX6_oddOf 9 = .ok (.iconst 0, 1) := by decide +kernel
theorem dX6_oddOf_10 : decode cX6_oddOf 10 = .ok (.istore_n 3, 1) := by decide +kernel
theorem dX6_oddOf_11 : decode cX6_oddOf 11 = .ok (.iload_n 2, 1) := by decide +kernel
theorem dX6_oddOf_12 : decode cX6_oddOf 12 = .ok (.ifCond .eq 34, 3) := by decide +kernel
theorem dX6_oddOf_15 : decode cX6_oddOf 15 = .ok (.aload_n 0, 1) := by decide +kernel
theorem dX6_oddOf_16 : decode cX6_oddOf 16 = .ok (.iload_n 2, 1) := by decide +kernel
theorem dX6_oddOf_17 : decode cX6_oddOf 17 = .ok (.invokestatic 196, 3) := by decide +kernel
theorem dX6_oddOf_20 : decode cX6_oddOf 20 = .ok (.iload_n 2, 1) := by decide +kernel
theorem dX6_oddOf_21 : decode cX6_oddOf 21 = .ok (.invokevirtual 218, 3) := by decide +kernel
theorem dX6_oddOf_24 : decode cX6_oddOf 24 = .ok (.istore 4, 2) := by decide +kernel
theorem dX6_oddOf_26 : decode cX6_oddOf 26 = .ok (.iload_n 3, 1) := by decide +kernel
theorem dX6_oddOf_27 : decode cX6_oddOf 27 = .ok (.iload 4, 2) := by decide +kernel
theorem dX6_oddOf_29 : decode cX6_oddOf 29 = .ok (.invokestatic 221, 3) := by decide +kernel
theorem dX6_oddOf_32 : decode cX6_oddOf 32 = .ok (.iconst 2, 1) := by decide +kernel
theorem dX6_oddOf_33 : decode cX6_oddOf 33 = .ok (.irem, 1) := by decide +kernel
theorem dX6_oddOf_34 : decode cX6_oddOf 34 = .ok (.iadd, 1) := by decide +kernel
theorem dX6_oddOf_35 : decode cX6_oddOf 35 = .ok (.istore_n 3, 1) := by decide +kernel
theorem dX6_oddOf_36 : decode cX6_oddOf 36 = .ok (.iload_n 2, 1) := by decide +kernel
theorem dX6_oddOf_37 : decode cX6_oddOf 37 = .ok (.iload 4, 2) := by decide +kernel
theorem dX6_oddOf_39 : decode cX6_oddOf 39 = .ok (.iconst (-1), 1) := by decide +kernel
theorem dX6_oddOf_40 : decode cX6_oddOf 40 = .ok (.ixor, 1) := by decide +kernel
theorem dX6_oddOf_41 : decode cX6_oddOf 41 = .ok (.iand, 1) := by decide +kernel
theorem dX6_oddOf_42 : decode cX6_oddOf 42 = .ok (.istore_n 2, 1) := by decide +kernel
theorem dX6_oddOf_43 : decode cX6_oddOf 43 = .ok (.goto (-32), 3) := by decide +kernel
theorem dX6_oddOf_46 : decode cX6_oddOf 46 = .ok (.iload_n 3, 1) := by decide +kernel
theorem dX6_oddOf_47 : decode cX6_oddOf 47 = .ok (.ireturn, 1) := by decide +kernel
theorem dX6_goes_0 : decode cX6_goes 0 = .ok (.aload_n 0, 1) := by decide +kernel
theorem dX6_goes_1 : decode cX6_goes 1 = .ok (.getfield 51, 3) := by decide +kernel
theorem dX6_goes_4 : decode cX6_goes 4 = .ok (.bipush 12, 2) := by decide +kernel
theorem dX6_goes_6 : decode cX6_goes 6 = .ok (.iload_n 1, 1) := by decide +kernel
theorem dX6_goes_7 : decode cX6_goes 7 = .ok (.imul, 1) := by decide +kernel
theorem dX6_goes_8 : decode cX6_goes 8 = .ok (.iload_n 2, 1) := by decide +kernel
theorem dX6_goes_9 : decode cX6_goes 9 = .ok (.iadd, 1) := by decide +kernel
theorem dX6_goes_10 : decode cX6_goes 10 = .ok (.baload, 1) := by decide +kernel
theorem dX6_goes_11 : decode cX6_goes 11 = .ok (.ifCond .eq 4, 3) := by decide +kernel
theorem dX6_goes_14 : decode cX6_goes 14 = .ok (.return_, 1) := by decide +kernel
theorem dX6_goes_15 : decode cX6_goes 15 = .ok (.aload_n 0, 1) := by decide +kernel
theorem dX6_goes_16 : decode cX6_goes 16 = .ok (.getfield 51, 3) := by decide +kernel
theorem dX6_goes_19 : decode cX6_goes 19 = .ok (.bipush 12, 2) := by decide +kernel
theorem dX6_goes_21 : decode cX6_goes 21 = .ok (.iload_n 1, 1) := by decide +kernel
theorem dX6_goes_22 : decode cX6_goes 22 = .ok (.imul, 1) := by decide +kernel
theorem dX6_goes_23 : decode cX6_goes 23 = .ok (.iload_n 2, 1) := by decide +kernel
theorem dX6_goes_24 : decode cX6_goes 24 = .ok (.iadd, 1) := by decide +kernel
theorem dX6_goes_25 : decode cX6_goes 25 = .ok (.iconst 1, 1) := by decide +kernel
theorem dX6_goes_26 : decode cX6_goes 26 = .ok (.bastore, 1) := by decide +kernel
theorem dX6_goes_27 : decode cX6_goes 27 = .ok (.iload_n 1, 1) := by decide +kernel
theorem dX6_goes_28 : decode cX6_goes 28 = .ok (.invokestatic 221, 3) := by decide +kernel
theorem dX6_goes_31 : decode cX6_goes 31 = .ok (.iconst 2, 1) := by decide +kernel
theorem dX6_goes_32 : decode cX6_goes 32 = .ok (.irem, 1) := by decide +kernel
theorem dX6_goes_33 : decode cX6_goes 33 = .ok (.iconst 1, 1) := by decide +kernel
theorem dX6_goes_34 : decode cX6_goes 34 = .ok (.if_icmp .ne 7, 3) := by decide +kernel
theorem dX6_goes_37 : decode cX6_goes 37 = .ok (.iconst 1, 1) := by decide +kernel
theorem dX6_goes_38 : decode cX6_goes 38 = .ok (.goto 4, 3) := by decide +kernel
theorem dX6_goes_41 : decode cX6_goes 41 = .ok (.iconst 0, 1) := by decide +kernel
theorem dX6_goes_42 : decode cX6_goes 42 = .ok (.istore_n 3, 1) := by decide +kernel
theorem dX6_goes_43 : decode cX6_goes 43 = .ok (.iload_n 3, 1) := by decide +kernel
theorem dX6_goes_44 : decode cX6_goes 44 = .ok (.ifCond .eq 18, 3) := by decide +kernel
theorem dX6_goes_47 : decode cX6_goes 47 = .ok (.aload_n 0, 1) := by decide +kernel
theorem dX6_goes_48 : decode cX6_goes 48 = .ok (.dup, 1) := by decide +kernel
theorem dX6_goes_49 : decode cX6_goes 49 = .ok (.getfield 224, 3) := by decide +kernel
theorem dX6_goes_52 : decode cX6_goes 52 = .ok (.iconst 1, 1) := by decide +kernel
theorem dX6_goes_53 : decode cX6_goes 53 = .ok (.iload_n 2, 1) := by decide +kernel
theorem dX6_goes_54 : decode cX6_goes 54 = .ok (.ishl, 1) := by decide +kernel
theorem dX6_goes_55 : decode cX6_goes 55 = .ok (.ior, 1) := by decide +kernel
theorem dX6_goes_56 : decode cX6_goes 56 = .ok (.putfield 224, 3) := by decide +kernel
theorem dX6_goes_59 : decode cX6_goes 59 = .ok (.goto 15, 3) := by decide +kernel
theorem dX6_goes_62 : decode cX6_goes 62 = .ok (.aload_n 0, 1) := by decide +kernel
theorem dX6_goes_63 : decode cX6_goes 63 = .ok (.dup, 1) := by decide +kernel
theorem dX6_goes_64 : decode cX6_goes 64 = .ok (.getfield 227, 3) := by decide +kernel
theorem dX6_goes_67 : decode cX6_goes 67 = .ok (.iconst 1, 1) := by decide +kernel
theorem dX6_goes_68 : decode cX6_goes 68 = .ok (.iload_n 2, 1) := by decide +kernel
theorem dX6_goes_69 : decode cX6_goes 69 = .ok (.ishl, 1) := by decide +kernel
theorem dX6_goes_70 : decode cX6_goes 70 = .ok (.ior, 1) := by decide +kernel
theorem dX6_goes_71 : decode cX6_goes 71 = .ok (.putfield 227, 3) := by decide +kernel
theorem dX6_goes_74 : decode cX6_goes 74 = .ok (.iconst 0, 1) := by decide +kernel
theorem dX6_goes_75 : decode cX6_goes 75 = .ok (.istore 4, 2) := by decide +kernel
theorem dX6_goes_77 : decode cX6_goes 77 = .ok (.iload 4, 2) := by decide +kernel
theorem dX6_goes_79 : decode cX6_goes 79 = .ok (.aload_n 0, 1) := by decide +kernel
theorem dX6_goes_80 : decode cX6_goes 80 = .ok (.invokevirtual 181, 3) := by decide +kernel
theorem dX6_goes_83 : decode cX6_goes 83 = .ok (.if_icmp .ge 63, 3) := by decide +kernel
theorem dX6_goes_86 : decode cX6_goes 86 = .ok (.iload_n 1, 1) := by decide +kernel
theorem dX6_goes_87 : decode cX6_goes 87 = .ok (.iload 4, 2) := by decide +kernel
theorem dX6_goes_89 : decode cX6_goes 89 = .ok (.invokestatic 183, 3) := by decide +kernel
theorem dX6_goes_92 : decode cX6_goes 92 = .ok (.ifCond .ne 48, 3) := by decide +kernel
theorem dX6_goes_95 : decode cX6_goes 95 = .ok (.aload_n 0, 1) := by decide +kernel
theorem dX6_goes_96 : decode cX6_goes 96 = .ok (.iload_n 2, 1) := by decide +kernel
theorem dX6_goes_97 : decode cX6_goes 97 = .ok (.iload 4, 2) := by decide +kernel
theorem dX6_goes_99 : decode cX6_goes 99 = .ok (.invokevirtual 203, 3) := by decide +kernel
theorem dX6_goes_102 : decode cX6_goes 102 = .ok (.iconst (-1), 1) := by decide +kernel
theorem dX6_goes_103 : decode cX6_goes 103 = .ok (.if_icmp .eq 37, 3) := by decide +kernel
theorem dX6_goes_106 : decode cX6_goes 106 = .ok (.aload_n 0, 1) := by decide +kernel
theorem dX6_goes_107 : decode cX6_goes 107 = .ok (.iload_n 2, 1) := by decide +kernel
theorem dX6_goes_108 : decode cX6_goes 108 = .ok (.invokevirtual 206, 3) := by decide +kernel
theorem dX6_goes_111 : decode cX6_goes 111 = .ok (.iload 4, 2) := by decide +kernel
theorem dX6_goes_113 : decode cX6_goes 113 = .ok (.if_icmp .ne 7, 3) := by decide +kernel
theorem dX6_goes_116 : decode cX6_goes 116 = .ok (.iconst 1, 1) := by decide +kernel
theorem dX6_goes_117 : decode cX6_goes 117 = .ok (.goto 4, 3) := by decide +kernel
theorem dX6_goes_120 : decode cX6_goes 120 = .ok (.iconst 0, 1) := by decide +kernel
theorem dX6_goes_121 : decode cX6_goes 121 = .ok (.iload_n 3, 1) := by decide +kernel
theorem dX6_goes_122 : decode cX6_goes 122 = .ok (.if_icmp .ne 6, 3) := by decide +kernel
theorem dX6_goes_125 : decode cX6_goes 125 = .ok (.goto 15, 3) := by decide +kernel
theorem dX6_goes_128 : decode cX6_goes 128 = .ok (.aload_n 0, 1) := by decide +kernel
theorem dX6_goes_129 : decode cX6_goes 129 = .ok (.iload_n 1, 1) := by decide +kernel
theorem dX6_goes_130 : decode cX6_goes 130 = .ok (.iconst 1, 1) := by decide +kernel
theorem dX6_goes_131 : decode cX6_goes 131 = .ok (.iload 4, 2) := by decide +kernel
theorem dX6_goes_133 : decode cX6_goes 133 = .ok (.ishl, 1) := by decide +kernel
theorem dX6_goes_134 : decode cX6_goes 134 = .ok (.ior, 1) := by decide +kernel
theorem dX6_goes_135 : decode cX6_goes 135 = .ok (.iload 4, 2) := by decide +kernel
theorem dX6_goes_137 : decode cX6_goes 137 = .ok (.invokevirtual 230, 3) := by decide +kernel
theorem dX6_goes_140 : decode cX6_goes 140 = .ok (.iinc 4 1, 3) := by decide +kernel
theorem dX6_goes_143 : decode cX6_goes 143 = .ok (.goto (-66), 3) := by decide +kernel
theorem dX6_goes_146 : decode cX6_goes 146 = .ok (.return_, 1) := by decide +kernel
theorem dX6_labels_0 : decode cX6_labels 0 = .ok (.iconst 0, 1) := by decide +kernel
theorem dX6_labels_1 : decode cX6_labels 1 = .ok (.istore_n 1, 1) := by decide +kernel
theorem dX6_labels_2 : decode cX6_labels 2 = .ok (.iload_n 1, 1) := by decide +kernel
theorem dX6_labels_3 : decode cX6_labels 3 = .ok (.aload_n 0, 1) := by decide +kernel
theorem dX6_labels_4 : decode cX6_labels 4 = .ok (.getfield 51, 3) := by decide +kernel
theorem dX6_labels_7 : decode cX6_labels 7 = .ok (.arraylength, 1) := by decide +kernel
theorem dX6_labels_8 : decode cX6_labels 8 = .ok (.if_icmp .ge 16, 3) := by decide +kernel
theorem dX6_labels_11 : decode cX6_labels 11 = .ok (.aload_n 0, 1) := by decide +kernel
theorem dX6_labels_12 : decode cX6_labels 12 = .ok (.getfield 51, 3) := by decide +kernel
theorem dX6_labels_15 : decode cX6_labels 15 = .ok (.iload_n 1, 1) := by decide +kernel
theorem dX6_labels_16 : decode cX6_labels 16 = .ok (.iconst 0, 1) := by decide +kernel
theorem dX6_labels_17 : decode cX6_labels 17 = .ok (.bastore, 1) := by decide +kernel
theorem dX6_labels_18 : decode cX6_labels 18 = .ok (.iinc 1 1, 3) := by decide +kernel
theorem dX6_labels_21 : decode cX6_labels 21 = .ok (.goto (-19), 3) := by decide +kernel
theorem dX6_labels_24 : decode cX6_labels 24 = .ok (.aload_n 0, 1) := by decide +kernel
theorem dX6_labels_25 : decode cX6_labels 25 = .ok (.iconst 0, 1) := by decide +kernel
theorem dX6_labels_26 : decode cX6_labels 26 = .ok (.putfield 224, 3) := by decide +kernel
theorem dX6_labels_29 : decode cX6_labels 29 = .ok (.aload_n 0, 1) := by decide +kernel
theorem dX6_labels_30 : decode cX6_labels 30 = .ok (.iconst 0, 1) := by decide +kernel
theorem dX6_labels_31 : decode cX6_labels 31 = .ok (.putfield 227, 3) := by decide +kernel
theorem dX6_labels_34 : decode cX6_labels 34 = .ok (.iconst 0, 1) := by decide +kernel
theorem dX6_labels_35 : decode cX6_labels 35 = .ok (.istore_n 1, 1) := by decide +kernel
theorem dX6_labels_36 : decode cX6_labels 36 = .ok (.iload_n 1, 1) := by decide +kernel
theorem dX6_labels_37 : decode cX6_labels 37 = .ok (.aload_n 0, 1) := by decide +kernel
theorem dX6_labels_38 : decode cX6_labels 38 = .ok (.invokevirtual 181, 3) := by decide +kernel
theorem dX6_labels_41 : decode cX6_labels 41 = .ok (.if_icmp .ge 26, 3) := by decide +kernel
theorem dX6_labels_44 : decode cX6_labels 44 = .ok (.aload_n 0, 1) := by decide +kernel
theorem dX6_labels_45 : decode cX6_labels 45 = .ok (.iload_n 1, 1) := by decide +kernel
theorem dX6_labels_46 : decode cX6_labels 46 = .ok (.invokevirtual 206, 3) := by decide +kernel
theorem dX6_labels_49 : decode cX6_labels 49 = .ok (.iconst (-1), 1) := by decide +kernel
theorem dX6_labels_50 : decode cX6_labels 50 = .ok (.if_icmp .ne 11, 3) := by decide +kernel
theorem dX6_labels_53 : decode cX6_labels 53 = .ok (.aload_n 0, 1) := by decide +kernel
theorem dX6_labels_54 : decode cX6_labels 54 = .ok (.iconst 1, 1) := by decide +kernel
theorem dX6_labels_55 : decode cX6_labels 55 = .ok (.iload_n 1, 1) := by decide +kernel
theorem dX6_labels_56 : decode cX6_labels 56 = .ok (.ishl, 1) := by decide +kernel
theorem dX6_labels_57 : decode cX6_labels 57 = .ok (.iload_n 1, 1) := by decide +kernel
theorem dX6_labels_58 : decode cX6_labels 58 = .ok (.invokevirtual 230, 3) := by decide +kernel
theorem dX6_labels_61 : decode cX6_labels 61 = .ok (.iinc 1 1, 3) := by decide +kernel
theorem dX6_labels_64 : decode cX6_labels 64 = .ok (.goto (-28), 3) := by decide +kernel
theorem dX6_labels_67 : decode cX6_labels 67 = .ok (.aload_n 0, 1) := by decide +kernel
theorem dX6_labels_68 : decode cX6_labels 68 = .ok (.dup, 1) := by decide +kernel
theorem dX6_labels_69 : decode cX6_labels 69 = .ok (.getfield 227, 3) := by decide +kernel
theorem dX6_labels_72 : decode cX6_labels 72 = .ok (.aload_n 0, 1) := by decide +kernel
theorem dX6_labels_73 : decode cX6_labels 73 = .ok (.getfield 224, 3) := by decide +kernel
theorem dX6_labels_76 : decode cX6_labels 76 = .ok (.iconst (-1), 1) := by decide +kernel
theorem dX6_labels_77 : decode cX6_labels 77 = .ok (.ixor, 1) := by decide +kernel
theorem dX6_labels_78 : decode cX6_labels 78 = .ok (.iand, 1) := by decide +kernel
theorem dX6_labels_79 : decode cX6_labels 79 = .ok (.putfield 227, 3) := by decide +kernel
theorem dX6_labels_82 : decode cX6_labels 82 = .ok (.return_, 1) := by decide +kernel
theorem dX6_betters_0 : decode cX6_betters 0 = .ok (.aload_n 0, 1) := by decide +kernel
theorem dX6_betters_1 : decode cX6_betters 1 = .ok (.getfield 55, 3) := by decide +kernel
theorem dX6_betters_4 : decode cX6_betters 4 = .ok (.iload_n 1, 1) := by decide +kernel
theorem dX6_betters_5 : decode cX6_betters 5 = .ok (.iconst 1, 1) := by decide +kernel
theorem dX6_betters_6 : decode cX6_betters 6 = .ok (.isub, 1) := by decide +kernel
theorem dX6_betters_7 : decode cX6_betters 7 = .ok (.iaload, 1) := by decide +kernel
theorem dX6_betters_8 : decode cX6_betters 8 = .ok (.istore 4, 2) := by decide +kernel
theorem dX6_betters_10 : decode cX6_betters 10 = .ok (.iload_n 1, 1) := by decide +kernel
theorem dX6_betters_11 : decode cX6_betters 11 = .ok (.iload_n 2, 1) := by decide +kernel
theorem dX6_betters_12 : decode cX6_betters 12 = .ok (.if_icmp .ne 19, 3) := by decide +kernel
theorem dX6_betters_15 : decode cX6_betters 15 = .ok (.aload_n 0, 1) := by decide +kernel
theorem dX6_betters_16 : decode cX6_betters 16 = .ok (.iload 4, 2) := by decide +kernel
theorem dX6_betters_18 : decode cX6_betters 18 = .ok (.invokevirtual 206, 3) := by decide +kernel
theorem dX6_betters_21 : decode cX6_betters 21 = .ok (.iconst (-1), 1) := by decide +kernel
theorem dX6_betters_22 : decode cX6_betters 22 = .ok (.if_icmp .ne 7, 3) := by decide +kernel
theorem dX6_betters_25 : decode cX6_betters 25 = .ok (.iconst 1, 1) := by decide +kernel
theorem dX6_betters_26 : decode cX6_betters 26 = .ok (.goto 4, 3) := by decide +kernel
