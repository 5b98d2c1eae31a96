theorem dX6_betters_29 : decode cX6_betters 29 = .ok (.iconst 0, 1) := by decide +kernel
theorem dX6_betters_30 : decode cX6_betters 30 = .ok (.ireturn, 1) := by decide +kernel
theorem dX6_betters_31 : decode cX6_betters 31 = .ok (.iconst 0, 1) := by decide +kernel
theorem dX6_betters_32 : decode cX6_betters 32 = .ok (.istore 5, 2) := by decide +kernel
theorem dX6_betters_34 : decode cX6_betters 34 = .ok (.iload 5, 2) := by decide +kernel
theorem dX6_betters_36 : decode cX6_betters 36 = .ok (.aload_n 0, 1) := by decide +kernel
theorem dX6_betters_37 : decode cX6_betters 37 = .ok (.invokevirtual 181, 3) := by decide +kernel
theorem dX6_betters_40 : decode cX6_betters 40 = .ok (.if_icmp .ge 91, 3) := by decide +kernel
theorem dX6_betters_43 : decode cX6_betters 43 = .ok (.iload_n 3, 1) := by decide +kernel
theorem dX6_betters_44 : decode cX6_betters 44 = .ok (.iload 5, 2) := by decide +kernel
theorem dX6_betters_46 : decode cX6_betters 46 = .ok (.invokestatic 183, 3) := by decide +kernel
theorem dX6_betters_49 : decode cX6_betters 49 = .ok (.ifCond .ne 76, 3) := by decide +kernel
theorem dX6_betters_52 : decode cX6_betters 52 = .ok (.aload_n 0, 1) := by decide +kernel
theorem dX6_betters_53 : decode cX6_betters 53 = .ok (.iload 4, 2) := by decide +kernel
theorem dX6_betters_55 : decode cX6_betters 55 = .ok (.iload 5, 2) := by decide +kernel
theorem dX6_betters_57 : decode cX6_betters 57 = .ok (.invokevirtual 203, 3) := by decide +kernel
theorem dX6_betters_60 : decode cX6_betters 60 = .ok (.iconst (-1), 1) := by decide +kernel
theorem dX6_betters_61 : decode cX6_betters 61 = .ok (.if_icmp .eq 64, 3) := by decide +kernel
theorem dX6_betters_64 : decode cX6_betters 64 = .ok (.aload_n 0, 1) := by decide +kernel
theorem dX6_betters_65 : decode cX6_betters 65 = .ok (.iload 4, 2) := by decide +kernel
theorem dX6_betters_67 : decode cX6_betters 67 = .ok (.invokevirtual 206, 3) := by decide +kernel
theorem dX6_betters_70 : decode cX6_betters 70 = .ok (.iload 5, 2) := by decide +kernel
theorem dX6_betters_72 : decode cX6_betters 72 = .ok (.if_icmp .ne 7, 3) := by decide +kernel
theorem dX6_betters_75 : decode cX6_betters 75 = .ok (.iconst 1, 1) := by decide +kernel
theorem dX6_betters_76 : decode cX6_betters 76 = .ok (.goto 4, 3) := by decide +kernel
theorem dX6_betters_79 : decode cX6_betters 79 = .ok (.iconst 0, 1) := by decide +kernel
theorem dX6_betters_80 : decode cX6_betters 80 = .ok (.iload_n 1, 1) := by decide +kernel
theorem dX6_betters_81 : decode cX6_betters 81 = .ok (.iconst 2, 1) := by decide +kernel
theorem dX6_betters_82 : decode cX6_betters 82 = .ok (.irem, 1) := by decide +kernel
theorem dX6_betters_83 : decode cX6_betters 83 = .ok (.iconst 1, 1) := by decide +kernel
theorem dX6_betters_84 : decode cX6_betters 84 = .ok (.if_icmp .ne 7, 3) := by decide +kernel
theorem dX6_betters_87 : decode cX6_betters 87 = .ok (.iconst 1, 1) := by decide +kernel
theorem dX6_betters_88 : decode cX6_betters 88 = .ok (.goto 4, 3) := by decide +kernel
theorem dX6_betters_91 : decode cX6_betters 91 = .ok (.iconst 0, 1) := by decide +kernel
theorem dX6_betters_92 : decode cX6_betters 92 = .ok (.if_icmp .ne 6, 3) := by decide +kernel
theorem dX6_betters_95 : decode cX6_betters 95 = .ok (.goto 30, 3) := by decide +kernel
theorem dX6_betters_98 : decode cX6_betters 98 = .ok (.aload_n 0, 1) := by decide +kernel
theorem dX6_betters_99 : decode cX6_betters 99 = .ok (.getfield 55, 3) := by decide +kernel
theorem dX6_betters_102 : decode cX6_betters 102 = .ok (.iload_n 1, 1) := by decide +kernel
theorem dX6_betters_103 : decode cX6_betters 103 = .ok (.iload 5, 2) := by decide +kernel
theorem dX6_betters_105 : decode cX6_betters 105 = .ok (.iastore, 1) := by decide +kernel
theorem dX6_betters_106 : decode cX6_betters 106 = .ok (.aload_n 0, 1) := by decide +kernel
theorem dX6_betters_107 : decode cX6_betters 107 = .ok (.iload_n 1, 1) := by decide +kernel
theorem dX6_betters_108 : decode cX6_betters 108 = .ok (.iconst 1, 1) := by decide +kernel
theorem dX6_betters_109 : decode cX6_betters 109 = .ok (.iadd, 1) := by decide +kernel
theorem dX6_betters_110 : decode cX6_betters 110 = .ok (.iload_n 2, 1) := by decide +kernel
theorem dX6_betters_111 : decode cX6_betters 111 = .ok (.iload_n 3, 1) := by decide +kernel
theorem dX6_betters_112 : decode cX6_betters 112 = .ok (.iconst 1, 1) := by decide +kernel
theorem dX6_betters_113 : decode cX6_betters 113 = .ok (.iload 5, 2) := by decide +kernel
theorem dX6_betters_115 : decode cX6_betters 115 = .ok (.ishl, 1) := by decide +kernel
theorem dX6_betters_116 : decode cX6_betters 116 = .ok (.ior, 1) := by decide +kernel
theorem dX6_betters_117 : decode cX6_betters 117 = .ok (.invokevirtual 233, 3) := by decide +kernel
theorem dX6_betters_120 : decode cX6_betters 120 = .ok (.ifCond .eq 5, 3) := by decide +kernel
theorem dX6_betters_123 : decode cX6_betters 123 = .ok (.iconst 1, 1) := by decide +kernel
theorem dX6_betters_124 : decode cX6_betters 124 = .ok (.ireturn, 1) := by decide +kernel
theorem dX6_betters_125 : decode cX6_betters 125 = .ok (.iinc 5 1, 3) := by decide +kernel
theorem dX6_betters_128 : decode cX6_betters 128 = .ok (.goto (-94), 3) := by decide +kernel
theorem dX6_betters_131 : decode cX6_betters 131 = .ok (.iconst 0, 1) := by decide +kernel
theorem dX6_betters_132 : decode cX6_betters 132 = .ok (.ireturn, 1) := by decide +kernel
theorem dX6_findsPath_0 : decode cX6_findsPath 0 = .ok (.aload_n 0, 1) := by decide +kernel
theorem dX6_findsPath_1 : decode cX6_findsPath 1 = .ok (.getfield 55, 3) := by decide +kernel
theorem dX6_findsPath_4 : decode cX6_findsPath 4 = .ok (.iconst 0, 1) := by decide +kernel
theorem dX6_findsPath_5 : decode cX6_findsPath 5 = .ok (.iload_n 1, 1) := by decide +kernel
theorem dX6_findsPath_6 : decode cX6_findsPath 6 = .ok (.iastore, 1) := by decide +kernel
theorem dX6_findsPath_7 : decode cX6_findsPath 7 = .ok (.aload_n 0, 1) := by decide +kernel
theorem dX6_findsPath_8 : decode cX6_findsPath 8 = .ok (.iload_n 1, 1) := by decide +kernel
theorem dX6_findsPath_9 : decode cX6_findsPath 9 = .ok (.invokevirtual 206, 3) := by decide +kernel
theorem dX6_findsPath_12 : decode cX6_findsPath 12 = .ok (.iconst (-1), 1) := by decide +kernel
theorem dX6_findsPath_13 : decode cX6_findsPath 13 = .ok (.if_icmp .eq 5, 3) := by decide +kernel
theorem dX6_findsPath_16 : decode cX6_findsPath 16 = .ok (.iconst 0, 1) := by decide +kernel
theorem dX6_findsPath_17 : decode cX6_findsPath 17 = .ok (.ireturn, 1) := by decide +kernel
theorem dX6_findsPath_18 : decode cX6_findsPath 18 = .ok (.aload_n 0, 1) := by decide +kernel
theorem dX6_findsPath_19 : decode cX6_findsPath 19 = .ok (.iconst 2, 1) := by decide +kernel
theorem dX6_findsPath_20 : decode cX6_findsPath 20 = .ok (.putfield 236, 3) := by decide +kernel
theorem dX6_findsPath_23 : decode cX6_findsPath 23 = .ok (.aload_n 0, 1) := by decide +kernel
theorem dX6_findsPath_24 : decode cX6_findsPath 24 = .ok (.getfield 236, 3) := by decide +kernel
theorem dX6_findsPath_27 : decode cX6_findsPath 27 = .ok (.aload_n 0, 1) := by decide +kernel
theorem dX6_findsPath_28 : decode cX6_findsPath 28 = .ok (.invokevirtual 181, 3) := by decide +kernel
theorem dX6_findsPath_31 : decode cX6_findsPath 31 = .ok (.if_icmp .gt 33, 3) := by decide +kernel
theorem dX6_findsPath_34 : decode cX6_findsPath 34 = .ok (.aload_n 0, 1) := by decide +kernel
theorem dX6_findsPath_35 : decode cX6_findsPath 35 = .ok (.iconst 1, 1) := by decide +kernel
theorem dX6_findsPath_36 : decode cX6_findsPath 36 = .ok (.aload_n 0, 1) := by decide +kernel
theorem dX6_findsPath_37 : decode cX6_findsPath 37 = .ok (.getfield 236, 3) := by decide +kernel
theorem dX6_findsPath_40 : decode cX6_findsPath 40 = .ok (.iconst 1, 1) := by decide +kernel
theorem dX6_findsPath_41 : decode cX6_findsPath 41 = .ok (.iload_n 1, 1) := by decide +kernel
theorem dX6_findsPath_42 : decode cX6_findsPath 42 = .ok (.ishl, 1) := by decide +kernel
theorem dX6_findsPath_43 : decode cX6_findsPath 43 = .ok (.invokevirtual 233, 3) := by decide +kernel
theorem dX6_findsPath_46 : decode cX6_findsPath 46 = .ok (.ifCond .eq 5, 3) := by decide +kernel
theorem dX6_findsPath_49 : decode cX6_findsPath 49 = .ok (.iconst 1, 1) := by decide +kernel
theorem dX6_findsPath_50 : decode cX6_findsPath 50 = .ok (.ireturn, 1) := by decide +kernel
theorem dX6_findsPath_51 : decode cX6_findsPath 51 = .ok (.aload_n 0, 1) := by decide +kernel
theorem dX6_findsPath_52 : decode cX6_findsPath 52 = .ok (.dup, 1) := by decide +kernel
theorem dX6_findsPath_53 : decode cX6_findsPath 53 = .ok (.getfield 236, 3) := by decide +kernel
theorem dX6_findsPath_56 : decode cX6_findsPath 56 = .ok (.iconst 2, 1) := by decide +kernel
theorem dX6_findsPath_57 : decode cX6_findsPath 57 = .ok (.iadd, 1) := by decide +kernel
theorem dX6_findsPath_58 : decode cX6_findsPath 58 = .ok (.putfield 236, 3) := by decide +kernel
theorem dX6_findsPath_61 : decode cX6_findsPath 61 = .ok (.goto (-38), 3) := by decide +kernel
theorem dX6_findsPath_64 : decode cX6_findsPath 64 = .ok (.iconst 0, 1) := by decide +kernel
theorem dX6_findsPath_65 : decode cX6_findsPath 65 = .ok (.ireturn, 1) := by decide +kernel
theorem dX6_rings_0 : decode cX6_rings 0 = .ok (.aload_n 0, 1) := by decide +kernel
theorem dX6_rings_1 : decode cX6_rings 1 = .ok (.getfield 55, 3) := by decide +kernel
theorem dX6_rings_4 : decode cX6_rings 4 = .ok (.iload_n 1, 1) := by decide +kernel
theorem dX6_rings_5 : decode cX6_rings 5 = .ok (.iconst 1, 1) := by decide +kernel
theorem dX6_rings_6 : decode cX6_rings 6 = .ok (.isub, 1) := by decide +kernel
theorem dX6_rings_7 : decode cX6_rings 7 = .ok (.iaload, 1) := by decide +kernel
theorem dX6_rings_8 : decode cX6_rings 8 = .ok (.istore 4, 2) := by decide +kernel
theorem dX6_rings_10 : decode cX6_rings 10 = .ok (.iload_n 1, 1) := by decide +kernel
theorem dX6_rings_11 : decode cX6_rings 11 = .ok (.iload_n 2, 1) := by decide +kernel
theorem dX6_rings_12 : decode cX6_rings 12 = .ok (.if_icmp .ne 25, 3) := by decide +kernel
theorem dX6_rings_15 : decode cX6_rings 15 = .ok (.aload_n 0, 1) := by decide +kernel
theorem dX6_rings_16 : decode cX6_rings 16 = .ok (.iload 4, 2) := by decide +kernel
theorem dX6_rings_18 : decode cX6_rings 18 = .ok (.aload_n 0, 1) := by decide +kernel
theorem dX6_rings_19 : decode cX6_rings 19 = .ok (.getfield 55, 3) := by decide +kernel
theorem dX6_rings_22 : decode cX6_rings 22 = .ok (.iconst 0, 1) := by decide +kernel
theorem dX6_rings_23 : decode cX6_rings 23 = .ok (.iaload, 1) := by decide +kernel
theorem dX6_rings_24 : decode cX6_rings 24 = .ok (.invokevirtual 203, 3) := by decide +kernel
theorem dX6_rings_27 : decode cX6_rings 27 = .ok (.iconst (-1), 1) := by decide +kernel
theorem dX6_rings_28 : decode cX6_rings 28 = .ok (.if_icmp .eq 7, 3) := by decide +kernel
theorem dX6_rings_31 : decode cX6_rings 31 = .ok (.iconst 1, 1) := by decide +kernel
theorem dX6_rings_32 : decode cX6_rings 32 = .ok (.goto 4, 3) := by decide +kernel
theorem dX6_rings_35 : decode cX6_rings 35 = .ok (.iconst 0, 1) := by decide +kernel
theorem dX6_rings_36 : decode cX6_rings 36 = .ok (.ireturn, 1) := by decide +kernel
theorem dX6_rings_37 : decode cX6_rings 37 = .ok (.iconst 0, 1) := by decide +kernel
theorem dX6_rings_38 : decode cX6_rings 38 = .ok (.istore 5, 2) := by decide +kernel
theorem dX6_rings_40 : decode cX6_rings 40 = .ok (.iload 5, 2) := by decide +kernel
theorem dX6_rings_42 : decode cX6_rings 42 = .ok (.aload_n 0, 1) := by decide +kernel
theorem dX6_rings_43 : decode cX6_rings 43 = .ok (.invokevirtual 181, 3) := by decide +kernel
theorem dX6_rings_46 : decode cX6_rings 46 = .ok (.if_icmp .ge 106, 3) := by decide +kernel
theorem dX6_rings_49 : decode cX6_rings 49 = .ok (.iload_n 3, 1) := by decide +kernel
theorem dX6_rings_50 : decode cX6_rings 50 = .ok (.iload 5, 2) := by decide +kernel
theorem dX6_rings_52 : decode cX6_rings 52 = .ok (.invokestatic 183, 3) := by decide +kernel
theorem dX6_rings_55 : decode cX6_rings 55 = .ok (.ifCond .ne 91, 3) := by decide +kernel
theorem dX6_rings_58 : decode cX6_rings 58 = .ok (.aload_n 0, 1) := by decide +kernel
theorem dX6_rings_59 : decode cX6_rings 59 = .ok (.iload 4, 2) := by decide +kernel
theorem dX6_rings_61 : decode cX6_rings 61 = .ok (.iload 5, 2) := by decide +kernel
theorem dX6_rings_63 : decode cX6_rings 63 = .ok (.invokevirtual 203, 3) := by decide +kernel
theorem dX6_rings_66 : decode cX6_rings 66 = .ok (.iconst (-1), 1) := by decide +kernel
theorem dX6_rings_67 : decode cX6_rings 67 = .ok (.if_icmp .eq 79, 3) := by decide +kernel
theorem dX6_rings_70 : decode cX6_rings 70 = .ok (.aload_n 0, 1) := by decide +kernel
theorem dX6_rings_71 : decode cX6_rings 71 = .ok (.iload 5, 2) := by decide +kernel
theorem dX6_rings_73 : decode cX6_rings 73 = .ok (.invokevirtual 206, 3) := by decide +kernel
theorem dX6_rings_76 : decode cX6_rings 76 = .ok (.iconst (-1), 1) := by decide +kernel
theorem dX6_rings_77 : decode cX6_rings 77 = .ok (.if_icmp .eq 69, 3) := by decide +kernel
theorem dX6_rings_80 : decode cX6_rings 80 = .ok (.iload_n 3, 1) := by decide +kernel
theorem dX6_rings_81 : decode cX6_rings 81 = .ok (.aload_n 0, 1) := by decide +kernel
theorem dX6_rings_82 : decode cX6_rings 82 = .ok (.iload 5, 2) := by decide +kernel
theorem dX6_rings_84 : decode cX6_rings 84 = .ok (.invokevirtual 206, 3) := by decide +kernel
theorem dX6_rings_87 : decode cX6_rings 87 = .ok (.invokestatic 183, 3) := by decide +kernel
theorem dX6_rings_90 : decode cX6_rings 90 = .ok (.ifCond .eq 6, 3) := by decide +kernel
theorem dX6_rings_93 : decode cX6_rings 93 = .ok (.goto 53, 3) := by decide +kernel
theorem dX6_rings_96 : decode cX6_rings 96 = .ok (.aload_n 0, 1) := by decide +kernel
theorem dX6_rings_97 : decode cX6_rings 97 = .ok (.getfield 55, 3) := by decide +kernel
theorem dX6_rings_100 : decode cX6_rings 100 = .ok (.iload_n 1, 1) := by decide +kernel
theorem dX6_rings_101 : decode cX6_rings 101 = .ok (.iload 5, 2) := by decide +kernel
theorem dX6_rings_103 : decode cX6_rings 103 = .ok (.iastore, 1) := by decide +kernel
theorem dX6_rings_104 : decode cX6_rings 104 = .ok (.aload_n 0, 1) := by decide +kernel
theorem dX6_rings_105 : decode cX6_rings 105 = .ok (.getfield 55, 3) := by decide +kernel
theorem dX6_rings_108 : decode cX6_rings 108 = .ok (.iload_n 1, 1) := by decide +kernel
theorem dX6_rings_109 : decode cX6_rings 109 = .ok (.iconst 1, 1) := by decide +kernel
theorem dX6_rings_110 : decode cX6_rings 110 = .ok (.iadd, 1) := by decide +kernel
theorem dX6_rings_111 : decode cX6_rings 111 = .ok (.aload_n 0, 1) := by decide +kernel
theorem dX6_rings_112 : decode cX6_rings 112 = .ok (.iload 5, 2) := by decide +kernel
theorem dX6_rings_114 : decode cX6_rings 114 = .ok (.invokevirtual 206, 3) := by decide +kernel
theorem dX6_rings_117 : decode cX6_rings 117 = .ok (.iastore, 1) := by decide +kernel
theorem dX6_rings_118 : decode cX6_rings 118 = .ok (.aload_n 0, 1) := by decide +kernel
theorem dX6_rings_119 : decode cX6_rings 119 = .ok (.iload_n 1, 1) := by decide +kernel
theorem dX6_rings_120 : decode cX6_rings 120 = .ok (.iconst 2, 1) := by decide +kernel
theorem dX6_rings_121 : decode cX6_rings 121 = .ok (.iadd, 1) := by decide +kernel
theorem dX6_rings_122 : decode cX6_rings 122 = .ok (.iload_n 2, 1) := by decide +kernel
theorem dX6_rings_123 : decode cX6_rings 123 = .ok (.iload_n 3, 1) := by decide +kernel
theorem dX6_rings_124 : decode cX6_rings 124 = .ok (.iconst 1, 1) := by decide +kernel
theorem dX6_rings_125 : decode cX6_rings 125 = .ok (.iload 5, 2) := by decide +kernel
theorem dX6_rings_127 : decode cX6_rings 127 = .ok (.ishl, 1) := by decide +kernel
theorem dX6_rings_128 : decode cX6_rings 128 = .ok (.ior, 1) := by decide +kernel
theorem dX6_rings_129 : decode cX6_rings 129 = .ok (.iconst 1, 1) := by decide +kernel
theorem dX6_rings_130 : decode cX6_rings 130 = .ok (.aload_n 0, 1) := by decide +kernel
theorem dX6_rings_131 : decode cX6_rings 131 = .ok (.iload 5, 2) := by decide +kernel
theorem dX6_rings_133 : decode cX6_rings 133 = .ok (.invokevirtual 206, 3) := by decide +kernel
theorem dX6_rings_136 : decode cX6_rings 136 = .ok (.ishl, 1) := by decide +kernel
theorem dX6_rings_137 : decode cX6_rings 137 = .ok (.ior, 1) := by decide +kernel
theorem dX6_rings_138 : decode cX6_rings 138 = .ok (.invokevirtual 239, 3) := by decide +kernel
theorem dX6_rings_141 : decode cX6_rings 141 = .ok (.ifCond .eq 5, 3) := by decide +kernel
theorem dX6_rings_144 : decode cX6_rings 144 = .ok (.iconst 1, 1) := by decide +kernel
theorem dX6_rings_145 : decode cX6_rings 145 = .ok (.ireturn, 1) := by decide +kernel
theorem dX6_rings_146 : decode cX6_rings 146 = .ok (.iinc 5 1, 3) := by decide +kernel
theorem dX6_rings_149 : decode cX6_rings 149 = .ok (.goto (-109), 3) := by decide +kernel
theorem dX6_rings_152 : decode cX6_rings 152 = .ok (.iconst 0, 1) := by decide +kernel
theorem dX6_rings_153 : decode cX6_rings 153 = .ok (.ireturn, 1) := by decide +kernel
theorem dX6_findsFlower_0 : decode cX6_findsFlower 0 = .ok (.aload_n 0, 1) := by decide +kernel
theorem dX6_findsFlower_1 : decode cX6_findsFlower 1 = .ok (.getfield 55, 3) := by decide +kernel
theorem dX6_findsFlower_4 : decode cX6_findsFlower 4 = .ok (.iconst 0, 1) := by decide +kernel
theorem dX6_findsFlower_5 : decode cX6_findsFlower 5 = .ok (.iload_n 1, 1) := by decide +kernel
theorem dX6_findsFlower_6 : decode cX6_findsFlower 6 = .ok (.iastore, 1) := by decide +kernel
theorem dX6_findsFlower_7 : decode cX6_findsFlower 7 = .ok (.aload_n 0, 1) := by decide +kernel
theorem dX6_findsFlower_8 : decode cX6_findsFlower 8 = .ok (.iconst 3, 1) := by decide +kernel
theorem dX6_findsFlower_9 : decode cX6_findsFlower 9 = .ok (.putfield 236, 3) := by decide +kernel
theorem dX6_findsFlower_12 : decode cX6_findsFlower 12 = .ok (.aload_n 0, 1) := by decide +kernel
theorem dX6_findsFlower_13 : decode cX6_findsFlower 13 = .ok (.getfield 236, 3) := by decide +kernel
theorem dX6_findsFlower_16 : decode cX6_findsFlower 16 = .ok (.aload_n 0, 1) := by decide +kernel
theorem dX6_findsFlower_17 : decode cX6_findsFlower 17 = .ok (.invokevirtual 181, 3) := by decide +kernel
theorem dX6_findsFlower_20 : decode cX6_findsFlower 20 = .ok (.if_icmp .gt 33, 3) := by decide +kernel
theorem dX6_findsFlower_23 : decode cX6_findsFlower 23 = .ok (.aload_n 0, 1) := by decide +kernel
theorem dX6_findsFlower_24 : decode cX6_findsFlower 24 = .ok (.iconst 1, 1) := by decide +kernel
theorem dX6_findsFlower_25 : decode cX6_findsFlower 25 = .ok (.aload_n 0, 1) := by decide +kernel
theorem dX6_findsFlower_26 : decode cX6_findsFlower 26 = .ok (.getfield 236, 3) := by decide +kernel
theorem dX6_findsFlower_29 : decode cX6_findsFlower 29 = .ok (.iconst 1, 1) := by decide +kernel
theorem dX6_findsFlower_30 : decode cX6_findsFlower 30 = .ok (.iload_n 1, 1) := by decide +kernel
theorem dX6_findsFlower_31 : decode cX6_findsFlower 31 = .ok (.ishl, 1) := by decide +kernel
theorem dX6_findsFlower_32 : decode cX6_findsFlower 32 = .ok (.invokevirtual 239, 3) := by decide +kernel
theorem dX6_findsFlower_35 : decode cX6_findsFlower 35 = .ok (.ifCond .eq 5, 3) := by decide +kernel
theorem dX6_findsFlower_38 : decode cX6_findsFlower 38 = .ok (.iconst 1, 1) := by decide +kernel
theorem dX6_findsFlower_39 : decode cX6_findsFlower 39 = .ok (.ireturn, 1) := by decide +kernel
theorem dX6_findsFlower_40 : decode cX6_findsFlower 40 = .ok (.aload_n 0, 1) := by decide +kernel
theorem dX6_findsFlower_41 : decode cX6_findsFlower 41 = .ok (.dup, 1) := by decide +kernel
theorem dX6_findsFlower_42 : decode cX6_findsFlower 42 = .ok (.getfield 236, 3) := by decide +kernel
theorem dX6_findsFlower_45 : decode cX6_findsFlower 45 = .ok (.iconst 2, 1) := by decide +kernel
theorem dX6_findsFlower_46 : decode cX6_findsFlower 46 = .ok (.iadd, 1) := by decide +kernel
theorem dX6_findsFlower_47 : decode cX6_findsFlower 47 = .ok (.putfield 236, 3) := by decide +kernel
theorem dX6_findsFlower_50 : decode cX6_findsFlower 50 = .ok (.goto (-38), 3) := by decide +kernel
theorem dX6_findsFlower_53 : decode cX6_findsFlower 53 = .ok (.iconst 0, 1) := by decide +kernel
theorem dX6_findsFlower_54 : decode cX6_findsFlower 54 = .ok (.ireturn, 1) := by decide +kernel
theorem dX6_remembers_0 : decode cX6_remembers 0 = .ok (.aload_n 0, 1) := by decide +kernel
theorem dX6_remembers_1 : decode cX6_remembers 1 = .ok (.getfield 242, 3) := by decide +kernel
theorem dX6_remembers_4 : decode cX6_remembers 4 = .ok (.bipush 8, 2) := by decide +kernel
theorem dX6_remembers_6 : decode cX6_remembers 6 = .ok (.if_icmp .ne 44, 3) := by decide +kernel
theorem dX6_remembers_9 : decode cX6_remembers 9 = .ok (.iconst 1, 1) := by decide +kernel
theorem dX6_remembers_10 : decode cX6_remembers 10 = .ok (.istore_n 1, 1) := by decide +kernel
theorem dX6_remembers_11 : decode cX6_remembers 11 = .ok (.iload_n 1, 1) := by decide +kernel
theorem dX6_remembers_12 : decode cX6_remembers 12 = .ok (.bipush 8, 2) := by decide +kernel
theorem dX6_remembers_14 : decode cX6_remembers 14 = .ok (.if_icmp .ge 26, 3) := by decide +kernel
theorem dX6_remembers_17 : decode cX6_remembers 17 = .ok (.aload_n 0, 1) := by decide +kernel
theorem dX6_remembers_18 : decode cX6_remembers 18 = .ok (.getfield 28, 3) := by decide +kernel
theorem dX6_remembers_21 : decode cX6_remembers 21 = .ok (.iload_n 1, 1) := by decide +kernel
theorem dX6_remembers_22 : decode cX6_remembers 22 = .ok (.aaload, 1) := by decide +kernel
theorem dX6_remembers_23 : decode cX6_remembers 23 = .ok (.aload_n 0, 1) := by decide +kernel
theorem dX6_remembers_24 : decode cX6_remembers 24 = .ok (.getfield 28, 3) := by decide +kernel
theorem dX6_remembers_27 : decode cX6_remembers 27 = .ok (.iload_n 1, 1) := by decide +kernel
theorem dX6_remembers_28 : decode cX6_remembers 28 = .ok (.iconst 1, 1) := by decide +kernel
theorem dX6_remembers_29 : decode cX6_remembers 29 = .ok (.isub, 1) := by decide +kernel
theorem dX6_remembers_30 : decode cX6_remembers 30 = .ok (.aaload, 1) := by decide +kernel
theorem dX6_remembers_31 : decode cX6_remembers 31 = .ok (.invokestatic 174, 3) := by decide +kernel
theorem dX6_remembers_34 : decode cX6_remembers 34 = .ok (.iinc 1 1, 3) := by decide +kernel
theorem dX6_remembers_37 : decode cX6_remembers 37 = .ok (.goto (-26), 3) := by decide +kernel
theorem dX6_remembers_40 : decode cX6_remembers 40 = .ok (.aload_n 0, 1) := by decide +kernel
theorem dX6_remembers_41 : decode cX6_remembers 41 = .ok (.dup, 1) := by decide +kernel
theorem dX6_remembers_42 : decode cX6_remembers 42 = .ok (.getfield 242, 3) := by decide +kernel
theorem dX6_remembers_45 : decode cX6_remembers 45 = .ok (.iconst 1, 1) := by decide +kernel
theorem dX6_remembers_46 : decode cX6_remembers 46 = .ok (.isub, 1) := by decide +kernel
theorem dX6_remembers_47 : decode cX6_remembers 47 = .ok (.putfield 242, 3) := by decide +kernel
theorem dX6_remembers_50 : decode cX6_remembers 50 = .ok (.aload_n 0, 1) := by decide +kernel
theorem dX6_remembers_51 : decode cX6_remembers 51 = .ok (.getfield 20, 3) := by decide +kernel
theorem dX6_remembers_54 : decode cX6_remembers 54 = .ok (.aload_n 0, 1) := by decide +kernel
theorem dX6_remembers_55 : decode cX6_remembers 55 = .ok (.getfield 28, 3) := by decide +kernel
theorem dX6_remembers_58 : decode cX6_remembers 58 = .ok (.aload_n 0, 1) := by decide +kernel
theorem dX6_remembers_59 : decode cX6_remembers 59 = .ok (.getfield 242, 3) := by decide +kernel
theorem dX6_remembers_62 : decode cX6_remembers 62 = .ok (.aaload, 1) := by decide +kernel
theorem dX6_remembers_63 : decode cX6_remembers 63 = .ok (.invokestatic 174, 3) := by decide +kernel
theorem dX6_remembers_66 : decode cX6_remembers 66 = .ok (.aload_n 0, 1) := by decide +kernel
theorem dX6_remembers_67 : decode cX6_remembers 67 = .ok (.dup, 1) := by decide +kernel
theorem dX6_remembers_68 : decode cX6_remembers 68 = .ok (.getfield 242, 3) := by decide +kernel
theorem dX6_remembers_71 : decode cX6_remembers 71 = .ok (.iconst 1, 1) := by decide +kernel
theorem dX6_remembers_72 : decode cX6_remembers 72 = .ok (.iadd, 1) := by decide +kernel
theorem dX6_remembers_73 : decode cX6_remembers 73 = .ok (.putfield 242, 3) := by decide +kernel
theorem dX6_remembers_76 : decode cX6_remembers 76 = .ok (.return_, 1) := by decide +kernel
theorem dX6_undo_0 : decode cX6_undo 0 = .ok (.aload_n 0, 1) := by decide +kernel
theorem dX6_undo_1 : decode cX6_undo 1 = .ok (.iconst 0, 1) := by decide +kernel
theorem dX6_undo_2 : decode cX6_undo 2 = .ok (.putfield 72, 3) := by decide +kernel
theorem dX6_undo_5 : decode cX6_undo 5 = .ok (.aload_n 0, 1) := by decide +kernel
theorem dX6_undo_6 : decode cX6_undo 6 = .ok (.getfield 242, 3) := by decide +kernel
theorem dX6_undo_9 : decode cX6_undo 9 = .ok (.ifCond .ne 5, 3) := by decide +kernel
theorem dX6_undo_12 : decode cX6_undo 12 = .ok (.iconst (-1), 1) := by decide +kernel
theorem dX6_undo_13 : decode cX6_undo 13 = .ok (.ireturn, 1) := by decide +kernel
theorem dX6_undo_14 : decode cX6_undo 14 = .ok (.aload_n 0, 1) := by decide +kernel
theorem dX6_undo_15 : decode cX6_undo 15 = .ok (.dup, 1) := by decide +kernel
theorem dX6_undo_16 : decode cX6_undo 16 = .ok (.getfield 242, 3) := by decide +kernel
theorem dX6_undo_19 : decode cX6_undo 19 = .ok (.iconst 1, 1) := by decide +kernel
theorem dX6_undo_20 : decode cX6_undo 20 = .ok (.isub, 1) := by decide +kernel
theorem dX6_undo_21 : decode cX6_undo 21 = .ok (.putfield 242, 3) := by decide +kernel
theorem dX6_undo_24 : decode cX6_undo 24 = .ok (.aload_n 0, 1) := by decide +kernel
theorem dX6_undo_25 : decode cX6_undo 25 = .ok (.getfield 28, 3) := by decide +kernel
theorem dX6_undo_28 : decode cX6_undo 28 = .ok (.aload_n 0, 1) := by decide +kernel
theorem dX6_undo_29 : decode cX6_undo 29 = .ok (.getfield 242, 3) := by decide +kernel
theorem dX6_undo_32 : decode cX6_undo 32 = .ok (.aaload, 1) := by decide +kernel
theorem dX6_undo_33 : decode cX6_undo 33 = .ok (.aload_n 0, 1) := by decide +kernel
theorem dX6_undo_34 : decode cX6_undo 34 = .ok (.getfield 20, 3) := by decide +kernel
theorem dX6_undo_37 : decode cX6_undo 37 = .ok (.invokestatic 174, 3) := by decide +kernel
theorem dX6_undo_40 : decode cX6_undo 40 = .ok (.aload_n 0, 1) := by decide +kernel
theorem dX6_undo_41 : decode cX6_undo 41 = .ok (.invokevirtual 69, 3) := by decide +kernel
theorem dX6_undo_44 : decode cX6_undo 44 = .ok (.aload_n 0, 1) := by decide +kernel
theorem dX6_undo_45 : decode cX6_undo 45 = .ok (.getfield 242, 3) := by decide +kernel
theorem dX6_undo_48 : decode cX6_undo 48 = .ok (.ireturn, 1) := by decide +kernel
theorem dX6_isNode_0 : decode cX6_isNode 0 = .ok (.iload_n 1, 1) := by decide +kernel
theorem dX6_isNode_1 : decode cX6_isNode 1 = .ok (.iconst 0, 1) := by decide +kernel
theorem dX6_isNode_2 : decode cX6_isNode 2 = .ok (.aload_n 0, 1) := by decide +kernel
theorem dX6_isNode_3 : decode cX6_isNode 3 = .ok (.invokevirtual 181, 3) := by decide +kernel
theorem dX6_isNode_6 : decode cX6_isNode 6 = .ok (.iconst 1, 1) := by decide +kernel
theorem dX6_isNode_7 : decode cX6_isNode 7 = .ok (.isub, 1) := by decide +kernel
theorem dX6_isNode_8 : decode cX6_isNode 8 = .ok (.invokestatic 111, 3) := by decide +kernel
theorem dX6_isNode_11 : decode cX6_isNode 11 = .ok (.ireturn, 1) := by decide +kernel
theorem dX6_join_0 : decode cX6_join 0 = .ok (.aload_n 0, 1) := by decide +kernel
theorem dX6_join_1 : decode cX6_join 1 = .ok (.iconst 0, 1) := by decide +kernel
theorem dX6_join_2 : decode cX6_join 2 = .ok (.putfield 72, 3) := by decide +kernel
theorem dX6_join_5 : decode cX6_join 5 = .ok (.aload_n 0, 1) := by decide +kernel
theorem dX6_join_6 : decode cX6_join 6 = .ok (.aload_n 0, 1) := by decide +kernel
theorem dX6_join_7 : decode cX6_join 7 = .ok (.iload_n 1, 1) := by decide +kernel
theorem dX6_join_8 : decode cX6_join 8 = .ok (.invokevirtual 245, 3) := by decide +kernel
theorem dX6_join_11 : decode cX6_join 11 = .ok (.ifCond .eq 11, 3) := by decide +kernel
theorem dX6_join_14 : decode cX6_join 14 = .ok (.aload_n 0, 1) := by decide +kernel
theorem dX6_join_15 : decode cX6_join 15 = .ok (.iload_n 2, 1) := by decide +kernel
theorem dX6_join_16 : decode cX6_join 16 = .ok (.invokevirtual 245, 3) := by decide +kernel
theorem dX6_join_19 : decode cX6_join 19 = .ok (.ifCond .ne 7, 3) := by decide +kernel
theorem dX6_join_22 : decode cX6_join 22 = .ok (.iconst 1, 1) := by decide +kernel
theorem dX6_join_23 : decode cX6_join 23 = .ok (.goto 4, 3) := by decide +kernel
theorem dX6_join_26 : decode cX6_join 26 = .ok (.iconst 0, 1) := by decide +kernel
theorem dX6_join_27 : decode cX6_join 27 = .ok (.iconst 1, 1) := by decide +kernel
theorem dX6_join_28 : decode cX6_join 28 = .ok (.iconst 0, 1) := by decide +kernel
theorem dX6_join_29 : decode cX6_join 29 = .ok (.invokevirtual 159, 3) := by decide +kernel
theorem dX6_join_32 : decode cX6_join 32 = .ok (.ifCond .ne 33, 3) := by decide +kernel
theorem dX6_join_35 : decode cX6_join 35 = .ok (.aload_n 0, 1) := by decide +kernel
theorem dX6_join_36 : decode cX6_join 36 = .ok (.iload_n 1, 1) := by decide +kernel
theorem dX6_join_37 : decode cX6_join 37 = .ok (.iload_n 2, 1) := by decide +kernel
theorem dX6_join_38 : decode cX6_join 38 = .ok (.if_icmp .eq 14, 3) := by decide +kernel
theorem dX6_join_41 : decode cX6_join 41 = .ok (.iload_n 3, 1) := by decide +kernel
theorem dX6_join_42 : decode cX6_join 42 = .ok (.iconst 0, 1) := by decide +kernel
theorem dX6_join_43 : decode cX6_join 43 = .ok (.sipush 999, 3) := by decide +kernel
theorem dX6_join_46 : decode cX6_join 46 = .ok (.invokestatic 111, 3) := by decide +kernel
theorem dX6_join_49 : decode cX6_join 49 = .ok (.ifCond .ne 7, 3) := by decide +kernel
theorem dX6_join_52 : decode cX6_join 52 = .ok (.iconst 1, 1) := by decide +kernel
theorem dX6_join_53 : decode cX6_join 53 = .ok (.goto 4, 3) := by decide +kernel
theorem dX6_join_56 : decode cX6_join 56 = .ok (.iconst 0, 1) := by decide +kernel
theorem dX6_join_57 : decode cX6_join 57 = .ok (.iconst 2, 1) := by decide +kernel
theorem dX6_join_58 : decode cX6_join 58 = .ok (.iconst 1, 1) := by decide +kernel
theorem dX6_join_59 : decode cX6_join 59 = .ok (.invokevirtual 159, 3) := by decide +kernel
theorem dX6_join_62 : decode cX6_join 62 = .ok (.ifCond .eq 5, 3) := by decide +kernel
theorem dX6_join_65 : decode cX6_join 65 = .ok (.iconst 0, 1) := by decide +kernel
theorem dX6_join_66 : decode cX6_join 66 = .ok (.ireturn, 1) := by decide +kernel
theorem dX6_join_67 : decode cX6_join 67 = .ok (.aload_n 0, 1) := by decide +kernel
theorem dX6_join_68 : decode cX6_join 68 = .ok (.invokevirtual 171, 3) := by decide +kernel
theorem dX6_join_71 : decode cX6_join 71 = .ok (.aload_n 0, 1) := by decide +kernel
theorem dX6_join_72 : decode cX6_join 72 = .ok (.getfield 20, 3) := by decide +kernel
theorem dX6_join_75 : decode cX6_join 75 = .ok (.iload_n 1, 1) := by decide +kernel
theorem dX6_join_76 : decode cX6_join 76 = .ok (.iload_n 2, 1) := by decide +kernel
theorem dX6_join_77 : decode cX6_join 77 = .ok (.iload_n 3, 1) := by decide +kernel
theorem dX6_join_78 : decode cX6_join 78 = .ok (.invokestatic 65, 3) := by decide +kernel
theorem dX6_join_81 : decode cX6_join 81 = .ok (.aload_n 0, 1) := by decide +kernel
theorem dX6_join_82 : decode cX6_join 82 = .ok (.invokevirtual 69, 3) := by decide +kernel
theorem dX6_join_85 : decode cX6_join 85 = .ok (.aload_n 0, 1) := by decide +kernel
theorem dX6_join_86 : decode cX6_join 86 = .ok (.invokevirtual 178, 3) := by decide +kernel
theorem dX6_join_89 : decode cX6_join 89 = .ok (.ireturn, 1) := by decide +kernel
theorem dX6_parts_0 : decode cX6_parts 0 = .ok (.aload_n 0, 1) := by decide +kernel
theorem dX6_parts_1 : decode cX6_parts 1 = .ok (.iload_n 1, 1) := by decide +kernel
theorem dX6_parts_2 : decode cX6_parts 2 = .ok (.invokevirtual 206, 3) := by decide +kernel
theorem dX6_parts_5 : decode cX6_parts 5 = .ok (.istore_n 2, 1) := by decide +kernel
theorem dX6_parts_6 : decode cX6_parts 6 = .ok (.aload_n 0, 1) := by decide +kernel
theorem dX6_parts_7 : decode cX6_parts 7 = .ok (.getfield 20, 3) := by decide +kernel
theorem dX6_parts_10 : decode cX6_parts 10 = .ok (.iconst 1, 1) := by decide +kernel
theorem dX6_parts_11 : decode cX6_parts 11 = .ok (.iload_n 1, 1) := by decide +kernel
theorem dX6_parts_12 : decode cX6_parts 12 = .ok (.iadd, 1) := by decide +kernel
theorem dX6_parts_13 : decode cX6_parts 13 = .ok (.iconst (-1), 1) := by decide +kernel
theorem dX6_parts_14 : decode cX6_parts 14 = .ok (.iastore, 1) := by decide +kernel
theorem dX6_parts_15 : decode cX6_parts 15 = .ok (.aload_n 0, 1) := by decide +kernel
theorem dX6_parts_16 : decode cX6_parts 16 = .ok (.getfield 20, 3) := by decide +kernel
theorem dX6_parts_19 : decode cX6_parts 19 = .ok (.iconst 1, 1) := by decide +kernel
theorem dX6_parts_20 : decode cX6_parts 20 = .ok (.iload_n 2, 1) := by decide +kernel
theorem dX6_parts_21 : decode cX6_parts 21 = .ok (.iadd, 1) := by decide +kernel
theorem dX6_parts_22 : decode cX6_parts 22 = .ok (.iconst (-1), 1) := by decide +kernel
theorem dX6_parts_23 : decode cX6_parts 23 = .ok (.iastore, 1) := by decide +kernel
theorem dX6_parts_24 : decode cX6_parts 24 = .ok (.return_, 1) := by decide +kernel
theorem dX6_cut_0 : decode cX6_cut 0 = .ok (.aload_n 0, 1) := by decide +kernel
theorem dX6_cut_1 : decode cX6_cut 1 = .ok (.iconst 0, 1) := by decide +kernel
theorem dX6_cut_2 : decode cX6_cut 2 = .ok (.putfield 72, 3) := by decide +kernel
theorem dX6_cut_5 : decode cX6_cut 5 = .ok (.aload_n 0, 1) := by decide +kernel
theorem dX6_cut_6 : decode cX6_cut 6 = .ok (.aload_n 0, 1) := by decide +kernel
theorem dX6_cut_7 : decode cX6_cut 7 = .ok (.iload_n 1, 1) := by decide +kernel
theorem dX6_cut_8 : decode cX6_cut 8 = .ok (.invokevirtual 245, 3) := by decide +kernel
theorem dX6_cut_11 : decode cX6_cut 11 = .ok (.ifCond .eq 11, 3) := by decide +kernel
theorem dX6_cut_14 : decode cX6_cut 14 = .ok (.aload_n 0, 1) := by decide +kernel
theorem dX6_cut_15 : decode cX6_cut 15 = .ok (.iload_n 2, 1) := by decide +kernel
theorem dX6_cut_16 : decode cX6_cut 16 = .ok (.invokevirtual 245, 3) := by decide +kernel
theorem dX6_cut_19 : decode cX6_cut 19 = .ok (.ifCond .ne 7, 3) := by decide +kernel
theorem dX6_cut_22 : decode cX6_cut 22 = .ok (.iconst 1, 1) := by decide +kernel
theorem dX6_cut_23 : decode cX6_cut 23 = .ok (.goto 4, 3) := by decide +kernel
theorem dX6_cut_26 : decode cX6_cut 26 = .ok (.iconst 0, 1) := by decide +kernel
theorem dX6_cut_27 : decode cX6_cut 27 = .ok (.iconst 1, 1) := by decide +kernel
theorem dX6_cut_28 : decode cX6_cut 28 = .ok (.iconst 0, 1) := by decide +kernel
theorem dX6_cut_29 : decode cX6_cut 29 = .ok (.invokevirtual 159, 3) := by decide +kernel
theorem dX6_cut_32 : decode cX6_cut 32 = .ok (.ifCond .ne 46, 3) := by decide +kernel
theorem dX6_cut_35 : decode cX6_cut 35 = .ok (.aload_n 0, 1) := by decide +kernel
theorem dX6_cut_36 : decode cX6_cut 36 = .ok (.iload_n 1, 1) := by decide +kernel
theorem dX6_cut_37 : decode cX6_cut 37 = .ok (.iload_n 2, 1) := by decide +kernel
theorem dX6_cut_38 : decode cX6_cut 38 = .ok (.if_icmp .ne 7, 3) := by decide +kernel
theorem dX6_cut_41 : decode cX6_cut 41 = .ok (.iconst 1, 1) := by decide +kernel
theorem dX6_cut_42 : decode cX6_cut 42 = .ok (.goto 4, 3) := by decide +kernel
theorem dX6_cut_45 : decode cX6_cut 45 = .ok (.iconst 0, 1) := by decide +kernel
theorem dX6_cut_46 : decode cX6_cut 46 = .ok (.iconst 2, 1) := by decide +kernel
theorem dX6_cut_47 : decode cX6_cut 47 = .ok (.iconst 1, 1) := by decide +kernel
theorem dX6_cut_48 : decode cX6_cut 48 = .ok (.invokevirtual 159, 3) := by decide +kernel
theorem dX6_cut_51 : decode cX6_cut 51 = .ok (.ifCond .ne 27, 3) := by decide +kernel
theorem dX6_cut_54 : decode cX6_cut 54 = .ok (.aload_n 0, 1) := by decide +kernel
theorem dX6_cut_55 : decode cX6_cut 55 = .ok (.aload_n 0, 1) := by decide +kernel
theorem dX6_cut_56 : decode cX6_cut 56 = .ok (.iload_n 1, 1) := by decide +kernel
theorem dX6_cut_57 : decode cX6_cut 57 = .ok (.iload_n 2, 1) := by decide +kernel
theorem dX6_cut_58 : decode cX6_cut 58 = .ok (.invokevirtual 203, 3) := by decide +kernel
theorem dX6_cut_61 : decode cX6_cut 61 = .ok (.iconst (-1), 1) := by decide +kernel
theorem dX6_cut_62 : decode cX6_cut 62 = .ok (.if_icmp .ne 7, 3) := by decide +kernel
theorem dX6_cut_65 : decode cX6_cut 65 = .ok (.iconst 1, 1) := by decide +kernel
theorem dX6_cut_66 : decode cX6_cut 66 = .ok (.goto 4, 3) := by decide +kernel
theorem dX6_cut_69 : decode cX6_cut 69 = .ok (.iconst 0, 1) := by decide +kernel
theorem dX6_cut_70 : decode cX6_cut 70 = .ok (.iconst 3, 1) := by decide +kernel
theorem dX6_cut_71 : decode cX6_cut 71 = .ok (.iconst 2, 1) := by decide +kernel
theorem dX6_cut_72 : decode cX6_cut 72 = .ok (.invokevirtual 159, 3) := by decide +kernel
theorem dX6_cut_75 : decode cX6_cut 75 = .ok (.ifCond .eq 5, 3) := by decide +kernel
theorem dX6_cut_78 : decode cX6_cut 78 = .ok (.iconst 0, 1) := by decide +kernel
theorem dX6_cut_79 : decode cX6_cut 79 = .ok (.ireturn, 1) := by decide +kernel
theorem dX6_cut_80 : decode cX6_cut 80 = .ok (.aload_n 0, 1) := by decide +kernel
theorem dX6_cut_81 : decode cX6_cut 81 = .ok (.invokevirtual 171, 3) := by decide +kernel
theorem dX6_cut_84 : decode cX6_cut 84 = .ok (.aload_n 0, 1) := by decide +kernel
theorem dX6_cut_85 : decode cX6_cut 85 = .ok (.iload_n 1, 1) := by decide +kernel
theorem dX6_cut_86 : decode cX6_cut 86 = .ok (.invokevirtual 206, 3) := by decide +kernel
theorem dX6_cut_89 : decode cX6_cut 89 = .ok (.iload_n 2, 1) := by decide +kernel
theorem dX6_cut_90 : decode cX6_cut 90 = .ok (.if_icmp .ne 8, 3) := by decide +kernel
theorem dX6_cut_93 : decode cX6_cut 93 = .ok (.aload_n 0, 1) := by decide +kernel
theorem dX6_cut_94 : decode cX6_cut 94 = .ok (.iload_n 1, 1) := by decide +kernel
theorem dX6_cut_95 : decode cX6_cut 95 = .ok (.invokevirtual 248, 3) := by decide +kernel
theorem dX6_cut_98 : decode cX6_cut 98 = .ok (.aload_n 0, 1) := by decide +kernel
theorem dX6_cut_99 : decode cX6_cut 99 = .ok (.getfield 20, 3) := by decide +kernel
theorem dX6_cut_102 : decode cX6_cut 102 = .ok (.iload_n 1, 1) := by decide +kernel
theorem dX6_cut_103 : decode cX6_cut 103 = .ok (.iload_n 2, 1) := by decide +kernel
theorem dX6_cut_104 : decode cX6_cut 104 = .ok (.iconst (-1), 1) := by decide +kernel
theorem dX6_cut_105 : decode cX6_cut 105 = .ok (.invokestatic 65, 3) := by decide +kernel
theorem dX6_cut_108 : decode cX6_cut 108 = .ok (.aload_n 0, 1) := by decide +kernel
theorem dX6_cut_109 : decode cX6_cut 109 = .ok (.invokevirtual 69, 3) := by decide +kernel
theorem dX6_cut_112 : decode cX6_cut 112 = .ok (.aload_n 0, 1) := by decide +kernel
theorem dX6_cut_113 : decode cX6_cut 113 = .ok (.invokevirtual 178, 3) := by decide +kernel
theorem dX6_cut_116 : decode cX6_cut 116 = .ok (.ireturn, 1) := by decide +kernel
theorem dX6_mates_0 : decode cX6_mates 0 = .ok (.aload_n 0, 1) := by decide +kernel
theorem dX6_mates_1 : decode cX6_mates 1 = .ok (.getfield 20, 3) := by decide +kernel
theorem dX6_mates_4 : decode cX6_mates 4 = .ok (.iconst 1, 1) := by decide +kernel
theorem dX6_mates_5 : decode cX6_mates 5 = .ok (.iload_n 1, 1) := by decide +kernel
theorem dX6_mates_6 : decode cX6_mates 6 = .ok (.iadd, 1) := by decide +kernel
theorem dX6_mates_7 : decode cX6_mates 7 = .ok (.iload_n 2, 1) := by decide +kernel
theorem dX6_mates_8 : decode cX6_mates 8 = .ok (.iastore, 1) := by decide +kernel
theorem dX6_mates_9 : decode cX6_mates 9 = .ok (.aload_n 0, 1) := by decide +kernel
theorem dX6_mates_10 : decode cX6_mates 10 = .ok (.getfield 20, 3) := by decide +kernel
theorem dX6_mates_13 : decode cX6_mates 13 = .ok (.iconst 1, 1) := by decide +kernel
theorem dX6_mates_14 : decode cX6_mates 14 = .ok (.iload_n 2, 1) := by decide +kernel
theorem dX6_mates_15 : decode cX6_mates 15 = .ok (.iadd, 1) := by decide +kernel
theorem dX6_mates_16 : decode cX6_mates 16 = .ok (.iload_n 1, 1) := by decide +kernel
theorem dX6_mates_17 : decode cX6_mates 17 = .ok (.iastore, 1) := by decide +kernel
theorem dX6_mates_18 : decode cX6_mates 18 = .ok (.return_, 1) := by decide +kernel
theorem dX6_pair_0 : decode cX6_pair 0 = .ok (.aload_n 0, 1) := by decide +kernel
theorem dX6_pair_1 : decode cX6_pair 1 = .ok (.iconst 0, 1) := by decide +kernel
theorem dX6_pair_2 : decode cX6_pair 2 = .ok (.putfield 72, 3) := by decide +kernel
theorem dX6_pair_5 : decode cX6_pair 5 = .ok (.aload_n 0, 1) := by decide +kernel
theorem dX6_pair_6 : decode cX6_pair 6 = .ok (.aload_n 0, 1) := by decide +kernel
theorem dX6_pair_7 : decode cX6_pair 7 = .ok (.iload_n 1, 1) := by decide +kernel
theorem dX6_pair_8 : decode cX6_pair 8 = .ok (.invokevirtual 245, 3) := by decide +kernel
theorem dX6_pair_11 : decode cX6_pair 11 = .ok (.ifCond .eq 11, 3) := by decide +kernel
theorem dX6_pair_14 : decode cX6_pair 14 = .ok (.aload_n 0, 1) := by decide +kernel
theorem dX6_pair_15 : decode cX6_pair 15 = .ok (.iload_n 2, 1) := by decide +kernel
theorem dX6_pair_16 : decode cX6_pair 16 = .ok (.invokevirtual 245, 3) := by decide +kernel
theorem dX6_pair_19 : decode cX6_pair 19 = .ok (.ifCond .ne 7, 3) := by decide +kernel
theorem dX6_pair_22 : decode cX6_pair 22 = .ok (.iconst 1, 1) := by decide +kernel
theorem dX6_pair_23 : decode cX6_pair 23 = .ok (.goto 4, 3) := by decide +kernel
theorem dX6_pair_26 : decode cX6_pair 26 = .ok (.iconst 0, 1) := by decide +kernel
theorem dX6_pair_27 : decode cX6_pair 27 = .ok (.iconst 1, 1) := by decide +kernel
theorem dX6_pair_28 : decode cX6_pair 28 = .ok (.iconst 0, 1) := by decide +kernel
theorem dX6_pair_29 : decode cX6_pair 29 = .ok (.invokevirtual 159, 3) := by decide +kernel
theorem dX6_pair_32 : decode cX6_pair 32 = .ok (.ifCond .ne 64, 3) := by decide +kernel
theorem dX6_pair_35 : decode cX6_pair 35 = .ok (.aload_n 0, 1) := by decide +kernel
theorem dX6_pair_36 : decode cX6_pair 36 = .ok (.iload_n 1, 1) := by decide +kernel
theorem dX6_pair_37 : decode cX6_pair 37 = .ok (.iload_n 2, 1) := by decide +kernel
theorem dX6_pair_38 : decode cX6_pair 38 = .ok (.if_icmp .ne 7, 3) := by decide +kernel
theorem dX6_pair_41 : decode cX6_pair 41 = .ok (.iconst 1, 1) := by decide +kernel
theorem dX6_pair_42 : decode cX6_pair 42 = .ok (.goto 4, 3) := by decide +kernel
theorem dX6_pair_45 : decode cX6_pair 45 = .ok (.iconst 0, 1) := by decide +kernel
theorem dX6_pair_46 : decode cX6_pair 46 = .ok (.iconst 2, 1) := by decide +kernel
theorem dX6_pair_47 : decode cX6_pair 47 = .ok (.iconst 1, 1) := by decide +kernel
theorem dX6_pair_48 : decode cX6_pair 48 = .ok (.invokevirtual 159, 3) := by decide +kernel
theorem dX6_pair_51 : decode cX6_pair 51 = .ok (.ifCond .ne 45, 3) := by decide +kernel
theorem dX6_pair_54 : decode cX6_pair 54 = .ok (.aload_n 0, 1) := by decide +kernel
theorem dX6_pair_55 : decode cX6_pair 55 = .ok (.aload_n 0, 1) := by decide +kernel
theorem dX6_pair_56 : decode cX6_pair 56 = .ok (.iload_n 1, 1) := by decide +kernel
theorem dX6_pair_57 : decode cX6_pair 57 = .ok (.iload_n 2, 1) := by decide +kernel
theorem dX6_pair_58 : decode cX6_pair 58 = .ok (.invokevirtual 203, 3) := by decide +kernel
theorem dX6_pair_61 : decode cX6_pair 61 = .ok (.iconst (-1), 1) := by decide +kernel
theorem dX6_pair_62 : decode cX6_pair 62 = .ok (.if_icmp .eq 21, 3) := by decide +kernel
theorem dX6_pair_65 : decode cX6_pair 65 = .ok (.aload_n 0, 1) := by decide +kernel
theorem dX6_pair_66 : decode cX6_pair 66 = .ok (.iload_n 1, 1) := by decide +kernel
theorem dX6_pair_67 : decode cX6_pair 67 = .ok (.invokevirtual 206, 3) := by decide +kernel
theorem dX6_pair_70 : decode cX6_pair 70 = .ok (.iconst (-1), 1) := by decide +kernel
theorem dX6_pair_71 : decode cX6_pair 71 = .ok (.if_icmp .ne 12, 3) := by decide +kernel
theorem dX6_pair_74 : decode cX6_pair 74 = .ok (.aload_n 0, 1) := by decide +kernel
theorem dX6_pair_75 : decode cX6_pair 75 = .ok (.iload_n 2, 1) := by decide +kernel
theorem dX6_pair_76 : decode cX6_pair 76 = .ok (.invokevirtual 206, 3) := by decide +kernel
theorem dX6_pair_79 : decode cX6_pair 79 = .ok (.iconst (-1), 1) := by decide +kernel
theorem dX6_pair_80 : decode cX6_pair 80 = .ok (.if_icmp .eq 7, 3) := by decide +kernel
theorem dX6_pair_83 : decode cX6_pair 83 = .ok (.iconst 1, 1) := by decide +kernel
theorem dX6_pair_84 : decode cX6_pair 84 = .ok (.goto 4, 3) := by decide +kernel
theorem dX6_pair_87 : decode cX6_pair 87 = .ok (.iconst 0, 1) := by decide +kernel
theorem dX6_pair_88 : decode cX6_pair 88 = .ok (.iconst 3, 1) := by decide +kernel
theorem dX6_pair_89 : decode cX6_pair 89 = .ok (.iconst 2, 1) := by decide +kernel
theorem dX6_pair_90 : decode cX6_pair 90 = .ok (.invokevirtual 159, 3) := by decide +kernel
theorem dX6_pair_93 : decode cX6_pair 93 = .ok (.ifCond .eq 5, 3) := by decide +kernel
theorem dX6_pair_96 : decode cX6_pair 96 = .ok (.iconst 0, 1) := by decide +kernel
theorem dX6_pair_97 : decode cX6_pair 97 = .ok (.ireturn, 1) := by decide +kernel
theorem dX6_pair_98 : decode cX6_pair 98 = .ok (.aload_n 0, 1) := by decide +kernel
theorem dX6_pair_99 : decode cX6_pair 99 = .ok (.invokevirtual 171, 3) := by decide +kernel
theorem dX6_pair_102 : decode cX6_pair 102 = .ok (.aload_n 0, 1) := by decide +kernel
theorem dX6_pair_103 : decode cX6_pair 103 = .ok (.iload_n 1, 1) := by decide +kernel
theorem dX6_pair_104 : decode cX6_pair 104 = .ok (.iload_n 2, 1) := by decide +kernel
theorem dX6_pair_105 : decode cX6_pair 105 = .ok (.invokevirtual 251, 3) := by decide +kernel
theorem dX6_pair_108 : decode cX6_pair 108 = .ok (.aload_n 0, 1) := by decide +kernel
theorem dX6_pair_109 : decode cX6_pair 109 = .ok (.invokevirtual 254, 3) := by decide +kernel
theorem dX6_pair_112 : decode cX6_pair 112 = .ok (.ireturn, 1) := by decide +kernel
theorem dX6_part_0 : decode cX6_part 0 = .ok (.aload_n 0, 1) := by decide +kernel
theorem dX6_part_1 : decode cX6_part 1 = .ok (.iconst 0, 1) := by decide +kernel
theorem dX6_part_2 : decode cX6_part 2 = .ok (.putfield 72, 3) := by decide +kernel
theorem dX6_part_5 : decode cX6_part 5 = .ok (.aload_n 0, 1) := by decide +kernel
theorem dX6_part_6 : decode cX6_part 6 = .ok (.aload_n 0, 1) := by decide +kernel
theorem dX6_part_7 : decode cX6_part 7 = .ok (.iload_n 1, 1) := by decide +kernel
theorem dX6_part_8 : decode cX6_part 8 = .ok (.invokevirtual 245, 3) := by decide +kernel
theorem dX6_part_11 : decode cX6_part 11 = .ok (.ifCond .ne 7, 3) := by decide +kernel
theorem dX6_part_14 : decode cX6_part 14 = .ok (.iconst 1, 1) := by decide +kernel
theorem dX6_part_15 : decode cX6_part 15 = .ok (.goto 4, 3) := by decide +kernel
theorem dX6_part_18 : decode cX6_part 18 = .ok (.iconst 0, 1) := by decide +kernel
theorem dX6_part_19 : decode cX6_part 19 = .ok (.iconst 1, 1) := by decide +kernel
theorem dX6_part_20 : decode cX6_part 20 = .ok (.iconst 0, 1) := by decide +kernel
theorem dX6_part_21 : decode cX6_part 21 = .ok (.invokevirtual 159, 3) := by decide +kernel
theorem dX6_part_24 : decode cX6_part 24 = .ok (.ifCond .ne 26, 3) := by decide +kernel
theorem dX6_part_27 : decode cX6_part 27 = .ok (.aload_n 0, 1) := by decide +kernel
theorem dX6_part_28 : decode cX6_part 28 = .ok (.aload_n 0, 1) := by decide +kernel
theorem dX6_part_29 : decode cX6_part 29 = .ok (.iload_n 1, 1) := by decide +kernel
theorem dX6_part_30 : decode cX6_part 30 = .ok (.invokevirtual 206, 3) := by decide +kernel
theorem dX6_part_33 : decode cX6_part 33 = .ok (.iconst (-1), 1) := by decide +kernel
theorem dX6_part_34 : decode cX6_part 34 = .ok (.if_icmp .ne 7, 3) := by decide +kernel
theorem dX6_part_37 : decode cX6_part 37 = .ok (.iconst 1, 1) := by decide +kernel
theorem dX6_part_38 : decode cX6_part 38 = .ok (.goto 4, 3) := by decide +kernel
theorem dX6_part_41 : decode cX6_part 41 = .ok (.iconst 0, 1) := by decide +kernel
theorem dX6_part_42 : decode cX6_part 42 = .ok (.iconst 2, 1) := by decide +kernel
theorem dX6_part_43 : decode cX6_part 43 = .ok (.iconst 2, 1) := by decide +kernel
theorem dX6_part_44 : decode cX6_part 44 = .ok (.invokevirtual 159, 3) := by decide +kernel
theorem dX6_part_47 : decode cX6_part 47 = .ok (.ifCond .eq 5, 3) := by decide +kernel
theorem dX6_part_50 : decode cX6_part 50 = .ok (.iconst 0, 1) := by decide +kernel
theorem dX6_part_51 : decode cX6_part 51 = .ok (.ireturn, 1) := by decide +kernel
theorem dX6_part_52 : decode cX6_part 52 = .ok (.aload_n 0, 1) := by decide +kernel
theorem dX6_part_53 : decode cX6_part 53 = .ok (.invokevirtual 171, 3) := by decide +kernel
theorem dX6_part_56 : decode cX6_part 56 = .ok (.aload_n 0, 1) := by decide +kernel
theorem dX6_part_57 : decode cX6_part 57 = .ok (.iload_n 1, 1) := by decide +kernel
theorem dX6_part_58 : decode cX6_part 58 = .ok (.invokevirtual 206, 3) := by decide +kernel
theorem dX6_part_61 : decode cX6_part 61 = .ok (.istore_n 2, 1) := by decide +kernel
theorem dX6_part_62 : decode cX6_part 62 = .ok (.aload_n 0, 1) := by decide +kernel
theorem dX6_part_63 : decode cX6_part 63 = .ok (.iload_n 1, 1) := by decide +kernel
theorem dX6_part_64 : decode cX6_part 64 = .ok (.invokevirtual 248, 3) := by decide +kernel
theorem dX6_part_67 : decode cX6_part 67 = .ok (.iload_n 2, 1) := by decide +kernel
theorem dX6_part_68 : decode cX6_part 68 = .ok (.ireturn, 1) := by decide +kernel
theorem dX6_better_0 : decode cX6_better 0 = .ok (.aload_n 0, 1) := by decide +kernel
theorem dX6_better_1 : decode cX6_better 1 = .ok (.iconst 0, 1) := by decide +kernel
theorem dX6_better_2 : decode cX6_better 2 = .ok (.putfield 72, 3) := by decide +kernel
theorem dX6_better_5 : decode cX6_better 5 = .ok (.aload_n 0, 1) := by decide +kernel
theorem dX6_better_6 : decode cX6_better 6 = .ok (.aload_n 0, 1) := by decide +kernel
theorem dX6_better_7 : decode cX6_better 7 = .ok (.iload_n 1, 1) := by decide +kernel
theorem dX6_better_8 : decode cX6_better 8 = .ok (.invokevirtual 245, 3) := by decide +kernel
theorem dX6_better_11 : decode cX6_better 11 = .ok (.ifCond .ne 7, 3) := by decide +kernel
theorem dX6_better_14 : decode cX6_better 14 = .ok (.iconst 1, 1) := by decide +kernel
theorem dX6_better_15 : decode cX6_better 15 = .ok (.goto 4, 3) := by decide +kernel
theorem dX6_better_18 : decode cX6_better 18 = .ok (.iconst 0, 1) := by decide +kernel
theorem dX6_better_19 : decode cX6_better 19 = .ok (.iconst 1, 1) := by decide +kernel
theorem dX6_better_20 : decode cX6_better 20 = .ok (.iconst 0, 1) := by decide +kernel
theorem dX6_better_21 : decode cX6_better 21 = .ok (.invokevirtual 159, 3) := by decide +kernel
theorem dX6_better_24 : decode cX6_better 24 = .ok (.ifCond .ne 25, 3) := by decide +kernel
theorem dX6_better_27 : decode cX6_better 27 = .ok (.aload_n 0, 1) := by decide +kernel
theorem dX6_better_28 : decode cX6_better 28 = .ok (.aload_n 0, 1) := by decide +kernel
theorem dX6_better_29 : decode cX6_better 29 = .ok (.iload_n 1, 1) := by decide +kernel
theorem dX6_better_30 : decode cX6_better 30 = .ok (.invokevirtual 257, 3) := by decide +kernel
theorem dX6_better_33 : decode cX6_better 33 = .ok (.ifCond .ne 7, 3) := by decide +kernel
theorem dX6_better_36 : decode cX6_better 36 = .ok (.iconst 1, 1) := by decide +kernel
theorem dX6_better_37 : decode cX6_better 37 = .ok (.goto 4, 3) := by decide +kernel
theorem dX6_better_40 : decode cX6_better 40 = .ok (.iconst 0, 1) := by decide +kernel
theorem dX6_better_41 : decode cX6_better 41 = .ok (.iconst 2, 1) := by decide +kernel
theorem dX6_better_42 : decode cX6_better 42 = .ok (.iconst 2, 1) := by decide +kernel
theorem dX6_better_43 : decode cX6_better 43 = .ok (.invokevirtual 159, 3) := by decide +kernel
theorem dX6_better_46 : decode cX6_better 46 = .ok (.ifCond .eq 5, 3) := by decide +kernel
theorem dX6_better_49 : decode cX6_better 49 = .ok (.iconst 0, 1) := by decide +kernel
theorem dX6_better_50 : decode cX6_better 50 = .ok (.ireturn, 1) := by decide +kernel
theorem dX6_better_51 : decode cX6_better 51 = .ok (.aload_n 0, 1) := by decide +kernel
theorem dX6_better_52 : decode cX6_better 52 = .ok (.invokevirtual 171, 3) := by decide +kernel
theorem dX6_better_55 : decode cX6_better 55 = .ok (.iconst 0, 1) := by decide +kernel
theorem dX6_better_56 : decode cX6_better 56 = .ok (.istore_n 2, 1) := by decide +kernel
theorem dX6_better_57 : decode cX6_better 57 = .ok (.iload_n 2, 1) := by decide +kernel
theorem dX6_better_58 : decode cX6_better 58 = .ok (.aload_n 0, 1) := by decide +kernel
theorem dX6_better_59 : decode cX6_better 59 = .ok (.getfield 236, 3) := by decide +kernel
theorem dX6_better_62 : decode cX6_better 62 = .ok (.if_icmp .ge 27, 3) := by decide +kernel
theorem dX6_better_65 : decode cX6_better 65 = .ok (.aload_n 0, 1) := by decide +kernel
theorem dX6_better_66 : decode cX6_better 66 = .ok (.aload_n 0, 1) := by decide +kernel
theorem dX6_better_67 : decode cX6_better 67 = .ok (.getfield 55, 3) := by decide +kernel
theorem dX6_better_70 : decode cX6_better 70 = .ok (.iload_n 2, 1) := by decide +kernel
theorem dX6_better_71 : decode cX6_better 71 = .ok (.iaload, 1) := by decide +kernel
theorem dX6_better_72 : decode cX6_better 72 = .ok (.aload_n 0, 1) := by decide +kernel
theorem dX6_better_73 : decode cX6_better 73 = .ok (.getfield 55, 3) := by decide +kernel
theorem dX6_better_76 : decode cX6_better 76 = .ok (.iload_n 2, 1) := by decide +kernel
theorem dX6_better_77 : decode cX6_better 77 = .ok (.iconst 1, 1) := by decide +kernel
theorem dX6_better_78 : decode cX6_better 78 = .ok (.iadd, 1) := by decide +kernel
theorem dX6_better_79 : decode cX6_better 79 = .ok (.iaload, 1) := by decide +kernel
theorem dX6_better_80 : decode cX6_better 80 = .ok (.invokevirtual 251, 3) := by decide +kernel
theorem dX6_better_83 : decode cX6_better 83 = .ok (.iinc 2 2, 3) := by decide +kernel
theorem dX6_better_86 : decode cX6_better 86 = .ok (.goto (-29), 3) := by decide +kernel
theorem dX6_better_89 : decode cX6_better 89 = .ok (.aload_n 0, 1) := by decide +kernel
theorem dX6_better_90 : decode cX6_better 90 = .ok (.invokevirtual 254, 3) := by decide +kernel
theorem dX6_better_93 : decode cX6_better 93 = .ok (.ireturn, 1) := by decide +kernel
theorem dX6_finish_0 : decode cX6_finish 0 = .ok (.aload_n 0, 1) := by decide +kernel
theorem dX6_finish_1 : decode cX6_finish 1 = .ok (.iconst 0, 1) := by decide +kernel
theorem dX6_finish_2 : decode cX6_finish 2 = .ok (.putfield 72, 3) := by decide +kernel
theorem dX6_finish_5 : decode cX6_finish 5 = .ok (.aload_n 0, 1) := by decide +kernel
theorem dX6_finish_6 : decode cX6_finish 6 = .ok (.invokevirtual 171, 3) := by decide +kernel
theorem dX6_finish_9 : decode cX6_finish 9 = .ok (.aload_n 0, 1) := by decide +kernel
theorem dX6_finish_10 : decode cX6_finish 10 = .ok (.invokevirtual 260, 3) := by decide +kernel
theorem dX6_finish_13 : decode cX6_finish 13 = .ok (.aload_n 0, 1) := by decide +kernel
theorem dX6_finish_14 : decode cX6_finish 14 = .ok (.invokevirtual 254, 3) := by decide +kernel
theorem dX6_finish_17 : decode cX6_finish 17 = .ok (.istore_n 1, 1) := by decide +kernel
theorem dX6_finish_18 : decode cX6_finish 18 = .ok (.iconst 0, 1) := by decide +kernel
theorem dX6_finish_19 : decode cX6_finish 19 = .ok (.istore_n 2, 1) := by decide +kernel
theorem dX6_finish_20 : decode cX6_finish 20 = .ok (.iload_n 2, 1) := by decide +kernel
theorem dX6_finish_21 : decode cX6_finish 21 = .ok (.aload_n 0, 1) := by decide +kernel
theorem dX6_finish_22 : decode cX6_finish 22 = .ok (.invokevirtual 181, 3) := by decide +kernel
theorem dX6_finish_25 : decode cX6_finish 25 = .ok (.if_icmp .ge 23, 3) := by decide +kernel
theorem dX6_finish_28 : decode cX6_finish 28 = .ok (.aload_n 0, 1) := by decide +kernel
theorem dX6_finish_29 : decode cX6_finish 29 = .ok (.getfield 20, 3) := by decide +kernel
theorem dX6_finish_32 : decode cX6_finish 32 = .ok (.iconst 1, 1) := by decide +kernel
theorem dX6_finish_33 : decode cX6_finish 33 = .ok (.iload_n 2, 1) := by decide +kernel
theorem dX6_finish_34 : decode cX6_finish 34 = .ok (.iadd, 1) := by decide +kernel
theorem dX6_finish_35 : decode cX6_finish 35 = .ok (.aload_n 0, 1) := by decide +kernel
theorem dX6_finish_36 : decode cX6_finish 36 = .ok (.getfield 47, 3) := by decide +kernel
theorem dX6_finish_39 : decode cX6_finish 39 = .ok (.iload_n 2, 1) := by decide +kernel
theorem dX6_finish_40 : decode cX6_finish 40 = .ok (.iaload, 1) := by decide +kernel
theorem dX6_finish_41 : decode cX6_finish 41 = .ok (.iastore, 1) := by decide +kernel
theorem dX6_finish_42 : decode cX6_finish 42 = .ok (.iinc 2 1, 3) := by decide +kernel
theorem dX6_finish_45 : decode cX6_finish 45 = .ok (.goto (-25), 3) := by decide +kernel
theorem dX6_finish_48 : decode cX6_finish 48 = .ok (.aload_n 0, 1) := by decide +kernel
theorem dX6_finish_49 : decode cX6_finish 49 = .ok (.invokevirtual 254, 3) := by decide +kernel
theorem dX6_finish_52 : decode cX6_finish 52 = .ok (.iload_n 1, 1) := by decide +kernel
theorem dX6_finish_53 : decode cX6_finish 53 = .ok (.isub, 1) := by decide +kernel
theorem dX6_finish_54 : decode cX6_finish 54 = .ok (.ireturn, 1) := by decide +kernel
theorem dX6_shrink_0 : decode cX6_shrink 0 = .ok (.aload_n 0, 1) := by decide +kernel
theorem dX6_shrink_1 : decode cX6_shrink 1 = .ok (.iconst 0, 1) := by decide +kernel
theorem dX6_shrink_2 : decode cX6_shrink 2 = .ok (.putfield 72, 3) := by decide +kernel
theorem dX6_shrink_5 : decode cX6_shrink 5 = .ok (.aload_n 0, 1) := by decide +kernel
theorem dX6_shrink_6 : decode cX6_shrink 6 = .ok (.aload_n 0, 1) := by decide +kernel
theorem dX6_shrink_7 : decode cX6_shrink 7 = .ok (.iload_n 1, 1) := by decide +kernel
theorem dX6_shrink_8 : decode cX6_shrink 8 = .ok (.invokevirtual 245, 3) := by decide +kernel
theorem dX6_shrink_11 : decode cX6_shrink 11 = .ok (.ifCond .ne 7, 3) := by decide +kernel
theorem dX6_shrink_14 : decode cX6_shrink 14 = .ok (.iconst 1, 1) := by decide +kernel
theorem dX6_shrink_15 : decode cX6_shrink 15 = .ok (.goto 4, 3) := by decide +kernel
theorem dX6_shrink_18 : decode cX6_shrink 18 = .ok (.iconst 0, 1) := by decide +kernel
theorem dX6_shrink_19 : decode cX6_shrink 19 = .ok (.iconst 1, 1) := by decide +kernel
theorem dX6_shrink_20 : decode cX6_shrink 20 = .ok (.iconst 0, 1) := by decide +kernel
theorem dX6_shrink_21 : decode cX6_shrink 21 = .ok (.invokevirtual 159, 3) := by decide +kernel
theorem dX6_shrink_24 : decode cX6_shrink 24 = .ok (.ifCond .ne 25, 3) := by decide +kernel
theorem dX6_shrink_27 : decode cX6_shrink 27 = .ok (.aload_n 0, 1) := by decide +kernel
theorem dX6_shrink_28 : decode cX6_shrink 28 = .ok (.aload_n 0, 1) := by decide +kernel
theorem dX6_shrink_29 : decode cX6_shrink 29 = .ok (.iload_n 1, 1) := by decide +kernel
theorem dX6_shrink_30 : decode cX6_shrink 30 = .ok (.invokevirtual 263, 3) := by decide +kernel
theorem dX6_shrink_33 : decode cX6_shrink 33 = .ok (.ifCond .ne 7, 3) := by decide +kernel
theorem dX6_shrink_36 : decode cX6_shrink 36 = .ok (.iconst 1, 1) := by decide +kernel
theorem dX6_shrink_37 : decode cX6_shrink 37 = .ok (.goto 4, 3) := by decide +kernel
theorem dX6_shrink_40 : decode cX6_shrink 40 = .ok (.iconst 0, 1) := by decide +kernel
theorem dX6_shrink_41 : decode cX6_shrink 41 = .ok (.iconst 2, 1) := by decide +kernel
theorem dX6_shrink_42 : decode cX6_shrink 42 = .ok (.iconst 2, 1) := by decide +kernel
theorem dX6_shrink_43 : decode cX6_shrink 43 = .ok (.invokevirtual 159, 3) := by decide +kernel
theorem dX6_shrink_46 : decode cX6_shrink 46 = .ok (.ifCond .eq 5, 3) := by decide +kernel
theorem dX6_shrink_49 : decode cX6_shrink 49 = .ok (.iconst 0, 1) := by decide +kernel
theorem dX6_shrink_50 : decode cX6_shrink 50 = .ok (.ireturn, 1) := by decide +kernel
theorem dX6_shrink_51 : decode cX6_shrink 51 = .ok (.aload_n 0, 1) := by decide +kernel
theorem dX6_shrink_52 : decode cX6_shrink 52 = .ok (.invokevirtual 171, 3) := by decide +kernel
theorem dX6_shrink_55 : decode cX6_shrink 55 = .ok (.iconst 0, 1) := by decide +kernel
theorem dX6_shrink_56 : decode cX6_shrink 56 = .ok (.istore_n 2, 1) := by decide +kernel
theorem dX6_shrink_57 : decode cX6_shrink 57 = .ok (.iconst 0, 1) := by decide +kernel
theorem dX6_shrink_58 : decode cX6_shrink 58 = .ok (.istore_n 3, 1) := by decide +kernel
theorem dX6_shrink_59 : decode cX6_shrink 59 = .ok (.iconst 1, 1) := by decide +kernel
theorem dX6_shrink_60 : decode cX6_shrink 60 = .ok (.istore 4, 2) := by decide +kernel
theorem dX6_shrink_62 : decode cX6_shrink 62 = .ok (.iload 4, 2) := by decide +kernel
theorem dX6_shrink_64 : decode cX6_shrink 64 = .ok (.aload_n 0, 1) := by decide +kernel
theorem dX6_shrink_65 : decode cX6_shrink 65 = .ok (.getfield 236, 3) := by decide +kernel
theorem dX6_shrink_68 : decode cX6_shrink 68 = .ok (.if_icmp .ge 21, 3) := by decide +kernel
theorem dX6_shrink_71 : decode cX6_shrink 71 = .ok (.iload_n 2, 1) := by decide +kernel
theorem dX6_shrink_72 : decode cX6_shrink 72 = .ok (.iconst 1, 1) := by decide +kernel
theorem dX6_shrink_73 : decode cX6_shrink 73 = .ok (.aload_n 0, 1) := by decide +kernel
theorem dX6_shrink_74 : decode cX6_shrink 74 = .ok (.getfield 55, 3) := by decide +kernel
theorem dX6_shrink_77 : decode cX6_shrink 77 = .ok (.iload 4, 2) := by decide +kernel
theorem dX6_shrink_79 : decode cX6_shrink 79 = .ok (.iaload, 1) := by decide +kernel
theorem dX6_shrink_80 : decode cX6_shrink 80 = .ok (.ishl, 1) := by decide +kernel
theorem dX6_shrink_81 : decode cX6_shrink 81 = .ok (.ior, 1) := by decide +kernel
theorem dX6_shrink_82 : decode cX6_shrink 82 = .ok (.istore_n 2, 1) := by decide +kernel
theorem dX6_shrink_83 : decode cX6_shrink 83 = .ok (.iinc 4 1, 3) := by decide +kernel
theorem dX6_shrink_86 : decode cX6_shrink 86 = .ok (.goto (-24), 3) := by decide +kernel
theorem dX6_shrink_89 : decode cX6_shrink 89 = .ok (.iconst 0, 1) := by decide +kernel
theorem dX6_shrink_90 : decode cX6_shrink 90 = .ok (.istore 4, 2) := by decide +kernel
theorem dX6_shrink_92 : decode cX6_shrink 92 = .ok (.iload 4, 2) := by decide +kernel
theorem dX6_shrink_94 : decode cX6_shrink 94 = .ok (.aload_n 0, 1) := by decide +kernel
theorem dX6_shrink_95 : decode cX6_shrink 95 = .ok (.invokevirtual 181, 3) := by decide +kernel
theorem dX6_shrink_98 : decode cX6_shrink 98 = .ok (.if_icmp .ge 91, 3) := by decide +kernel
theorem dX6_shrink_101 : decode cX6_shrink 101 = .ok (.iload 4, 2) := by decide +kernel
theorem dX6_shrink_103 : decode cX6_shrink 103 = .ok (.iload_n 1, 1) := by decide +kernel
theorem dX6_shrink_104 : decode cX6_shrink 104 = .ok (.if_icmp .eq 79, 3) := by decide +kernel
theorem dX6_shrink_107 : decode cX6_shrink 107 = .ok (.iload_n 2, 1) := by decide +kernel
theorem dX6_shrink_108 : decode cX6_shrink 108 = .ok (.iload 4, 2) := by decide +kernel
theorem dX6_shrink_110 : decode cX6_shrink 110 = .ok (.invokestatic 183, 3) := by decide +kernel
theorem dX6_shrink_113 : decode cX6_shrink 113 = .ok (.ifCond .eq 6, 3) := by decide +kernel
theorem dX6_shrink_116 : decode cX6_shrink 116 = .ok (.goto 67, 3) := by decide +kernel
theorem dX6_shrink_119 : decode cX6_shrink 119 = .ok (.iconst 1, 1) := by decide +kernel
theorem dX6_shrink_120 : decode cX6_shrink 120 = .ok (.istore 5, 2) := by decide +kernel
theorem dX6_shrink_122 : decode cX6_shrink 122 = .ok (.iload 5, 2) := by decide +kernel
theorem dX6_shrink_124 : decode cX6_shrink 124 = .ok (.aload_n 0, 1) := by decide +kernel
theorem dX6_shrink_125 : decode cX6_shrink 125 = .ok (.getfield 236, 3) := by decide +kernel
theorem dX6_shrink_128 : decode cX6_shrink 128 = .ok (.if_icmp .ge 55, 3) := by decide +kernel
theorem dX6_shrink_131 : decode cX6_shrink 131 = .ok (.aload_n 0, 1) := by decide +kernel
theorem dX6_shrink_132 : decode cX6_shrink 132 = .ok (.aload_n 0, 1) := by decide +kernel
theorem dX6_shrink_133 : decode cX6_shrink 133 = .ok (.getfield 55, 3) := by decide +kernel
theorem dX6_shrink_136 : decode cX6_shrink 136 = .ok (.iload 5, 2) := by decide +kernel
theorem dX6_shrink_138 : decode cX6_shrink 138 = .ok (.iaload, 1) := by decide +kernel
theorem dX6_shrink_139 : decode cX6_shrink 139 = .ok (.iload 4, 2) := by decide +kernel
theorem dX6_shrink_141 : decode cX6_shrink 141 = .ok (.invokevirtual 203, 3) := by decide +kernel
theorem dX6_shrink_144 : decode cX6_shrink 144 = .ok (.aload_n 0, 1) := by decide +kernel
theorem dX6_shrink_145 : decode cX6_shrink 145 = .ok (.iload_n 1, 1) := by decide +kernel
theorem dX6_shrink_146 : decode cX6_shrink 146 = .ok (.iload 4, 2) := by decide +kernel
theorem dX6_shrink_148 : decode cX6_shrink 148 = .ok (.invokevirtual 203, 3) := by decide +kernel
theorem dX6_shrink_151 : decode cX6_shrink 151 = .ok (.if_icmp .le 26, 3) := by decide +kernel
theorem dX6_shrink_154 : decode cX6_shrink 154 = .ok (.aload_n 0, 1) := by decide +kernel
theorem dX6_shrink_155 : decode cX6_shrink 155 = .ok (.getfield 20, 3) := by decide +kernel
theorem dX6_shrink_158 : decode cX6_shrink 158 = .ok (.iload_n 1, 1) := by decide +kernel
theorem dX6_shrink_159 : decode cX6_shrink 159 = .ok (.iload 4, 2) := by decide +kernel
theorem dX6_shrink_161 : decode cX6_shrink 161 = .ok (.aload_n 0, 1) := by decide +kernel
theorem dX6_shrink_162 : decode cX6_shrink 162 = .ok (.aload_n 0, 1) := by decide +kernel
theorem dX6_shrink_163 : decode cX6_shrink 163 = .ok (.getfield 55, 3) := by decide +kernel
theorem dX6_shrink_166 : decode cX6_shrink 166 = .ok (.iload 5, 2) := by decide +kernel
theorem dX6_shrink_168 : decode cX6_shrink 168 = .ok (.iaload, 1) := by decide +kernel
theorem dX6_shrink_169 : decode cX6_shrink 169 = .ok (.iload 4, 2) := by decide +kernel
theorem dX6_shrink_171 : decode cX6_shrink 171 = .ok (.invokevirtual 203, 3) := by decide +kernel
theorem dX6_shrink_174 : decode cX6_shrink 174 = .ok (.invokestatic 65, 3) := by decide +kernel
theorem dX6_shrink_177 : decode cX6_shrink 177 = .ok (.iinc 5 1, 3) := by decide +kernel
theorem dX6_shrink_180 : decode cX6_shrink 180 = .ok (.goto (-58), 3) := by decide +kernel
theorem dX6_shrink_183 : decode cX6_shrink 183 = .ok (.iinc 4 1, 3) := by decide +kernel
theorem dX6_shrink_186 : decode cX6_shrink 186 = .ok (.goto (-94), 3) := by decide +kernel
theorem dX6_shrink_189 : decode cX6_shrink 189 = .ok (.iconst 0, 1) := by decide +kernel
theorem dX6_shrink_190 : decode cX6_shrink 190 = .ok (.istore 4, 2) := by decide +kernel
theorem dX6_shrink_192 : decode cX6_shrink 192 = .ok (.iload 4, 2) := by decide +kernel
theorem dX6_shrink_194 : decode cX6_shrink 194 = .ok (.aload_n 0, 1) := by decide +kernel
theorem dX6_shrink_195 : decode cX6_shrink 195 = .ok (.invokevirtual 181, 3) := by decide +kernel
theorem dX6_shrink_198 : decode cX6_shrink 198 = .ok (.if_icmp .ge 34, 3) := by decide +kernel
theorem dX6_shrink_201 : decode cX6_shrink 201 = .ok (.aload_n 0, 1) := by decide +kernel
theorem dX6_shrink_202 : decode cX6_shrink 202 = .ok (.getfield 58, 3) := by decide +kernel
theorem dX6_shrink_205 : decode cX6_shrink 205 = .ok (.iload 4, 2) := by decide +kernel
theorem dX6_shrink_207 : decode cX6_shrink 207 = .ok (.iload_n 3, 1) := by decide +kernel
theorem dX6_shrink_208 : decode cX6_shrink 208 = .ok (.iastore, 1) := by decide +kernel
theorem dX6_shrink_209 : decode cX6_shrink 209 = .ok (.iload_n 3, 1) := by decide +kernel
theorem dX6_shrink_210 : decode cX6_shrink 210 = .ok (.iload_n 2, 1) := by decide +kernel
theorem dX6_shrink_211 : decode cX6_shrink 211 = .ok (.iload 4, 2) := by decide +kernel
theorem dX6_shrink_213 : decode cX6_shrink 213 = .ok (.invokestatic 183, 3) := by decide +kernel
theorem dX6_shrink_216 : decode cX6_shrink 216 = .ok (.ifCond .eq 7, 3) := by decide +kernel
theorem dX6_shrink_219 : decode cX6_shrink 219 = .ok (.iconst 0, 1) := by decide +kernel
theorem dX6_shrink_220 : decode cX6_shrink 220 = .ok (.goto 4, 3) := by decide +kernel
theorem dX6_shrink_223 : decode cX6_shrink 223 = .ok (.iconst 1, 1) := by decide +kernel
theorem dX6_shrink_224 : decode cX6_shrink 224 = .ok (.iadd, 1) := by decide +kernel
theorem dX6_shrink_225 : decode cX6_shrink 225 = .ok (.istore_n 3, 1) := by decide +kernel
theorem dX6_shrink_226 : decode cX6_shrink 226 = .ok (.iinc 4 1, 3) := by decide +kernel
theorem dX6_shrink_229 : decode cX6_shrink 229 = .ok (.goto (-37), 3) := by decide +kernel
theorem dX6_shrink_232 : decode cX6_shrink 232 = .ok (.aload_n 0, 1) := by decide +kernel
theorem dX6_shrink_233 : decode cX6_shrink 233 = .ok (.getfield 20, 3) := by decide +kernel
theorem dX6_shrink_236 : decode cX6_shrink 236 = .ok (.aload_n 0, 1) := by decide +kernel
theorem dX6_shrink_237 : decode cX6_shrink 237 = .ok (.getfield 23, 3) := by decide +kernel
theorem dX6_shrink_240 : decode cX6_shrink 240 = .ok (.invokestatic 174, 3) := by decide +kernel
theorem dX6_shrink_243 : decode cX6_shrink 243 = .ok (.aload_n 0, 1) := by decide +kernel
theorem dX6_shrink_244 : decode cX6_shrink 244 = .ok (.getfield 20, 3) := by decide +kernel
theorem dX6_shrink_247 : decode cX6_shrink 247 = .ok (.invokestatic 61, 3) := by decide +kernel
theorem dX6_shrink_250 : decode cX6_shrink 250 = .ok (.aload_n 0, 1) := by decide +kernel
theorem dX6_shrink_251 : decode cX6_shrink 251 = .ok (.getfield 20, 3) := by decide +kernel
theorem dX6_shrink_254 : decode cX6_shrink 254 = .ok (.iconst 0, 1) := by decide +kernel
theorem dX6_shrink_255 : decode cX6_shrink 255 = .ok (.iload_n 3, 1) := by decide +kernel
theorem dX6_shrink_256 : decode cX6_shrink 256 = .ok (.iastore, 1) := by decide +kernel
theorem dX6_shrink_257 : decode cX6_shrink 257 = .ok (.iconst 0, 1) := by decide +kernel
theorem dX6_shrink_258 : decode cX6_shrink 258 = .ok (.istore 4, 2) := by decide +kernel
theorem dX6_shrink_260 : decode cX6_shrink 260 = .ok (.iload 4, 2) := by decide +kernel
theorem dX6_shrink_262 : decode cX6_shrink 262 = .ok (.aload_n 0, 1) := by decide +kernel
theorem dX6_shrink_263 : decode cX6_shrink 263 = .ok (.getfield 23, 3) := by decide +kernel
theorem dX6_shrink_266 : decode cX6_shrink 266 = .ok (.iconst 0, 1) := by decide +kernel
theorem dX6_shrink_267 : decode cX6_shrink 267 = .ok (.iaload, 1) := by decide +kernel
theorem dX6_shrink_268 : decode cX6_shrink 268 = .ok (.if_icmp .ge 128, 3) := by decide +kernel
theorem dX6_shrink_271 : decode cX6_shrink 271 = .ok (.iload_n 2, 1) := by decide +kernel
theorem dX6_shrink_272 : decode cX6_shrink 272 = .ok (.iload 4, 2) := by decide +kernel
theorem dX6_shrink_274 : decode cX6_shrink 274 = .ok (.invokestatic 183, 3) := by decide +kernel
theorem dX6_shrink_277 : decode cX6_shrink 277 = .ok (.ifCond .eq 6, 3) := by decide +kernel
theorem dX6_shrink_280 : decode cX6_shrink 280 = .ok (.goto 110, 3) := by decide +kernel
theorem dX6_shrink_283 : decode cX6_shrink 283 = .ok (.aload_n 0, 1) := by decide +kernel
theorem dX6_shrink_284 : decode cX6_shrink 284 = .ok (.getfield 20, 3) := by decide +kernel
theorem dX6_shrink_287 : decode cX6_shrink 287 = .ok (.iconst 1, 1) := by decide +kernel
theorem dX6_shrink_288 : decode cX6_shrink 288 = .ok (.aload_n 0, 1) := by decide +kernel
theorem dX6_shrink_289 : decode cX6_shrink 289 = .ok (.getfield 58, 3) := by decide +kernel
theorem dX6_shrink_292 : decode cX6_shrink 292 = .ok (.iload 4, 2) := by decide +kernel
theorem dX6_shrink_294 : decode cX6_shrink 294 = .ok (.iaload, 1) := by decide +kernel
theorem dX6_shrink_295 : decode cX6_shrink 295 = .ok (.iadd, 1) := by decide +kernel
theorem dX6_shrink_296 : decode cX6_shrink 296 = .ok (.aload_n 0, 1) := by decide +kernel
theorem dX6_shrink_297 : decode cX6_shrink 297 = .ok (.getfield 23, 3) := by decide +kernel
theorem dX6_shrink_300 : decode cX6_shrink 300 = .ok (.iconst 1, 1) := by decide +kernel
theorem dX6_shrink_301 : decode cX6_shrink 301 = .ok (.iload 4, 2) := by decide +kernel
theorem dX6_shrink_303 : decode cX6_shrink 303 = .ok (.iadd, 1) := by decide +kernel
theorem dX6_shrink_304 : decode cX6_shrink 304 = .ok (.iaload, 1) := by decide +kernel
theorem dX6_shrink_305 : decode cX6_shrink 305 = .ok (.iconst (-1), 1) := by decide +kernel
theorem dX6_shrink_306 : decode cX6_shrink 306 = .ok (.if_icmp .ne 7, 3) := by decide +kernel
theorem dX6_shrink_309 : decode cX6_shrink 309 = .ok (.iconst (-1), 1) := by decide +kernel
theorem dX6_shrink_310 : decode cX6_shrink 310 = .ok (.goto 17, 3) := by decide +kernel
theorem dX6_shrink_313 : decode cX6_shrink 313 = .ok (.aload_n 0, 1) := by decide +kernel
theorem dX6_shrink_314 : decode cX6_shrink 314 = .ok (.getfield 58, 3) := by decide +kernel
theorem dX6_shrink_317 : decode cX6_shrink 317 = .ok (.aload_n 0, 1) := by decide +kernel
theorem dX6_shrink_318 : decode cX6_shrink 318 = .ok (.getfield 23, 3) := by decide +kernel
theorem dX6_shrink_321 : decode cX6_shrink 321 = .ok (.iconst 1, 1) := by decide +kernel
theorem dX6_shrink_322 : decode cX6_shrink 322 = .ok (.iload 4, 2) := by decide +kernel
theorem dX6_shrink_324 : decode cX6_shrink 324 = .ok (.iadd, 1) := by decide +kernel
theorem dX6_shrink_325 : decode cX6_shrink 325 = .ok (.iaload, 1) := by decide +kernel
theorem dX6_shrink_326 : decode cX6_shrink 326 = .ok (.iaload, 1) := by decide +kernel
theorem dX6_shrink_327 : decode cX6_shrink 327 = .ok (.iastore, 1) := by decide +kernel
theorem dX6_shrink_328 : decode cX6_shrink 328 = .ok (.iconst 0, 1) := by decide +kernel
theorem dX6_shrink_329 : decode cX6_shrink 329 = .ok (.istore 5, 2) := by decide +kernel
theorem dX6_shrink_331 : decode cX6_shrink 331 = .ok (.iload 5, 2) := by decide +kernel
theorem dX6_shrink_333 : decode cX6_shrink 333 = .ok (.iload 4, 2) := by decide +kernel
theorem dX6_shrink_335 : decode cX6_shrink 335 = .ok (.if_icmp .ge 55, 3) := by decide +kernel
theorem dX6_shrink_338 : decode cX6_shrink 338 = .ok (.iload_n 2, 1) := by decide +kernel
theorem dX6_shrink_339 : decode cX6_shrink 339 = .ok (.iload 5, 2) := by decide +kernel
theorem dX6_shrink_341 : decode cX6_shrink 341 = .ok (.invokestatic 183, 3) := by decide +kernel
theorem dX6_shrink_344 : decode cX6_shrink 344 = .ok (.ifCond .ne 40, 3) := by decide +kernel
theorem dX6_shrink_347 : decode cX6_shrink 347 = .ok (.aload_n 0, 1) := by decide +kernel
theorem dX6_shrink_348 : decode cX6_shrink 348 = .ok (.getfield 20, 3) := by decide +kernel
theorem dX6_shrink_351 : decode cX6_shrink 351 = .ok (.aload_n 0, 1) := by decide +kernel
theorem dX6_shrink_352 : decode cX6_shrink 352 = .ok (.getfield 58, 3) := by decide +kernel
theorem dX6_shrink_355 : decode cX6_shrink 355 = .ok (.iload 4, 2) := by decide +kernel
theorem dX6_shrink_357 : decode cX6_shrink 357 = .ok (.iaload, 1) := by decide +kernel
theorem dX6_shrink_358 : decode cX6_shrink 358 = .ok (.aload_n 0, 1) := by decide +kernel
theorem dX6_shrink_359 : decode cX6_shrink 359 = .ok (.getfield 58, 3) := by decide +kernel
theorem dX6_shrink_362 : decode cX6_shrink 362 = .ok (.iload 5, 2) := by decide +kernel
theorem dX6_shrink_364 : decode cX6_shrink 364 = .ok (.iaload, 1) := by decide +kernel
theorem dX6_shrink_365 : decode cX6_shrink 365 = .ok (.aload_n 0, 1) := by decide +kernel
theorem dX6_shrink_366 : decode cX6_shrink 366 = .ok (.getfield 23, 3) := by decide +kernel
theorem dX6_shrink_369 : decode cX6_shrink 369 = .ok (.bipush 13, 2) := by decide +kernel
theorem dX6_shrink_371 : decode cX6_shrink 371 = .ok (.bipush 12, 2) := by decide +kernel
theorem dX6_shrink_373 : decode cX6_shrink 373 = .ok (.iload 4, 2) := by decide +kernel
theorem dX6_shrink_375 : decode cX6_shrink 375 = .ok (.imul, 1) := by decide +kernel
theorem dX6_shrink_376 : decode cX6_shrink 376 = .ok (.iadd, 1) := by decide +kernel
theorem dX6_shrink_377 : decode cX6_shrink 377 = .ok (.iload 5, 2) := by decide +kernel
theorem dX6_shrink_379 : decode cX6_shrink 379 = .ok (.iadd, 1) := by decide +kernel
theorem dX6_shrink_380 : decode cX6_shrink 380 = .ok (.iaload, 1) := by decide +kernel
theorem dX6_shrink_381 : decode cX6_shrink 381 = .ok (.invokestatic 65, 3) := by decide +kernel
theorem dX6_shrink_384 : decode cX6_shrink 384 = .ok (.iinc 5 1, 3) := by decide +kernel
theorem dX6_shrink_387 : decode cX6_shrink 387 = .ok (.goto (-56), 3) := by decide +kernel
theorem dX6_shrink_390 : decode cX6_shrink 390 = .ok (.iinc 4 1, 3) := by decide +kernel
theorem dX6_shrink_393 : decode cX6_shrink 393 = .ok (.goto (-133), 3) := by decide +kernel
theorem dX6_shrink_396 : decode cX6_shrink 396 = .ok (.aload_n 0, 1) := by decide +kernel
theorem dX6_shrink_397 : decode cX6_shrink 397 = .ok (.invokevirtual 69, 3) := by decide +kernel
theorem dX6_shrink_400 : decode cX6_shrink 400 = .ok (.iload_n 3, 1) := by decide +kernel
theorem dX6_shrink_401 : decode cX6_shrink 401 = .ok (.ireturn, 1) := by decide +kernel
theorem dX6_told_0 : decode cX6_told 0 = .ok (.aload_n 0, 1) := by decide +kernel
theorem dX6_told_1 : decode cX6_told 1 = .ok (.iconst 0, 1) := by decide +kernel
theorem dX6_told_2 : decode cX6_told 2 = .ok (.putfield 72, 3) := by decide +kernel
theorem dX6_told_5 : decode cX6_told 5 = .ok (.aload_n 0, 1) := by decide +kernel
theorem dX6_told_6 : decode cX6_told 6 = .ok (.iload_n 1, 1) := by decide +kernel
theorem dX6_told_7 : decode cX6_told 7 = .ok (.iconst 0, 1) := by decide +kernel
theorem dX6_told_8 : decode cX6_told 8 = .ok (.bipush 7, 2) := by decide +kernel
theorem dX6_told_10 : decode cX6_told 10 = .ok (.invokestatic 111, 3) := by decide +kernel
theorem dX6_told_13 : decode cX6_told 13 = .ok (.ifCond .ne 7, 3) := by decide +kernel
theorem dX6_told_16 : decode cX6_told 16 = .ok (.iconst 1, 1) := by decide +kernel
theorem dX6_told_17 : decode cX6_told 17 = .ok (.goto 4, 3) := by decide +kernel
theorem dX6_told_20 : decode cX6_told 20 = .ok (.iconst 0, 1) := by decide +kernel
theorem dX6_told_21 : decode cX6_told 21 = .ok (.iconst 1, 1) := by decide +kernel
theorem dX6_told_22 : decode cX6_told 22 = .ok (.iconst 1, 1) := by decide +kernel
theorem dX6_told_23 : decode cX6_told 23 = .ok (.invokevirtual 159, 3) := by decide +kernel
theorem dX6_told_26 : decode cX6_told 26 = .ok (.ifCond .eq 5, 3) := by decide +kernel
theorem dX6_told_29 : decode cX6_told 29 = .ok (.iconst 0, 1) := by decide +kernel
theorem dX6_told_30 : decode cX6_told 30 = .ok (.ireturn, 1) := by decide +kernel
theorem dX6_told_31 : decode cX6_told 31 = .ok (.aload_n 0, 1) := by decide +kernel
theorem dX6_told_32 : decode cX6_told 32 = .ok (.invokevirtual 209, 3) := by decide +kernel
theorem dX6_told_35 : decode cX6_told 35 = .ok (.iconst 0, 1) := by decide +kernel
theorem dX6_told_36 : decode cX6_told 36 = .ok (.istore_n 2, 1) := by decide +kernel
theorem dX6_told_37 : decode cX6_told 37 = .ok (.iconst 0, 1) := by decide +kernel
theorem dX6_told_38 : decode cX6_told 38 = .ok (.istore_n 3, 1) := by decide +kernel
theorem dX6_told_39 : decode cX6_told 39 = .ok (.iload_n 3, 1) := by decide +kernel
theorem dX6_told_40 : decode cX6_told 40 = .ok (.aload_n 0, 1) := by decide +kernel
theorem dX6_told_41 : decode cX6_told 41 = .ok (.invokevirtual 181, 3) := by decide +kernel
theorem dX6_told_44 : decode cX6_told 44 = .ok (.if_icmp .ge 35, 3) := by decide +kernel
theorem dX6_told_47 : decode cX6_told 47 = .ok (.iload_n 2, 1) := by decide +kernel
theorem dX6_told_48 : decode cX6_told 48 = .ok (.aload_n 0, 1) := by decide +kernel
theorem dX6_told_49 : decode cX6_told 49 = .ok (.iload_n 3, 1) := by decide +kernel
theorem dX6_told_50 : decode cX6_told 50 = .ok (.invokevirtual 206, 3) := by decide +kernel
theorem dX6_told_53 : decode cX6_told 53 = .ok (.iload_n 3, 1) := by decide +kernel
theorem dX6_told_54 : decode cX6_told 54 = .ok (.if_icmp .le 16, 3) := by decide +kernel
theorem dX6_told_57 : decode cX6_told 57 = .ok (.aload_n 0, 1) := by decide +kernel
theorem dX6_told_58 : decode cX6_told 58 = .ok (.iload_n 3, 1) := by decide +kernel
theorem dX6_told_59 : decode cX6_told 59 = .ok (.aload_n 0, 1) := by decide +kernel
theorem dX6_told_60 : decode cX6_told 60 = .ok (.iload_n 3, 1) := by decide +kernel
theorem dX6_told_61 : decode cX6_told 61 = .ok (.invokevirtual 206, 3) := by decide +kernel
theorem dX6_told_64 : decode cX6_told 64 = .ok (.invokevirtual 203, 3) := by decide +kernel
theorem dX6_told_67 : decode cX6_told 67 = .ok (.goto 4, 3) := by decide +kernel
theorem dX6_told_70 : decode cX6_told 70 = .ok (.iconst 0, 1) := by decide +kernel
theorem dX6_told_71 : decode cX6_told 71 = .ok (.iadd, 1) := by decide +kernel
theorem dX6_told_72 : decode cX6_told 72 = .ok (.istore_n 2, 1) := by decide +kernel
theorem dX6_told_73 : decode cX6_told 73 = .ok (.iinc 3 1, 3) := by decide +kernel
theorem dX6_told_76 : decode cX6_told 76 = .ok (.goto (-37), 3) := by decide +kernel
theorem dX6_told_79 : decode cX6_told 79 = .ok (.iload_n 1, 1) := by decide +kernel
theorem dX6_told_80 : decode cX6_told 80 = .ok (.tableswitch 81 0 6 #[44, 49, 54, 59, 69, 74, 76], 44) := by decide +kernel
theorem dX6_told_124 : decode cX6_told 124 = .ok (.aload_n 0, 1) := by decide +kernel
theorem dX6_told_125 : decode cX6_told 125 = .ok (.invokevirtual 181, 3) := by decide +kernel
theorem dX6_told_128 : decode cX6_told 128 = .ok (.ireturn, 1) := by decide +kernel
theorem dX6_told_129 : decode cX6_told 129 = .ok (.aload_n 0, 1) := by decide +kernel
theorem dX6_told_130 : decode cX6_told 130 = .ok (.invokevirtual 178, 3) := by decide +kernel
theorem dX6_told_133 : decode cX6_told 133 = .ok (.ireturn, 1) := by decide +kernel
theorem dX6_told_134 : decode cX6_told 134 = .ok (.aload_n 0, 1) := by decide +kernel
theorem dX6_told_135 : decode cX6_told 135 = .ok (.invokevirtual 254, 3) := by decide +kernel
theorem dX6_told_138 : decode cX6_told 138 = .ok (.ireturn, 1) := by decide +kernel
theorem dX6_told_139 : decode cX6_told 139 = .ok (.aload_n 0, 1) := by decide +kernel
theorem dX6_told_140 : decode cX6_told 140 = .ok (.getfield 34, 3) := by decide +kernel
theorem dX6_told_143 : decode cX6_told 143 = .ok (.aload_n 0, 1) := by decide +kernel
theorem dX6_told_144 : decode cX6_told 144 = .ok (.invokevirtual 194, 3) := by decide +kernel
theorem dX6_told_147 : decode cX6_told 147 = .ok (.iaload, 1) := by decide +kernel
theorem dX6_told_148 : decode cX6_told 148 = .ok (.ireturn, 1) := by decide +kernel
theorem dX6_told_149 : decode cX6_told 149 = .ok (.aload_n 0, 1) := by decide +kernel
theorem dX6_told_150 : decode cX6_told 150 = .ok (.invokevirtual 266, 3) := by decide +kernel
theorem dX6_told_153 : decode cX6_told 153 = .ok (.ireturn, 1) := by decide +kernel
theorem dX6_told_154 : decode cX6_told 154 = .ok (.iload_n 2, 1) := by decide +kernel
theorem dX6_told_155 : decode cX6_told 155 = .ok (.ireturn, 1) := by decide +kernel
theorem dX6_told_156 : decode cX6_told 156 = .ok (.aload_n 0, 1) := by decide +kernel
theorem dX6_told_157 : decode cX6_told 157 = .ok (.getfield 75, 3) := by decide +kernel
theorem dX6_told_160 : decode cX6_told 160 = .ok (.ireturn, 1) := by decide +kernel
theorem dX6_told_161 : decode cX6_told 161 = .ok (.aload_n 0, 1) := by decide +kernel
theorem dX6_told_162 : decode cX6_told 162 = .ok (.getfield 242, 3) := by decide +kernel
theorem dX6_told_165 : decode cX6_told 165 = .ok (.ireturn, 1) := by decide +kernel
theorem dX6_line_0 : decode cX6_line 0 = .ok (.aload_n 0, 1) := by decide +kernel
theorem dX6_line_1 : decode cX6_line 1 = .ok (.iconst 0, 1) := by decide +kernel
theorem dX6_line_2 : decode cX6_line 2 = .ok (.putfield 72, 3) := by decide +kernel
theorem dX6_line_5 : decode cX6_line 5 = .ok (.aload_n 0, 1) := by decide +kernel
theorem dX6_line_6 : decode cX6_line 6 = .ok (.aload_n 0, 1) := by decide +kernel
theorem dX6_line_7 : decode cX6_line 7 = .ok (.iload_n 1, 1) := by decide +kernel
theorem dX6_line_8 : decode cX6_line 8 = .ok (.invokevirtual 245, 3) := by decide +kernel
theorem dX6_line_11 : decode cX6_line 11 = .ok (.ifCond .eq 11, 3) := by decide +kernel
theorem dX6_line_14 : decode cX6_line 14 = .ok (.aload_n 0, 1) := by decide +kernel
theorem dX6_line_15 : decode cX6_line 15 = .ok (.iload_n 2, 1) := by decide +kernel
theorem dX6_line_16 : decode cX6_line 16 = .ok (.invokevirtual 245, 3) := by decide +kernel
theorem dX6_line_19 : decode cX6_line 19 = .ok (.ifCond .ne 7, 3) := by decide +kernel
theorem dX6_line_22 : decode cX6_line 22 = .ok (.iconst 1, 1) := by decide +kernel
theorem dX6_line_23 : decode cX6_line 23 = .ok (.goto 4, 3) := by decide +kernel
theorem dX6_line_26 : decode cX6_line 26 = .ok (.iconst 0, 1) := by decide +kernel
theorem dX6_line_27 : decode cX6_line 27 = .ok (.iconst 1, 1) := by decide +kernel
theorem dX6_line_28 : decode cX6_line 28 = .ok (.iconst 0, 1) := by decide +kernel
theorem dX6_line_29 : decode cX6_line 29 = .ok (.invokevirtual 159, 3) := by decide +kernel
theorem dX6_line_32 : decode cX6_line 32 = .ok (.ifCond .ne 31, 3) := by decide +kernel
theorem dX6_line_35 : decode cX6_line 35 = .ok (.aload_n 0, 1) := by decide +kernel
theorem dX6_line_36 : decode cX6_line 36 = .ok (.iload_n 1, 1) := by decide +kernel
theorem dX6_line_37 : decode cX6_line 37 = .ok (.iload_n 2, 1) := by decide +kernel
theorem dX6_line_38 : decode cX6_line 38 = .ok (.if_icmp .eq 12, 3) := by decide +kernel
theorem dX6_line_41 : decode cX6_line 41 = .ok (.iload_n 3, 1) := by decide +kernel
theorem dX6_line_42 : decode cX6_line 42 = .ok (.iconst 0, 1) := by decide +kernel
theorem dX6_line_43 : decode cX6_line 43 = .ok (.iconst 4, 1) := by decide +kernel
theorem dX6_line_44 : decode cX6_line 44 = .ok (.invokestatic 111, 3) := by decide +kernel
theorem dX6_line_47 : decode cX6_line 47 = .ok (.ifCond .ne 7, 3) := by decide +kernel
theorem dX6_line_50 : decode cX6_line 50 = .ok (.iconst 1, 1) := by decide +kernel
theorem dX6_line_51 : decode cX6_line 51 = .ok (.goto 4, 3) := by decide +kernel
theorem dX6_line_54 : decode cX6_line 54 = .ok (.iconst 0, 1) := by decide +kernel
theorem dX6_line_55 : decode cX6_line 55 = .ok (.iconst 2, 1) := by decide +kernel
theorem dX6_line_56 : decode cX6_line 56 = .ok (.iconst 1, 1) := by decide +kernel
theorem dX6_line_57 : decode cX6_line 57 = .ok (.invokevirtual 159, 3) := by decide +kernel
theorem dX6_line_60 : decode cX6_line 60 = .ok (.ifCond .eq 5, 3) := by decide +kernel
theorem dX6_line_63 : decode cX6_line 63 = .ok (.iconst 0, 1) := by decide +kernel
theorem dX6_line_64 : decode cX6_line 64 = .ok (.ireturn, 1) := by decide +kernel
theorem dX6_line_65 : decode cX6_line 65 = .ok (.aload_n 0, 1) := by decide +kernel
theorem dX6_line_66 : decode cX6_line 66 = .ok (.invokevirtual 209, 3) := by decide +kernel
theorem dX6_line_69 : decode cX6_line 69 = .ok (.aload_n 0, 1) := by decide +kernel
theorem dX6_line_70 : decode cX6_line 70 = .ok (.iload_n 1, 1) := by decide +kernel
theorem dX6_line_71 : decode cX6_line 71 = .ok (.iload_n 2, 1) := by decide +kernel
theorem dX6_line_72 : decode cX6_line 72 = .ok (.invokevirtual 203, 3) := by decide +kernel
theorem dX6_line_75 : decode cX6_line 75 = .ok (.iconst (-1), 1) := by decide +kernel
theorem dX6_line_76 : decode cX6_line 76 = .ok (.if_icmp .eq 7, 3) := by decide +kernel
theorem dX6_line_79 : decode cX6_line 79 = .ok (.iconst 1, 1) := by decide +kernel
theorem dX6_line_80 : decode cX6_line 80 = .ok (.goto 4, 3) := by decide +kernel
theorem dX6_line_83 : decode cX6_line 83 = .ok (.iconst 0, 1) := by decide +kernel
theorem dX6_line_84 : decode cX6_line 84 = .ok (.istore 4, 2) := by decide +kernel
theorem dX6_line_86 : decode cX6_line 86 = .ok (.aload_n 0, 1) := by decide +kernel
theorem dX6_line_87 : decode cX6_line 87 = .ok (.invokevirtual 194, 3) := by decide +kernel
theorem dX6_line_90 : decode cX6_line 90 = .ok (.iconst 1, 1) := by decide +kernel
theorem dX6_line_91 : decode cX6_line 91 = .ok (.iload_n 1, 1) := by decide +kernel
theorem dX6_line_92 : decode cX6_line 92 = .ok (.ishl, 1) := by decide +kernel
theorem dX6_line_93 : decode cX6_line 93 = .ok (.iconst (-1), 1) := by decide +kernel
theorem dX6_line_94 : decode cX6_line 94 = .ok (.ixor, 1) := by decide +kernel
theorem dX6_line_95 : decode cX6_line 95 = .ok (.iand, 1) := by decide +kernel
theorem dX6_line_96 : decode cX6_line 96 = .ok (.iconst 1, 1) := by decide +kernel
theorem dX6_line_97 : decode cX6_line 97 = .ok (.iload_n 2, 1) := by decide +kernel
theorem dX6_line_98 : decode cX6_line 98 = .ok (.ishl, 1) := by decide +kernel
theorem dX6_line_99 : decode cX6_line 99 = .ok (.iconst (-1), 1) := by decide +kernel
theorem dX6_line_100 : decode cX6_line 100 = .ok (.ixor, 1) := by decide +kernel
theorem dX6_line_101 : decode cX6_line 101 = .ok (.iand, 1) := by decide +kernel
theorem dX6_line_102 : decode cX6_line 102 = .ok (.istore 5, 2) := by decide +kernel
theorem dX6_line_104 : decode cX6_line 104 = .ok (.iload 4, 2) := by decide +kernel
theorem dX6_line_106 : decode cX6_line 106 = .ok (.ifCond .eq 28, 3) := by decide +kernel
theorem dX6_line_109 : decode cX6_line 109 = .ok (.aload_n 0, 1) := by decide +kernel
theorem dX6_line_110 : decode cX6_line 110 = .ok (.getfield 34, 3) := by decide +kernel
theorem dX6_line_113 : decode cX6_line 113 = .ok (.iload 5, 2) := by decide +kernel
theorem dX6_line_115 : decode cX6_line 115 = .ok (.iaload, 1) := by decide +kernel
theorem dX6_line_116 : decode cX6_line 116 = .ok (.iconst 1, 1) := by decide +kernel
theorem dX6_line_117 : decode cX6_line 117 = .ok (.iadd, 1) := by decide +kernel
theorem dX6_line_118 : decode cX6_line 118 = .ok (.aload_n 0, 1) := by decide +kernel
theorem dX6_line_119 : decode cX6_line 119 = .ok (.getfield 34, 3) := by decide +kernel
theorem dX6_line_122 : decode cX6_line 122 = .ok (.aload_n 0, 1) := by decide +kernel
theorem dX6_line_123 : decode cX6_line 123 = .ok (.invokevirtual 194, 3) := by decide +kernel
theorem dX6_line_126 : decode cX6_line 126 = .ok (.iaload, 1) := by decide +kernel
theorem dX6_line_127 : decode cX6_line 127 = .ok (.if_icmp .ne 7, 3) := by decide +kernel
theorem dX6_line_130 : decode cX6_line 130 = .ok (.iconst 1, 1) := by decide +kernel
theorem dX6_line_131 : decode cX6_line 131 = .ok (.goto 4, 3) := by decide +kernel
theorem dX6_line_134 : decode cX6_line 134 = .ok (.iconst 0, 1) := by decide +kernel
theorem dX6_line_135 : decode cX6_line 135 = .ok (.istore 6, 2) := by decide +kernel
theorem dX6_line_137 : decode cX6_line 137 = .ok (.iload_n 3, 1) := by decide +kernel
theorem dX6_line_138 : decode cX6_line 138 = .ok (.tableswitch 74 0 3 #[30, 41, 48, 63], 30) := by decide +kernel
theorem dX6_line_168 : decode cX6_line 168 = .ok (.iload 4, 2) := by decide +kernel
theorem dX6_line_170 : decode cX6_line 170 = .ok (.ifCond .eq 7, 3) := by decide +kernel
theorem dX6_line_173 : decode cX6_line 173 = .ok (.iconst 1, 1) := by decide +kernel
theorem dX6_line_174 : decode cX6_line 174 = .ok (.goto 4, 3) := by decide +kernel
theorem dX6_line_177 : decode cX6_line 177 = .ok (.iconst 0, 1) := by decide +kernel
theorem dX6_line_178 : decode cX6_line 178 = .ok (.ireturn, 1) := by decide +kernel
theorem dX6_line_179 : decode cX6_line 179 = .ok (.aload_n 0, 1) := by decide +kernel
theorem dX6_line_180 : decode cX6_line 180 = .ok (.iload_n 1, 1) := by decide +kernel
theorem dX6_line_181 : decode cX6_line 181 = .ok (.iload_n 2, 1) := by decide +kernel
theorem dX6_line_182 : decode cX6_line 182 = .ok (.invokevirtual 203, 3) := by decide +kernel
theorem dX6_line_185 : decode cX6_line 185 = .ok (.ireturn, 1) := by decide +kernel
theorem dX6_line_186 : decode cX6_line 186 = .ok (.aload_n 0, 1) := by decide +kernel
theorem dX6_line_187 : decode cX6_line 187 = .ok (.iload_n 1, 1) := by decide +kernel
theorem dX6_line_188 : decode cX6_line 188 = .ok (.invokevirtual 206, 3) := by decide +kernel
theorem dX6_line_191 : decode cX6_line 191 = .ok (.iload_n 2, 1) := by decide +kernel
theorem dX6_line_192 : decode cX6_line 192 = .ok (.if_icmp .ne 7, 3) := by decide +kernel
theorem dX6_line_195 : decode cX6_line 195 = .ok (.iconst 1, 1) := by decide +kernel
theorem dX6_line_196 : decode cX6_line 196 = .ok (.goto 4, 3) := by decide +kernel
theorem dX6_line_199 : decode cX6_line 199 = .ok (.iconst 0, 1) := by decide +kernel
theorem dX6_line_200 : decode cX6_line 200 = .ok (.ireturn, 1) := by decide +kernel
theorem dX6_line_201 : decode cX6_line 201 = .ok (.iload 6, 2) := by decide +kernel
theorem dX6_line_203 : decode cX6_line 203 = .ok (.ifCond .eq 7, 3) := by decide +kernel
theorem dX6_line_206 : decode cX6_line 206 = .ok (.iconst 1, 1) := by decide +kernel
theorem dX6_line_207 : decode cX6_line 207 = .ok (.goto 4, 3) := by decide +kernel
theorem dX6_line_210 : decode cX6_line 210 = .ok (.iconst 0, 1) := by decide +kernel
theorem dX6_line_211 : decode cX6_line 211 = .ok (.ireturn, 1) := by decide +kernel
theorem dX6_line_212 : decode cX6_line 212 = .ok (.iload 6, 2) := by decide +kernel
theorem dX6_line_214 : decode cX6_line 214 = .ok (.ifCond .eq 27, 3) := by decide +kernel
theorem dX6_line_217 : decode cX6_line 217 = .ok (.aload_n 0, 1) := by decide +kernel
theorem dX6_line_218 : decode cX6_line 218 = .ok (.getfield 43, 3) := by decide +kernel
theorem dX6_line_221 : decode cX6_line 221 = .ok (.iload 5, 2) := by decide +kernel
theorem dX6_line_223 : decode cX6_line 223 = .ok (.laload, 1) := by decide +kernel
theorem dX6_line_224 : decode cX6_line 224 = .ok (.aload_n 0, 1) := by decide +kernel
theorem dX6_line_225 : decode cX6_line 225 = .ok (.getfield 43, 3) := by decide +kernel
theorem dX6_line_228 : decode cX6_line 228 = .ok (.aload_n 0, 1) := by decide +kernel
theorem dX6_line_229 : decode cX6_line 229 = .ok (.invokevirtual 194, 3) := by decide +kernel
theorem dX6_line_232 : decode cX6_line 232 = .ok (.laload, 1) := by decide +kernel
theorem dX6_line_233 : decode cX6_line 233 = .ok (.lcmp, 1) := by decide +kernel
theorem dX6_line_234 : decode cX6_line 234 = .ok (.ifCond .ne 7, 3) := by decide +kernel
theorem dX6_line_237 : decode cX6_line 237 = .ok (.iconst 1, 1) := by decide +kernel
theorem dX6_line_238 : decode cX6_line 238 = .ok (.goto 4, 3) := by decide +kernel
theorem dX6_line_241 : decode cX6_line 241 = .ok (.iconst 0, 1) := by decide +kernel
theorem dX6_line_242 : decode cX6_line 242 = .ok (.ireturn, 1) := by decide +kernel
theorem dX6_node_0 : decode cX6_node 0 = .ok (.aload_n 0, 1) := by decide +kernel
theorem dX6_node_1 : decode cX6_node 1 = .ok (.iconst 0, 1) := by decide +kernel
theorem dX6_node_2 : decode cX6_node 2 = .ok (.putfield 72, 3) := by decide +kernel
theorem dX6_node_5 : decode cX6_node 5 = .ok (.aload_n 0, 1) := by decide +kernel
theorem dX6_node_6 : decode cX6_node 6 = .ok (.aload_n 0, 1) := by decide +kernel
theorem dX6_node_7 : decode cX6_node 7 = .ok (.iload_n 1, 1) := by decide +kernel
theorem dX6_node_8 : decode cX6_node 8 = .ok (.invokevirtual 245, 3) := by decide +kernel
theorem dX6_node_11 : decode cX6_node 11 = .ok (.ifCond .ne 7, 3) := by decide +kernel
theorem dX6_node_14 : decode cX6_node 14 = .ok (.iconst 1, 1) := by decide +kernel
theorem dX6_node_15 : decode cX6_node 15 = .ok (.goto 4, 3) := by decide +kernel
theorem dX6_node_18 : decode cX6_node 18 = .ok (.iconst 0, 1) := by decide +kernel
theorem dX6_node_19 : decode cX6_node 19 = .ok (.iconst 1, 1) := by decide +kernel
theorem dX6_node_20 : decode cX6_node 20 = .ok (.iconst 0, 1) := by decide +kernel
theorem dX6_node_21 : decode cX6_node 21 = .ok (.invokevirtual 159, 3) := by decide +kernel
theorem dX6_node_24 : decode cX6_node 24 = .ok (.ifCond .ne 26, 3) := by decide +kernel
theorem dX6_node_27 : decode cX6_node 27 = .ok (.aload_n 0, 1) := by decide +kernel
theorem dX6_node_28 : decode cX6_node 28 = .ok (.iload_n 2, 1) := by decide +kernel
theorem dX6_node_29 : decode cX6_node 29 = .ok (.iconst 0, 1) := by decide +kernel
theorem dX6_node_30 : decode cX6_node 30 = .ok (.iconst 4, 1) := by decide +kernel
theorem dX6_node_31 : decode cX6_node 31 = .ok (.invokestatic 111, 3) := by decide +kernel
theorem dX6_node_34 : decode cX6_node 34 = .ok (.ifCond .ne 7, 3) := by decide +kernel
theorem dX6_node_37 : decode cX6_node 37 = .ok (.iconst 1, 1) := by decide +kernel
theorem dX6_node_38 : decode cX6_node 38 = .ok (.goto 4, 3) := by decide +kernel
theorem dX6_node_41 : decode cX6_node 41 = .ok (.iconst 0, 1) := by decide +kernel
theorem dX6_node_42 : decode cX6_node 42 = .ok (.iconst 2, 1) := by decide +kernel
theorem dX6_node_43 : decode cX6_node 43 = .ok (.iconst 1, 1) := by decide +kernel
theorem dX6_node_44 : decode cX6_node 44 = .ok (.invokevirtual 159, 3) := by decide +kernel
theorem dX6_node_47 : decode cX6_node 47 = .ok (.ifCond .eq 5, 3) := by decide +kernel
theorem dX6_node_50 : decode cX6_node 50 = .ok (.iconst 0, 1) := by decide +kernel
theorem dX6_node_51 : decode cX6_node 51 = .ok (.ireturn, 1) := by decide +kernel
theorem dX6_node_52 : decode cX6_node 52 = .ok (.iconst 0, 1) := by decide +kernel
theorem dX6_node_53 : decode cX6_node 53 = .ok (.istore_n 3, 1) := by decide +kernel
theorem dX6_node_54 : decode cX6_node 54 = .ok (.iconst 0, 1) := by decide +kernel
theorem dX6_node_55 : decode cX6_node 55 = .ok (.istore 4, 2) := by decide +kernel
theorem dX6_node_57 : decode cX6_node 57 = .ok (.iload 4, 2) := by decide +kernel
theorem dX6_node_59 : decode cX6_node 59 = .ok (.aload_n 0, 1) := by decide +kernel
theorem dX6_node_60 : decode cX6_node 60 = .ok (.invokevirtual 181, 3) := by decide +kernel
theorem dX6_node_63 : decode cX6_node 63 = .ok (.if_icmp .ge 34, 3) := by decide +kernel
theorem dX6_node_66 : decode cX6_node 66 = .ok (.iload_n 3, 1) := by decide +kernel
theorem dX6_node_67 : decode cX6_node 67 = .ok (.iload 4, 2) := by decide +kernel
theorem dX6_node_69 : decode cX6_node 69 = .ok (.iload_n 1, 1) := by decide +kernel
theorem dX6_node_70 : decode cX6_node 70 = .ok (.if_icmp .eq 18, 3) := by decide +kernel
theorem dX6_node_73 : decode cX6_node 73 = .ok (.aload_n 0, 1) := by decide +kernel
theorem dX6_node_74 : decode cX6_node 74 = .ok (.iload_n 1, 1) := by decide +kernel
theorem dX6_node_75 : decode cX6_node 75 = .ok (.iload 4, 2) := by decide +kernel
theorem dX6_node_77 : decode cX6_node 77 = .ok (.invokevirtual 203, 3) := by decide +kernel
theorem dX6_node_80 : decode cX6_node 80 = .ok (.iconst (-1), 1) := by decide +kernel
theorem dX6_node_81 : decode cX6_node 81 = .ok (.if_icmp .eq 7, 3) := by decide +kernel
theorem dX6_node_84 : decode cX6_node 84 = .ok (.iconst 1, 1) := by decide +kernel
theorem dX6_node_85 : decode cX6_node 85 = .ok (.goto 4, 3) := by decide +kernel
theorem dX6_node_88 : decode cX6_node 88 = .ok (.iconst 0, 1) := by decide +kernel
theorem dX6_node_89 : decode cX6_node 89 = .ok (.iadd, 1) := by decide +kernel
theorem dX6_node_90 : decode cX6_node 90 = .ok (.istore_n 3, 1) := by decide +kernel
theorem dX6_node_91 : decode cX6_node 91 = .ok (.iinc 4 1, 3) := by decide +kernel
theorem dX6_node_94 : decode cX6_node 94 = .ok (.goto (-37), 3) := by decide +kernel
theorem dX6_node_97 : decode cX6_node 97 = .ok (.iload_n 2, 1) := by decide +kernel
theorem dX6_node_98 : decode cX6_node 98 = .ok (.tableswitch 108 0 3 #[30, 32, 38, 74], 30) := by decide +kernel
theorem dX6_node_128 : decode cX6_node 128 = .ok (.iload_n 3, 1) := by decide +kernel
theorem dX6_node_129 : decode cX6_node 129 = .ok (.ireturn, 1) := by decide +kernel
theorem dX6_node_130 : decode cX6_node 130 = .ok (.aload_n 0, 1) := by decide +kernel
theorem dX6_node_131 : decode cX6_node 131 = .ok (.iload_n 1, 1) := by decide +kernel
theorem dX6_node_132 : decode cX6_node 132 = .ok (.invokevirtual 206, 3) := by decide +kernel
theorem dX6_node_135 : decode cX6_node 135 = .ok (.ireturn, 1) := by decide +kernel
theorem dX6_node_136 : decode cX6_node 136 = .ok (.aload_n 0, 1) := by decide +kernel
theorem dX6_node_137 : decode cX6_node 137 = .ok (.invokevirtual 269, 3) := by decide +kernel
theorem dX6_node_140 : decode cX6_node 140 = .ok (.aload_n 0, 1) := by decide +kernel
theorem dX6_node_141 : decode cX6_node 141 = .ok (.getfield 224, 3) := by decide +kernel
theorem dX6_node_144 : decode cX6_node 144 = .ok (.iload_n 1, 1) := by decide +kernel
theorem dX6_node_145 : decode cX6_node 145 = .ok (.invokestatic 183, 3) := by decide +kernel
theorem dX6_node_148 : decode cX6_node 148 = .ok (.ifCond .eq 7, 3) := by decide +kernel
theorem dX6_node_151 : decode cX6_node 151 = .ok (.iconst 0, 1) := by decide +kernel
theorem dX6_node_152 : decode cX6_node 152 = .ok (.goto 19, 3) := by decide +kernel
theorem dX6_node_155 : decode cX6_node 155 = .ok (.aload_n 0, 1) := by decide +kernel
theorem dX6_node_156 : decode cX6_node 156 = .ok (.getfield 227, 3) := by decide +kernel
theorem dX6_node_159 : decode cX6_node 159 = .ok (.iload_n 1, 1) := by decide +kernel
theorem dX6_node_160 : decode cX6_node 160 = .ok (.invokestatic 183, 3) := by decide +kernel
theorem dX6_node_163 : decode cX6_node 163 = .ok (.ifCond .eq 7, 3) := by decide +kernel
theorem dX6_node_166 : decode cX6_node 166 = .ok (.iconst 1, 1) := by decide +kernel
theorem dX6_node_167 : decode cX6_node 167 = .ok (.goto 4, 3) := by decide +kernel
theorem dX6_node_170 : decode cX6_node 170 = .ok (.iconst 2, 1) := by decide +kernel
theorem dX6_node_171 : decode cX6_node 171 = .ok (.ireturn, 1) := by decide +kernel
theorem dX6_node_172 : decode cX6_node 172 = .ok (.aload_n 0, 1) := by decide +kernel
theorem dX6_node_173 : decode cX6_node 173 = .ok (.iconst 0, 1) := by decide +kernel
theorem dX6_node_174 : decode cX6_node 174 = .ok (.invokevirtual 272, 3) := by decide +kernel
theorem dX6_node_177 : decode cX6_node 177 = .ok (.iload_n 1, 1) := by decide +kernel
theorem dX6_node_178 : decode cX6_node 178 = .ok (.invokestatic 183, 3) := by decide +kernel
theorem dX6_node_181 : decode cX6_node 181 = .ok (.ifCond .eq 7, 3) := by decide +kernel
theorem dX6_node_184 : decode cX6_node 184 = .ok (.iconst 0, 1) := by decide +kernel
theorem dX6_node_185 : decode cX6_node 185 = .ok (.goto 20, 3) := by decide +kernel
theorem dX6_node_188 : decode cX6_node 188 = .ok (.aload_n 0, 1) := by decide +kernel
theorem dX6_node_189 : decode cX6_node 189 = .ok (.iconst 1, 1) := by decide +kernel
theorem dX6_node_190 : decode cX6_node 190 = .ok (.invokevirtual 272, 3) := by decide +kernel
theorem dX6_node_193 : decode cX6_node 193 = .ok (.iload_n 1, 1) := by decide +kernel
theorem dX6_node_194 : decode cX6_node 194 = .ok (.invokestatic 183, 3) := by decide +kernel
theorem dX6_node_197 : decode cX6_node 197 = .ok (.ifCond .eq 7, 3) := by decide +kernel
theorem dX6_node_200 : decode cX6_node 200 = .ok (.iconst 1, 1) := by decide +kernel
theorem dX6_node_201 : decode cX6_node 201 = .ok (.goto 4, 3) := by decide +kernel
theorem dX6_node_204 : decode cX6_node 204 = .ok (.iconst 2, 1) := by decide +kernel
theorem dX6_node_205 : decode cX6_node 205 = .ok (.ireturn, 1) := by decide +kernel
theorem dX6_node_206 : decode cX6_node 206 = .ok (.aload_n 0, 1) := by decide +kernel
theorem dX6_node_207 : decode cX6_node 207 = .ok (.invokevirtual 260, 3) := by decide +kernel
theorem dX6_node_210 : decode cX6_node 210 = .ok (.aload_n 0, 1) := by decide +kernel
theorem dX6_node_211 : decode cX6_node 211 = .ok (.getfield 47, 3) := by decide +kernel
theorem dX6_node_214 : decode cX6_node 214 = .ok (.iload_n 1, 1) := by decide +kernel
theorem dX6_node_215 : decode cX6_node 215 = .ok (.iaload, 1) := by decide +kernel
theorem dX6_node_216 : decode cX6_node 216 = .ok (.ireturn, 1) := by decide +kernel
theorem dX6_sets_0 : decode cX6_sets 0 = .ok (.aload_n 0, 1) := by decide +kernel
theorem dX6_sets_1 : decode cX6_sets 1 = .ok (.iconst 0, 1) := by decide +kernel
theorem dX6_sets_2 : decode cX6_sets 2 = .ok (.putfield 72, 3) := by decide +kernel
theorem dX6_sets_5 : decode cX6_sets 5 = .ok (.aload_n 0, 1) := by decide +kernel
theorem dX6_sets_6 : decode cX6_sets 6 = .ok (.iload_n 1, 1) := by decide +kernel
theorem dX6_sets_7 : decode cX6_sets 7 = .ok (.iconst 0, 1) := by decide +kernel
theorem dX6_sets_8 : decode cX6_sets 8 = .ok (.iconst 5, 1) := by decide +kernel
theorem dX6_sets_9 : decode cX6_sets 9 = .ok (.invokestatic 111, 3) := by decide +kernel
theorem dX6_sets_12 : decode cX6_sets 12 = .ok (.ifCond .ne 7, 3) := by decide +kernel
theorem dX6_sets_15 : decode cX6_sets 15 = .ok (.iconst 1, 1) := by decide +kernel
theorem dX6_sets_16 : decode cX6_sets 16 = .ok (.goto 4, 3) := by decide +kernel
theorem dX6_sets_19 : decode cX6_sets 19 = .ok (.iconst 0, 1) := by decide +kernel
theorem dX6_sets_20 : decode cX6_sets 20 = .ok (.iconst 1, 1) := by decide +kernel
theorem dX6_sets_21 : decode cX6_sets 21 = .ok (.iconst 1, 1) := by decide +kernel
theorem dX6_sets_22 : decode cX6_sets 22 = .ok (.invokevirtual 159, 3) := by decide +kernel
theorem dX6_sets_25 : decode cX6_sets 25 = .ok (.ifCond .eq 5, 3) := by decide +kernel
theorem dX6_sets_28 : decode cX6_sets 28 = .ok (.iconst 0, 1) := by decide +kernel
theorem dX6_sets_29 : decode cX6_sets 29 = .ok (.ireturn, 1) := by decide +kernel
theorem dX6_sets_30 : decode cX6_sets 30 = .ok (.iload_n 1, 1) := by decide +kernel
theorem dX6_sets_31 : decode cX6_sets 31 = .ok (.iconst 3, 1) := by decide +kernel
theorem dX6_sets_32 : decode cX6_sets 32 = .ok (.if_icmp .ge 9, 3) := by decide +kernel
theorem dX6_sets_35 : decode cX6_sets 35 = .ok (.aload_n 0, 1) := by decide +kernel
theorem dX6_sets_36 : decode cX6_sets 36 = .ok (.iload_n 1, 1) := by decide +kernel
theorem dX6_sets_37 : decode cX6_sets 37 = .ok (.invokevirtual 272, 3) := by decide +kernel
theorem dX6_sets_40 : decode cX6_sets 40 = .ok (.ireturn, 1) := by decide +kernel
theorem dX6_sets_41 : decode cX6_sets 41 = .ok (.aload_n 0, 1) := by decide +kernel
theorem dX6_sets_42 : decode cX6_sets 42 = .ok (.invokevirtual 269, 3) := by decide +kernel
theorem dX6_sets_45 : decode cX6_sets 45 = .ok (.iload_n 1, 1) := by decide +kernel
theorem dX6_sets_46 : decode cX6_sets 46 = .ok (.iconst 3, 1) := by decide +kernel
theorem dX6_sets_47 : decode cX6_sets 47 = .ok (.if_icmp .ne 10, 3) := by decide +kernel
theorem dX6_sets_50 : decode cX6_sets 50 = .ok (.aload_n 0, 1) := by decide +kernel
theorem dX6_sets_51 : decode cX6_sets 51 = .ok (.getfield 224, 3) := by decide +kernel
theorem dX6_sets_54 : decode cX6_sets 54 = .ok (.goto 33, 3) := by decide +kernel
theorem dX6_sets_57 : decode cX6_sets 57 = .ok (.iload_n 1, 1) := by decide +kernel
theorem dX6_sets_58 : decode cX6_sets 58 = .ok (.iconst 4, 1) := by decide +kernel
theorem dX6_sets_59 : decode cX6_sets 59 = .ok (.if_icmp .ne 10, 3) := by decide +kernel
theorem dX6_sets_62 : decode cX6_sets 62 = .ok (.aload_n 0, 1) := by decide +kernel
theorem dX6_sets_63 : decode cX6_sets 63 = .ok (.getfield 227, 3) := by decide +kernel
theorem dX6_sets_66 : decode cX6_sets 66 = .ok (.goto 21, 3) := by decide +kernel
theorem dX6_sets_69 : decode cX6_sets 69 = .ok (.aload_n 0, 1) := by decide +kernel
theorem dX6_sets_70 : decode cX6_sets 70 = .ok (.invokevirtual 194, 3) := by decide +kernel
theorem dX6_sets_73 : decode cX6_sets 73 = .ok (.aload_n 0, 1) := by decide +kernel
theorem dX6_sets_74 : decode cX6_sets 74 = .ok (.getfield 224, 3) := by decide +kernel
theorem dX6_sets_77 : decode cX6_sets 77 = .ok (.iconst (-1), 1) := by decide +kernel
theorem dX6_sets_78 : decode cX6_sets 78 = .ok (.ixor, 1) := by decide +kernel
theorem dX6_sets_79 : decode cX6_sets 79 = .ok (.iand, 1) := by decide +kernel
theorem dX6_sets_80 : decode cX6_sets 80 = .ok (.aload_n 0, 1) := by decide +kernel
theorem dX6_sets_81 : decode cX6_sets 81 = .ok (.getfield 227, 3) := by decide +kernel
theorem dX6_sets_84 : decode cX6_sets 84 = .ok (.iconst (-1), 1) := by decide +kernel
theorem dX6_sets_85 : decode cX6_sets 85 = .ok (.ixor, 1) := by decide +kernel
theorem dX6_sets_86 : decode cX6_sets 86 = .ok (.iand, 1) := by decide +kernel
theorem dX6_sets_87 : decode cX6_sets 87 = .ok (.ireturn, 1) := by decide +kernel
theorem dX6_odd_0 : decode cX6_odd 0 = .ok (.aload_n 0, 1) := by decide +kernel
theorem dX6_odd_1 : decode cX6_odd 1 = .ok (.iconst 0, 1) := by decide +kernel
theorem dX6_odd_2 : decode cX6_odd 2 = .ok (.putfield 72, 3) := by decide +kernel
theorem dX6_odd_5 : decode cX6_odd 5 = .ok (.aload_n 0, 1) := by decide +kernel
theorem dX6_odd_6 : decode cX6_odd 6 = .ok (.iload_n 1, 1) := by decide +kernel
theorem dX6_odd_7 : decode cX6_odd 7 = .ok (.iconst 0, 1) := by decide +kernel
theorem dX6_odd_8 : decode cX6_odd 8 = .ok (.aload_n 0, 1) := by decide +kernel
theorem dX6_odd_9 : decode cX6_odd 9 = .ok (.invokevirtual 194, 3) := by decide +kernel
theorem dX6_odd_12 : decode cX6_odd 12 = .ok (.invokestatic 111, 3) := by decide +kernel
theorem dX6_odd_15 : decode cX6_odd 15 = .ok (.ifCond .ne 7, 3) := by decide +kernel
theorem dX6_odd_18 : decode cX6_odd 18 = .ok (.iconst 1, 1) := by decide +kernel
theorem dX6_odd_19 : decode cX6_odd 19 = .ok (.goto 4, 3) := by decide +kernel
theorem dX6_odd_22 : decode cX6_odd 22 = .ok (.iconst 0, 1) := by decide +kernel
theorem dX6_odd_23 : decode cX6_odd 23 = .ok (.iconst 1, 1) := by decide +kernel
theorem dX6_odd_24 : decode cX6_odd 24 = .ok (.iconst 1, 1) := by decide +kernel
theorem dX6_odd_25 : decode cX6_odd 25 = .ok (.invokevirtual 159, 3) := by decide +kernel
theorem dX6_odd_28 : decode cX6_odd 28 = .ok (.ifCond .eq 7, 3) := by decide +kernel
theorem dX6_odd_31 : decode cX6_odd 31 = .ok (.iconst 0, 1) := by decide +kernel
theorem dX6_odd_32 : decode cX6_odd 32 = .ok (.goto 8, 3) := by decide +kernel
theorem dX6_odd_35 : decode cX6_odd 35 = .ok (.aload_n 0, 1) := by decide +kernel
theorem dX6_odd_36 : decode cX6_odd 36 = .ok (.iload_n 1, 1) := by decide +kernel
theorem dX6_odd_37 : decode cX6_odd 37 = .ok (.invokevirtual 275, 3) := by decide +kernel
theorem dX6_odd_40 : decode cX6_odd 40 = .ok (.ireturn, 1) := by decide +kernel
theorem dX6_barrier_0 : decode cX6_barrier 0 = .ok (.aload_n 0, 1) := by decide +kernel
theorem dX6_barrier_1 : decode cX6_barrier 1 = .ok (.iconst 0, 1) := by decide +kernel
theorem dX6_barrier_2 : decode cX6_barrier 2 = .ok (.putfield 72, 3) := by decide +kernel
theorem dX6_barrier_5 : decode cX6_barrier 5 = .ok (.aload_n 0, 1) := by decide +kernel
theorem dX6_barrier_6 : decode cX6_barrier 6 = .ok (.iload_n 1, 1) := by decide +kernel
theorem dX6_barrier_7 : decode cX6_barrier 7 = .ok (.iconst 0, 1) := by decide +kernel
theorem dX6_barrier_8 : decode cX6_barrier 8 = .ok (.iconst 1, 1) := by decide +kernel
theorem dX6_barrier_9 : decode cX6_barrier 9 = .ok (.invokestatic 111, 3) := by decide +kernel
theorem dX6_barrier_12 : decode cX6_barrier 12 = .ok (.ifCond .ne 7, 3) := by decide +kernel
theorem dX6_barrier_15 : decode cX6_barrier 15 = .ok (.iconst 1, 1) := by decide +kernel
theorem dX6_barrier_16 : decode cX6_barrier 16 = .ok (.goto 4, 3) := by decide +kernel
theorem dX6_barrier_19 : decode cX6_barrier 19 = .ok (.iconst 0, 1) := by decide +kernel
theorem dX6_barrier_20 : decode cX6_barrier 20 = .ok (.iconst 1, 1) := by decide +kernel
theorem dX6_barrier_21 : decode cX6_barrier 21 = .ok (.iconst 1, 1) := by decide +kernel
theorem dX6_barrier_22 : decode cX6_barrier 22 = .ok (.invokevirtual 159, 3) := by decide +kernel
theorem dX6_barrier_25 : decode cX6_barrier 25 = .ok (.ifCond .eq 5, 3) := by decide +kernel
theorem dX6_barrier_28 : decode cX6_barrier 28 = .ok (.iconst 0, 1) := by decide +kernel
theorem dX6_barrier_29 : decode cX6_barrier 29 = .ok (.ireturn, 1) := by decide +kernel
theorem dX6_barrier_30 : decode cX6_barrier 30 = .ok (.aload_n 0, 1) := by decide +kernel
theorem dX6_barrier_31 : decode cX6_barrier 31 = .ok (.invokevirtual 209, 3) := by decide +kernel
theorem dX6_barrier_34 : decode cX6_barrier 34 = .ok (.iconst (-1), 1) := by decide +kernel
theorem dX6_barrier_35 : decode cX6_barrier 35 = .ok (.istore_n 2, 1) := by decide +kernel
theorem dX6_barrier_36 : decode cX6_barrier 36 = .ok (.iconst 0, 1) := by decide +kernel
theorem dX6_barrier_37 : decode cX6_barrier 37 = .ok (.istore_n 3, 1) := by decide +kernel
theorem dX6_barrier_38 : decode cX6_barrier 38 = .ok (.iload_n 3, 1) := by decide +kernel
theorem dX6_barrier_39 : decode cX6_barrier 39 = .ok (.aload_n 0, 1) := by decide +kernel
theorem dX6_barrier_40 : decode cX6_barrier 40 = .ok (.invokevirtual 194, 3) := by decide +kernel
theorem dX6_barrier_43 : decode cX6_barrier 43 = .ok (.if_icmp .gt 65, 3) := by decide +kernel
theorem dX6_barrier_46 : decode cX6_barrier 46 = .ok (.iload_n 2, 1) := by decide +kernel
theorem dX6_barrier_47 : decode cX6_barrier 47 = .ok (.iconst (-1), 1) := by decide +kernel
theorem dX6_barrier_48 : decode cX6_barrier 48 = .ok (.if_icmp .eq 35, 3) := by decide +kernel
theorem dX6_barrier_51 : decode cX6_barrier 51 = .ok (.iload_n 1, 1) := by decide +kernel
theorem dX6_barrier_52 : decode cX6_barrier 52 = .ok (.ifCond .ne 17, 3) := by decide +kernel
theorem dX6_barrier_55 : decode cX6_barrier 55 = .ok (.iload_n 3, 1) := by decide +kernel
theorem dX6_barrier_56 : decode cX6_barrier 56 = .ok (.invokestatic 221, 3) := by decide +kernel
theorem dX6_barrier_59 : decode cX6_barrier 59 = .ok (.iload_n 2, 1) := by decide +kernel
theorem dX6_barrier_60 : decode cX6_barrier 60 = .ok (.invokestatic 221, 3) := by decide +kernel
theorem dX6_barrier_63 : decode cX6_barrier 63 = .ok (.if_icmp .lt 20, 3) := by decide +kernel
theorem dX6_barrier_66 : decode cX6_barrier 66 = .ok (.goto 36, 3) := by decide +kernel
theorem dX6_barrier_69 : decode cX6_barrier 69 = .ok (.iload_n 3, 1) := by decide +kernel
theorem dX6_barrier_70 : decode cX6_barrier 70 = .ok (.invokestatic 221, 3) := by decide +kernel
theorem dX6_barrier_73 : decode cX6_barrier 73 = .ok (.iload_n 2, 1) := by decide +kernel
theorem dX6_barrier_74 : decode cX6_barrier 74 = .ok (.invokestatic 221, 3) := by decide +kernel
theorem dX6_barrier_77 : decode cX6_barrier 77 = .ok (.if_icmp .gt 6, 3) := by decide +kernel
theorem dX6_barrier_80 : decode cX6_barrier 80 = .ok (.goto 22, 3) := by decide +kernel
theorem dX6_barrier_83 : decode cX6_barrier 83 = .ok (.aload_n 0, 1) := by decide +kernel
theorem dX6_barrier_84 : decode cX6_barrier 84 = .ok (.iload_n 3, 1) := by decide +kernel
theorem dX6_barrier_85 : decode cX6_barrier 85 = .ok (.invokevirtual 275, 3) := by decide +kernel
theorem dX6_barrier_88 : decode cX6_barrier 88 = .ok (.iload_n 3, 1) := by decide +kernel
theorem dX6_barrier_89 : decode cX6_barrier 89 = .ok (.invokestatic 221, 3) := by decide +kernel
theorem dX6_barrier_92 : decode cX6_barrier 92 = .ok (.isub, 1) := by decide +kernel
theorem dX6_barrier_93 : decode cX6_barrier 93 = .ok (.aload_n 0, 1) := by decide +kernel
theorem dX6_barrier_94 : decode cX6_barrier 94 = .ok (.invokevirtual 266, 3) := by decide +kernel
theorem dX6_barrier_97 : decode cX6_barrier 97 = .ok (.if_icmp .ne 5, 3) := by decide +kernel
theorem dX6_barrier_100 : decode cX6_barrier 100 = .ok (.iload_n 3, 1) := by decide +kernel
theorem dX6_barrier_101 : decode cX6_barrier 101 = .ok (.istore_n 2, 1) := by decide +kernel
theorem dX6_barrier_102 : decode cX6_barrier 102 = .ok (.iinc 3 1, 3) := by decide +kernel
theorem dX6_barrier_105 : decode cX6_barrier 105 = .ok (.goto (-67), 3) := by decide +kernel
theorem dX6_barrier_108 : decode cX6_barrier 108 = .ok (.iload_n 2, 1) := by decide +kernel
theorem dX6_barrier_109 : decode cX6_barrier 109 = .ok (.ireturn, 1) := by decide +kernel
theorem dX6_ways_0 : decode cX6_ways 0 = .ok (.aload_n 0, 1) := by decide +kernel
theorem dX6_ways_1 : decode cX6_ways 1 = .ok (.iconst 0, 1) := by decide +kernel
theorem dX6_ways_2 : decode cX6_ways 2 = .ok (.putfield 72, 3) := by decide +kernel
theorem dX6_ways_5 : decode cX6_ways 5 = .ok (.aload_n 0, 1) := by decide +kernel
theorem dX6_ways_6 : decode cX6_ways 6 = .ok (.invokevirtual 209, 3) := by decide +kernel
theorem dX6_ways_9 : decode cX6_ways 9 = .ok (.aload_n 0, 1) := by decide +kernel
theorem dX6_ways_10 : decode cX6_ways 10 = .ok (.getfield 43, 3) := by decide +kernel
theorem dX6_ways_13 : decode cX6_ways 13 = .ok (.aload_n 0, 1) := by decide +kernel
theorem dX6_ways_14 : decode cX6_ways 14 = .ok (.invokevirtual 194, 3) := by decide +kernel
theorem dX6_ways_17 : decode cX6_ways 17 = .ok (.laload, 1) := by decide +kernel
theorem dX6_ways_18 : decode cX6_ways 18 = .ok (.l2i, 1) := by decide +kernel
theorem dX6_ways_19 : decode cX6_ways 19 = .ok (.ireturn, 1) := by decide +kernel
theorem dX6_heavy_0 : decode cX6_heavy 0 = .ok (.aload_n 0, 1) := by decide +kernel
theorem dX6_heavy_1 : decode cX6_heavy 1 = .ok (.iconst 0, 1) := by decide +kernel
theorem dX6_heavy_2 : decode cX6_heavy 2 = .ok (.putfield 72, 3) := by decide +kernel
theorem dX6_heavy_5 : decode cX6_heavy 5 = .ok (.aload_n 0, 1) := by decide +kernel
theorem dX6_heavy_6 : decode cX6_heavy 6 = .ok (.iload_n 1, 1) := by decide +kernel
theorem dX6_heavy_7 : decode cX6_heavy 7 = .ok (.iconst 0, 1) := by decide +kernel
theorem dX6_heavy_8 : decode cX6_heavy 8 = .ok (.iconst 1, 1) := by decide +kernel
theorem dX6_heavy_9 : decode cX6_heavy 9 = .ok (.invokestatic 111, 3) := by decide +kernel
theorem dX6_heavy_12 : decode cX6_heavy 12 = .ok (.ifCond .ne 7, 3) := by decide +kernel
theorem dX6_heavy_15 : decode cX6_heavy 15 = .ok (.iconst 1, 1) := by decide +kernel
theorem dX6_heavy_16 : decode cX6_heavy 16 = .ok (.goto 4, 3) := by decide +kernel
theorem dX6_heavy_19 : decode cX6_heavy 19 = .ok (.iconst 0, 1) := by decide +kernel
theorem dX6_heavy_20 : decode cX6_heavy 20 = .ok (.iconst 1, 1) := by decide +kernel
theorem dX6_heavy_21 : decode cX6_heavy 21 = .ok (.iconst 1, 1) := by decide +kernel
theorem dX6_heavy_22 : decode cX6_heavy 22 = .ok (.invokevirtual 159, 3) := by decide +kernel
theorem dX6_heavy_25 : decode cX6_heavy 25 = .ok (.ifCond .eq 5, 3) := by decide +kernel
theorem dX6_heavy_28 : decode cX6_heavy 28 = .ok (.iconst 0, 1) := by decide +kernel
theorem dX6_heavy_29 : decode cX6_heavy 29 = .ok (.ireturn, 1) := by decide +kernel
theorem dX6_heavy_30 : decode cX6_heavy 30 = .ok (.aload_n 0, 1) := by decide +kernel
theorem dX6_heavy_31 : decode cX6_heavy 31 = .ok (.invokevirtual 209, 3) := by decide +kernel
theorem dX6_heavy_34 : decode cX6_heavy 34 = .ok (.iload_n 1, 1) := by decide +kernel
theorem dX6_heavy_35 : decode cX6_heavy 35 = .ok (.ifCond .ne 15, 3) := by decide +kernel
theorem dX6_heavy_38 : decode cX6_heavy 38 = .ok (.aload_n 0, 1) := by decide +kernel
theorem dX6_heavy_39 : decode cX6_heavy 39 = .ok (.getfield 37, 3) := by decide +kernel
theorem dX6_heavy_42 : decode cX6_heavy 42 = .ok (.aload_n 0, 1) := by decide +kernel
theorem dX6_heavy_43 : decode cX6_heavy 43 = .ok (.invokevirtual 194, 3) := by decide +kernel
theorem dX6_heavy_46 : decode cX6_heavy 46 = .ok (.iaload, 1) := by decide +kernel
theorem dX6_heavy_47 : decode cX6_heavy 47 = .ok (.goto 12, 3) := by decide +kernel
theorem dX6_heavy_50 : decode cX6_heavy 50 = .ok (.aload_n 0, 1) := by decide +kernel
theorem dX6_heavy_51 : decode cX6_heavy 51 = .ok (.getfield 40, 3) := by decide +kernel
theorem dX6_heavy_54 : decode cX6_heavy 54 = .ok (.aload_n 0, 1) := by decide +kernel
theorem dX6_heavy_55 : decode cX6_heavy 55 = .ok (.invokevirtual 194, 3) := by decide +kernel
theorem dX6_heavy_58 : decode cX6_heavy 58 = .ok (.iaload, 1) := by decide +kernel
theorem dX6_heavy_59 : decode cX6_heavy 59 = .ok (.ireturn, 1) := by decide +kernel
theorem dX6_rowAt_0 : decode cX6_rowAt 0 = .ok (.iload_n 1, 1) := by decide +kernel
theorem dX6_rowAt_1 : decode cX6_rowAt 1 = .ok (.ifCond .ne 5, 3) := by decide +kernel
theorem dX6_rowAt_4 : decode cX6_rowAt 4 = .ok (.iconst (-1), 1) := by decide +kernel
theorem dX6_rowAt_5 : decode cX6_rowAt 5 = .ok (.ireturn, 1) := by decide +kernel
theorem dX6_rowAt_6 : decode cX6_rowAt 6 = .ok (.iload_n 2, 1) := by decide +kernel
theorem dX6_rowAt_7 : decode cX6_rowAt 7 = .ok (.iconst (-1), 1) := by decide +kernel
theorem dX6_rowAt_8 : decode cX6_rowAt 8 = .ok (.if_icmp .ne 5, 3) := by decide +kernel
theorem dX6_rowAt_11 : decode cX6_rowAt 11 = .ok (.iload_n 3, 1) := by decide +kernel
theorem dX6_rowAt_12 : decode cX6_rowAt 12 = .ok (.ireturn, 1) := by decide +kernel
theorem dX6_rowAt_13 : decode cX6_rowAt 13 = .ok (.aload_n 0, 1) := by decide +kernel
theorem dX6_rowAt_14 : decode cX6_rowAt 14 = .ok (.iload_n 2, 1) := by decide +kernel
theorem dX6_rowAt_15 : decode cX6_rowAt 15 = .ok (.iconst 0, 1) := by decide +kernel
theorem dX6_rowAt_16 : decode cX6_rowAt 16 = .ok (.aload_n 0, 1) := by decide +kernel
theorem dX6_rowAt_17 : decode cX6_rowAt 17 = .ok (.getfield 236, 3) := by decide +kernel
theorem dX6_rowAt_20 : decode cX6_rowAt 20 = .ok (.iconst 1, 1) := by decide +kernel
theorem dX6_rowAt_21 : decode cX6_rowAt 21 = .ok (.isub, 1) := by decide +kernel
theorem dX6_rowAt_22 : decode cX6_rowAt 22 = .ok (.invokestatic 111, 3) := by decide +kernel
theorem dX6_rowAt_25 : decode cX6_rowAt 25 = .ok (.ifCond .ne 7, 3) := by decide +kernel
theorem dX6_rowAt_28 : decode cX6_rowAt 28 = .ok (.iconst 1, 1) := by decide +kernel
theorem dX6_rowAt_29 : decode cX6_rowAt 29 = .ok (.goto 4, 3) := by decide +kernel
theorem dX6_rowAt_32 : decode cX6_rowAt 32 = .ok (.iconst 0, 1) := by decide +kernel
theorem dX6_rowAt_33 : decode cX6_rowAt 33 = .ok (.iconst 1, 1) := by decide +kernel
theorem dX6_rowAt_34 : decode cX6_rowAt 34 = .ok (.iconst 0, 1) := by decide +kernel
theorem dX6_rowAt_35 : decode cX6_rowAt 35 = .ok (.invokevirtual 159, 3) := by decide +kernel
theorem dX6_rowAt_38 : decode cX6_rowAt 38 = .ok (.ifCond .eq 7, 3) := by decide +kernel
theorem dX6_rowAt_41 : decode cX6_rowAt 41 = .ok (.iconst 0, 1) := by decide +kernel
theorem dX6_rowAt_42 : decode cX6_rowAt 42 = .ok (.goto 9, 3) := by decide +kernel
theorem dX6_rowAt_45 : decode cX6_rowAt 45 = .ok (.aload_n 0, 1) := by decide +kernel
theorem dX6_rowAt_46 : decode cX6_rowAt 46 = .ok (.getfield 55, 3) := by decide +kernel
theorem dX6_rowAt_49 : decode cX6_rowAt 49 = .ok (.iload_n 2, 1) := by decide +kernel
theorem dX6_rowAt_50 : decode cX6_rowAt 50 = .ok (.iaload, 1) := by decide +kernel
theorem dX6_rowAt_51 : decode cX6_rowAt 51 = .ok (.ireturn, 1) := by decide +kernel
theorem dX6_path_0 : decode cX6_path 0 = .ok (.aload_n 0, 1) := by decide +kernel
theorem dX6_path_1 : decode cX6_path 1 = .ok (.iconst 0, 1) := by decide +kernel
theorem dX6_path_2 : decode cX6_path 2 = .ok (.putfield 72, 3) := by decide +kernel
theorem dX6_path_5 : decode cX6_path 5 = .ok (.aload_n 0, 1) := by decide +kernel
theorem dX6_path_6 : decode cX6_path 6 = .ok (.aload_n 0, 1) := by decide +kernel
theorem dX6_path_7 : decode cX6_path 7 = .ok (.iload_n 1, 1) := by decide +kernel
theorem dX6_path_8 : decode cX6_path 8 = .ok (.invokevirtual 245, 3) := by decide +kernel
theorem dX6_path_11 : decode cX6_path 11 = .ok (.ifCond .ne 7, 3) := by decide +kernel
theorem dX6_path_14 : decode cX6_path 14 = .ok (.iconst 1, 1) := by decide +kernel
theorem dX6_path_15 : decode cX6_path 15 = .ok (.goto 4, 3) := by decide +kernel
theorem dX6_path_18 : decode cX6_path 18 = .ok (.iconst 0, 1) := by decide +kernel
theorem dX6_path_19 : decode cX6_path 19 = .ok (.iconst 1, 1) := by decide +kernel
theorem dX6_path_20 : decode cX6_path 20 = .ok (.iconst 0, 1) := by decide +kernel
theorem dX6_path_21 : decode cX6_path 21 = .ok (.invokevirtual 159, 3) := by decide +kernel
theorem dX6_path_24 : decode cX6_path 24 = .ok (.ifCond .eq 5, 3) := by decide +kernel
theorem dX6_path_27 : decode cX6_path 27 = .ok (.iconst 0, 1) := by decide +kernel
theorem dX6_path_28 : decode cX6_path 28 = .ok (.ireturn, 1) := by decide +kernel
theorem dX6_path_29 : decode cX6_path 29 = .ok (.aload_n 0, 1) := by decide +kernel
theorem dX6_path_30 : decode cX6_path 30 = .ok (.iload_n 1, 1) := by decide +kernel
theorem dX6_path_31 : decode cX6_path 31 = .ok (.invokevirtual 257, 3) := by decide +kernel
theorem dX6_path_34 : decode cX6_path 34 = .ok (.istore_n 3, 1) := by decide +kernel
theorem dX6_path_35 : decode cX6_path 35 = .ok (.aload_n 0, 1) := by decide +kernel
theorem dX6_path_36 : decode cX6_path 36 = .ok (.iload_n 3, 1) := by decide +kernel
theorem dX6_path_37 : decode cX6_path 37 = .ok (.iload_n 2, 1) := by decide +kernel
theorem dX6_path_38 : decode cX6_path 38 = .ok (.aload_n 0, 1) := by decide +kernel
theorem dX6_path_39 : decode cX6_path 39 = .ok (.getfield 236, 3) := by decide +kernel
theorem dX6_path_42 : decode cX6_path 42 = .ok (.iconst 1, 1) := by decide +kernel
theorem dX6_path_43 : decode cX6_path 43 = .ok (.isub, 1) := by decide +kernel
theorem dX6_path_44 : decode cX6_path 44 = .ok (.invokevirtual 278, 3) := by decide +kernel
theorem dX6_path_47 : decode cX6_path 47 = .ok (.ireturn, 1) := by decide +kernel
theorem dX6_flower_0 : decode cX6_flower 0 = .ok (.aload_n 0, 1) := by decide +kernel
theorem dX6_flower_1 : decode cX6_flower 1 = .ok (.iconst 0, 1) := by decide +kernel
theorem dX6_flower_2 : decode cX6_flower 2 = .ok (.putfield 72, 3) := by decide +kernel
theorem dX6_flower_5 : decode cX6_flower 5 = .ok (.aload_n 0, 1) := by decide +kernel
theorem dX6_flower_6 : decode cX6_flower 6 = .ok (.aload_n 0, 1) := by decide +kernel
theorem dX6_flower_7 : decode cX6_flower 7 = .ok (.iload_n 1, 1) := by decide +kernel
theorem dX6_flower_8 : decode cX6_flower 8 = .ok (.invokevirtual 245, 3) := by decide +kernel
theorem dX6_flower_11 : decode cX6_flower 11 = .ok (.ifCond .ne 7, 3) := by decide +kernel
theorem dX6_flower_14 : decode cX6_flower 14 = .ok (.iconst 1, 1) := by decide +kernel
theorem dX6_flower_15 : decode cX6_flower 15 = .ok (.goto 4, 3) := by decide +kernel
theorem dX6_flower_18 : decode cX6_flower 18 = .ok (.iconst 0, 1) := by decide +kernel
theorem dX6_flower_19 : decode cX6_flower 19 = .ok (.iconst 1, 1) := by decide +kernel
theorem dX6_flower_20 : decode cX6_flower 20 = .ok (.iconst 0, 1) := by decide +kernel
theorem dX6_flower_21 : decode cX6_flower 21 = .ok (.invokevirtual 159, 3) := by decide +kernel
theorem dX6_flower_24 : decode cX6_flower 24 = .ok (.ifCond .eq 5, 3) := by decide +kernel
theorem dX6_flower_27 : decode cX6_flower 27 = .ok (.iconst 0, 1) := by decide +kernel
theorem dX6_flower_28 : decode cX6_flower 28 = .ok (.ireturn, 1) := by decide +kernel
theorem dX6_flower_29 : decode cX6_flower 29 = .ok (.aload_n 0, 1) := by decide +kernel
theorem dX6_flower_30 : decode cX6_flower 30 = .ok (.iload_n 1, 1) := by decide +kernel
theorem dX6_flower_31 : decode cX6_flower 31 = .ok (.invokevirtual 263, 3) := by decide +kernel
theorem dX6_flower_34 : decode cX6_flower 34 = .ok (.istore_n 3, 1) := by decide +kernel
theorem dX6_flower_35 : decode cX6_flower 35 = .ok (.aload_n 0, 1) := by decide +kernel
theorem dX6_flower_36 : decode cX6_flower 36 = .ok (.iload_n 3, 1) := by decide +kernel
theorem dX6_flower_37 : decode cX6_flower 37 = .ok (.iload_n 2, 1) := by decide +kernel
theorem dX6_flower_38 : decode cX6_flower 38 = .ok (.aload_n 0, 1) := by decide +kernel
theorem dX6_flower_39 : decode cX6_flower 39 = .ok (.getfield 236, 3) := by decide +kernel
theorem dX6_flower_42 : decode cX6_flower 42 = .ok (.invokevirtual 278, 3) := by decide +kernel
theorem dX6_flower_45 : decode cX6_flower 45 = .ok (.ireturn, 1) := by decide +kernel
theorem dX6_print_0 : decode cX6_print 0 = .ok (.aload_n 0, 1) := by decide +kernel
theorem dX6_print_1 : decode cX6_print 1 = .ok (.iconst 0, 1) := by decide +kernel
theorem dX6_print_2 : decode cX6_print 2 = .ok (.putfield 72, 3) := by decide +kernel
theorem dX6_print_5 : decode cX6_print 5 = .ok (.lconst 0, 1) := by decide +kernel
theorem dX6_print_6 : decode cX6_print 6 = .ok (.lstore_n 1, 1) := by decide +kernel
theorem dX6_print_7 : decode cX6_print 7 = .ok (.iconst 0, 1) := by decide +kernel
theorem dX6_print_8 : decode cX6_print 8 = .ok (.istore_n 3, 1) := by decide +kernel
theorem dX6_print_9 : decode cX6_print 9 = .ok (.iload_n 3, 1) := by decide +kernel
theorem dX6_print_10 : decode cX6_print 10 = .ok (.aload_n 0, 1) := by decide +kernel
theorem dX6_print_11 : decode cX6_print 11 = .ok (.invokevirtual 181, 3) := by decide +kernel
theorem dX6_print_14 : decode cX6_print 14 = .ok (.if_icmp .ge 22, 3) := by decide +kernel
theorem dX6_print_17 : decode cX6_print 17 = .ok (.ldc2_w 282, 3) := by decide +kernel
theorem dX6_print_20 : decode cX6_print 20 = .ok (.lload_n 1, 1) := by decide +kernel
theorem dX6_print_21 : decode cX6_print 21 = .ok (.lmul, 1) := by decide +kernel
theorem dX6_print_22 : decode cX6_print 22 = .ok (.aload_n 0, 1) := by decide +kernel
theorem dX6_print_23 : decode cX6_print 23 = .ok (.iload_n 3, 1) := by decide +kernel
theorem dX6_print_24 : decode cX6_print 24 = .ok (.invokevirtual 206, 3) := by decide +kernel
theorem dX6_print_27 : decode cX6_print 27 = .ok (.i2l, 1) := by decide +kernel
theorem dX6_print_28 : decode cX6_print 28 = .ok (.ladd, 1) := by decide +kernel
theorem dX6_print_29 : decode cX6_print 29 = .ok (.lstore_n 1, 1) := by decide +kernel
theorem dX6_print_30 : decode cX6_print 30 = .ok (.iinc 3 1, 3) := by decide +kernel
theorem dX6_print_33 : decode cX6_print 33 = .ok (.goto (-24), 3) := by decide +kernel
theorem dX6_print_36 : decode cX6_print 36 = .ok (.iconst 0, 1) := by decide +kernel
theorem dX6_print_37 : decode cX6_print 37 = .ok (.istore_n 3, 1) := by decide +kernel
theorem dX6_print_38 : decode cX6_print 38 = .ok (.iload_n 3, 1) := by decide +kernel
theorem dX6_print_39 : decode cX6_print 39 = .ok (.aload_n 0, 1) := by decide +kernel
theorem dX6_print_40 : decode cX6_print 40 = .ok (.invokevirtual 181, 3) := by decide +kernel
theorem dX6_print_43 : decode cX6_print 43 = .ok (.if_icmp .ge 55, 3) := by decide +kernel
theorem dX6_print_46 : decode cX6_print 46 = .ok (.iload_n 3, 1) := by decide +kernel
theorem dX6_print_47 : decode cX6_print 47 = .ok (.iconst 1, 1) := by decide +kernel
theorem dX6_print_48 : decode cX6_print 48 = .ok (.iadd, 1) := by decide +kernel
theorem dX6_print_49 : decode cX6_print 49 = .ok (.istore 4, 2) := by decide +kernel
theorem dX6_print_51 : decode cX6_print 51 = .ok (.iload 4, 2) := by decide +kernel
theorem dX6_print_53 : decode cX6_print 53 = .ok (.aload_n 0, 1) := by decide +kernel
theorem dX6_print_54 : decode cX6_print 54 = .ok (.invokevirtual 181, 3) := by decide +kernel
theorem dX6_print_57 : decode cX6_print 57 = .ok (.if_icmp .ge 35, 3) := by decide +kernel
theorem dX6_print_60 : decode cX6_print 60 = .ok (.aload_n 0, 1) := by decide +kernel
theorem dX6_print_61 : decode cX6_print 61 = .ok (.iload_n 3, 1) := by decide +kernel
theorem dX6_print_62 : decode cX6_print 62 = .ok (.iload 4, 2) := by decide +kernel
theorem dX6_print_64 : decode cX6_print 64 = .ok (.invokevirtual 203, 3) := by decide +kernel
theorem dX6_print_67 : decode cX6_print 67 = .ok (.iconst (-1), 1) := by decide +kernel
theorem dX6_print_68 : decode cX6_print 68 = .ok (.if_icmp .eq 18, 3) := by decide +kernel
theorem dX6_print_71 : decode cX6_print 71 = .ok (.ldc2_w 282, 3) := by decide +kernel
theorem dX6_print_74 : decode cX6_print 74 = .ok (.lload_n 1, 1) := by decide +kernel
theorem dX6_print_75 : decode cX6_print 75 = .ok (.lmul, 1) := by decide +kernel
theorem dX6_print_76 : decode cX6_print 76 = .ok (.aload_n 0, 1) := by decide +kernel
theorem dX6_print_77 : decode cX6_print 77 = .ok (.iload_n 3, 1) := by decide +kernel
theorem dX6_print_78 : decode cX6_print 78 = .ok (.iload 4, 2) := by decide +kernel
theorem dX6_print_80 : decode cX6_print 80 = .ok (.invokevirtual 203, 3) := by decide +kernel
theorem dX6_print_83 : decode cX6_print 83 = .ok (.i2l, 1) := by decide +kernel
theorem dX6_print_84 : decode cX6_print 84 = .ok (.ladd, 1) := by decide +kernel
theorem dX6_print_85 : decode cX6_print 85 = .ok (.lstore_n 1, 1) := by decide +kernel
theorem dX6_print_86 : decode cX6_print 86 = .ok (.iinc 4 1, 3) := by decide +kernel
theorem dX6_print_89 : decode cX6_print 89 = .ok (.goto (-38), 3) := by decide +kernel
theorem dX6_print_92 : decode cX6_print 92 = .ok (.iinc 3 1, 3) := by decide +kernel
theorem dX6_print_95 : decode cX6_print 95 = .ok (.goto (-57), 3) := by decide +kernel
theorem dX6_print_98 : decode cX6_print 98 = .ok (.lload_n 1, 1) := by decide +kernel
theorem dX6_print_99 : decode cX6_print 99 = .ok (.lreturn, 1) := by decide +kernel
theorem dX6_status_0 : decode cX6_status 0 = .ok (.aload_n 0, 1) := by decide +kernel
theorem dX6_status_1 : decode cX6_status 1 = .ok (.iconst 0, 1) := by decide +kernel
theorem dX6_status_2 : decode cX6_status 2 = .ok (.putfield 72, 3) := by decide +kernel
theorem dX6_status_5 : decode cX6_status 5 = .ok (.iload_n 1, 1) := by decide +kernel
theorem dX6_status_6 : decode cX6_status 6 = .ok (.iconst 0, 1) := by decide +kernel
theorem dX6_status_7 : decode cX6_status 7 = .ok (.iconst 2, 1) := by decide +kernel
theorem dX6_status_8 : decode cX6_status 8 = .ok (.invokestatic 111, 3) := by decide +kernel
theorem dX6_status_11 : decode cX6_status 11 = .ok (.ifCond .eq 12, 3) := by decide +kernel
theorem dX6_status_14 : decode cX6_status 14 = .ok (.aload_n 0, 1) := by decide +kernel
theorem dX6_status_15 : decode cX6_status 15 = .ok (.getfield 9, 3) := by decide +kernel
theorem dX6_status_18 : decode cX6_status 18 = .ok (.iload_n 1, 1) := by decide +kernel
theorem dX6_status_19 : decode cX6_status 19 = .ok (.iaload, 1) := by decide +kernel
theorem dX6_status_20 : decode cX6_status 20 = .ok (.goto 4, 3) := by decide +kernel
theorem dX6_status_23 : decode cX6_status 23 = .ok (.iconst (-1), 1) := by decide +kernel
theorem dX6_status_24 : decode cX6_status 24 = .ok (.ireturn, 1) := by decide +kernel
