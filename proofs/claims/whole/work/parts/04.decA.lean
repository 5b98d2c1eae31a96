theorem dX0_init_0 : decode cX0_init 0 = .ok (.aload_n 0, 1) := by decide +kernel
theorem dX0_init_1 : decode cX0_init 1 = .ok (.invokespecial 3, 3) := by decide +kernel
theorem dX0_init_4 : decode cX0_init 4 = .ok (.aload_n 0, 1) := by decide +kernel
theorem dX0_init_5 : decode cX0_init 5 = .ok (.iconst 0, 1) := by decide +kernel
theorem dX0_init_6 : decode cX0_init 6 = .ok (.putfield 9, 3) := by decide +kernel
theorem dX0_init_9 : decode cX0_init 9 = .ok (.aload_n 0, 1) := by decide +kernel
theorem dX0_init_10 : decode cX0_init 10 = .ok (.bipush 12, 2) := by decide +kernel
theorem dX0_init_12 : decode cX0_init 12 = .ok (.newarray .int, 2) := by decide +kernel
theorem dX0_init_14 : decode cX0_init 14 = .ok (.putfield 15, 3) := by decide +kernel
theorem dX0_init_17 : decode cX0_init 17 = .ok (.aload_n 0, 1) := by decide +kernel
theorem dX0_init_18 : decode cX0_init 18 = .ok (.sipush 4096, 3) := by decide +kernel
theorem dX0_init_21 : decode cX0_init 21 = .ok (.newarray .long, 2) := by decide +kernel
theorem dX0_init_23 : decode cX0_init 23 = .ok (.putfield 19, 3) := by decide +kernel
theorem dX0_init_26 : decode cX0_init 26 = .ok (.aload_n 0, 1) := by decide +kernel
theorem dX0_init_27 : decode cX0_init 27 = .ok (.aload_n 1, 1) := by decide +kernel
theorem dX0_init_28 : decode cX0_init 28 = .ok (.putfield 23, 3) := by decide +kernel
theorem dX0_init_31 : decode cX0_init 31 = .ok (.return_, 1) := by decide +kernel
theorem dX0_learn_0 : decode cX0_learn 0 = .ok (.aload_n 0, 1) := by decide +kernel
theorem dX0_learn_1 : decode cX0_learn 1 = .ok (.getfield 9, 3) := by decide +kernel
theorem dX0_learn_4 : decode cX0_learn 4 = .ok (.ifCond .ne 16, 3) := by decide +kernel
theorem dX0_learn_7 : decode cX0_learn 7 = .ok (.aload_n 0, 1) := by decide +kernel
theorem dX0_learn_8 : decode cX0_learn 8 = .ok (.iconst 1, 1) := by decide +kernel
theorem dX0_learn_9 : decode cX0_learn 9 = .ok (.putfield 9, 3) := by decide +kernel
theorem dX0_learn_12 : decode cX0_learn 12 = .ok (.aload_n 0, 1) := by decide +kernel
theorem dX0_learn_13 : decode cX0_learn 13 = .ok (.getfield 19, 3) := by decide +kernel
theorem dX0_learn_16 : decode cX0_learn 16 = .ok (.lconst 0, 1) := by decide +kernel
theorem dX0_learn_17 : decode cX0_learn 17 = .ok (.invokestatic 27, 3) := by decide +kernel
theorem dX0_learn_20 : decode cX0_learn 20 = .ok (.return_, 1) := by decide +kernel
theorem dX0_greatestIn_0 : decode cX0_greatestIn 0 = .ok (.aload_n 0, 1) := by decide +kernel
theorem dX0_greatestIn_1 : decode cX0_greatestIn 1 = .ok (.aload_n 0, 1) := by decide +kernel
theorem dX0_greatestIn_2 : decode cX0_greatestIn 2 = .ok (.getfield 23, 3) := by decide +kernel
theorem dX0_greatestIn_5 : decode cX0_greatestIn 5 = .ok (.getfield 33, 3) := by decide +kernel
theorem dX0_greatestIn_8 : decode cX0_greatestIn 8 = .ok (.iload_n 1, 1) := by decide +kernel
theorem dX0_greatestIn_9 : decode cX0_greatestIn 9 = .ok (.invokevirtual 39, 3) := by decide +kernel
theorem dX0_greatestIn_12 : decode cX0_greatestIn 12 = .ok (.lreturn, 1) := by decide +kernel
theorem dX0_greatestBelow_0 : decode cX0_greatestBelow 0 = .ok (.iload_n 1, 1) := by decide +kernel
theorem dX0_greatestBelow_1 : decode cX0_greatestBelow 1 = .ok (.ifCond .le 14, 3) := by decide +kernel
theorem dX0_greatestBelow_4 : decode cX0_greatestBelow 4 = .ok (.iload_n 2, 1) := by decide +kernel
theorem dX0_greatestBelow_5 : decode cX0_greatestBelow 5 = .ok (.ifCond .le 10, 3) := by decide +kernel
theorem dX0_greatestBelow_8 : decode cX0_greatestBelow 8 = .ok (.iload_n 2, 1) := by decide +kernel
theorem dX0_greatestBelow_9 : decode cX0_greatestBelow 9 = .ok (.sipush 4096, 3) := by decide +kernel
theorem dX0_greatestBelow_12 : decode cX0_greatestBelow 12 = .ok (.if_icmp .lt 11, 3) := by decide +kernel
theorem dX0_greatestBelow_15 : decode cX0_greatestBelow 15 = .ok (.iconst 0, 1) := by decide +kernel
theorem dX0_greatestBelow_16 : decode cX0_greatestBelow 16 = .ok (.iconst 1, 1) := by decide +kernel
theorem dX0_greatestBelow_17 : decode cX0_greatestBelow 17 = .ok (.iconst 0, 1) := by decide +kernel
theorem dX0_greatestBelow_18 : decode cX0_greatestBelow 18 = .ok (.iconst 0, 1) := by decide +kernel
theorem dX0_greatestBelow_19 : decode cX0_greatestBelow 19 = .ok (.invokestatic 43, 3) := by decide +kernel
theorem dX0_greatestBelow_22 : decode cX0_greatestBelow 22 = .ok (.lreturn, 1) := by decide +kernel
theorem dX0_greatestBelow_23 : decode cX0_greatestBelow 23 = .ok (.aload_n 0, 1) := by decide +kernel
theorem dX0_greatestBelow_24 : decode cX0_greatestBelow 24 = .ok (.getfield 19, 3) := by decide +kernel
theorem dX0_greatestBelow_27 : decode cX0_greatestBelow 27 = .ok (.iload_n 2, 1) := by decide +kernel
theorem dX0_greatestBelow_28 : decode cX0_greatestBelow 28 = .ok (.laload, 1) := by decide +kernel
theorem dX0_greatestBelow_29 : decode cX0_greatestBelow 29 = .ok (.lconst 0, 1) := by decide +kernel
theorem dX0_greatestBelow_30 : decode cX0_greatestBelow 30 = .ok (.lcmp, 1) := by decide +kernel
theorem dX0_greatestBelow_31 : decode cX0_greatestBelow 31 = .ok (.ifCond .ne 17, 3) := by decide +kernel
theorem dX0_greatestBelow_34 : decode cX0_greatestBelow 34 = .ok (.aload_n 0, 1) := by decide +kernel
theorem dX0_greatestBelow_35 : decode cX0_greatestBelow 35 = .ok (.getfield 19, 3) := by decide +kernel
theorem dX0_greatestBelow_38 : decode cX0_greatestBelow 38 = .ok (.iload_n 2, 1) := by decide +kernel
theorem dX0_greatestBelow_39 : decode cX0_greatestBelow 39 = .ok (.aload_n 0, 1) := by decide +kernel
theorem dX0_greatestBelow_40 : decode cX0_greatestBelow 40 = .ok (.iload_n 1, 1) := by decide +kernel
theorem dX0_greatestBelow_41 : decode cX0_greatestBelow 41 = .ok (.iconst 1, 1) := by decide +kernel
theorem dX0_greatestBelow_42 : decode cX0_greatestBelow 42 = .ok (.isub, 1) := by decide +kernel
theorem dX0_greatestBelow_43 : decode cX0_greatestBelow 43 = .ok (.iload_n 2, 1) := by decide +kernel
theorem dX0_greatestBelow_44 : decode cX0_greatestBelow 44 = .ok (.invokevirtual 47, 3) := by decide +kernel
theorem dX0_greatestBelow_47 : decode cX0_greatestBelow 47 = .ok (.lastore, 1) := by decide +kernel
theorem dX0_greatestBelow_48 : decode cX0_greatestBelow 48 = .ok (.aload_n 0, 1) := by decide +kernel
theorem dX0_greatestBelow_49 : decode cX0_greatestBelow 49 = .ok (.getfield 19, 3) := by decide +kernel
theorem dX0_greatestBelow_52 : decode cX0_greatestBelow 52 = .ok (.iload_n 2, 1) := by decide +kernel
theorem dX0_greatestBelow_53 : decode cX0_greatestBelow 53 = .ok (.laload, 1) := by decide +kernel
theorem dX0_greatestBelow_54 : decode cX0_greatestBelow 54 = .ok (.lreturn, 1) := by decide +kernel
theorem dX0_workOut_0 : decode cX0_workOut 0 = .ok (.iload_n 2, 1) := by decide +kernel
theorem dX0_workOut_1 : decode cX0_workOut 1 = .ok (.iconst 1, 1) := by decide +kernel
theorem dX0_workOut_2 : decode cX0_workOut 2 = .ok (.iload_n 1, 1) := by decide +kernel
theorem dX0_workOut_3 : decode cX0_workOut 3 = .ok (.ishl, 1) := by decide +kernel
theorem dX0_workOut_4 : decode cX0_workOut 4 = .ok (.iconst (-1), 1) := by decide +kernel
theorem dX0_workOut_5 : decode cX0_workOut 5 = .ok (.ixor, 1) := by decide +kernel
theorem dX0_workOut_6 : decode cX0_workOut 6 = .ok (.iand, 1) := by decide +kernel
theorem dX0_workOut_7 : decode cX0_workOut 7 = .ok (.istore_n 3, 1) := by decide +kernel
theorem dX0_workOut_8 : decode cX0_workOut 8 = .ok (.aload_n 0, 1) := by decide +kernel
theorem dX0_workOut_9 : decode cX0_workOut 9 = .ok (.iload_n 1, 1) := by decide +kernel
theorem dX0_workOut_10 : decode cX0_workOut 10 = .ok (.iload_n 3, 1) := by decide +kernel
theorem dX0_workOut_11 : decode cX0_workOut 11 = .ok (.invokevirtual 39, 3) := by decide +kernel
theorem dX0_workOut_14 : decode cX0_workOut 14 = .ok (.lstore 4, 2) := by decide +kernel
theorem dX0_workOut_16 : decode cX0_workOut 16 = .ok (.iload_n 2, 1) := by decide +kernel
theorem dX0_workOut_17 : decode cX0_workOut 17 = .ok (.iload_n 1, 1) := by decide +kernel
theorem dX0_workOut_18 : decode cX0_workOut 18 = .ok (.invokestatic 50, 3) := by decide +kernel
theorem dX0_workOut_21 : decode cX0_workOut 21 = .ok (.ifCond .eq 17, 3) := by decide +kernel
theorem dX0_workOut_24 : decode cX0_workOut 24 = .ok (.aload_n 0, 1) := by decide +kernel
theorem dX0_workOut_25 : decode cX0_workOut 25 = .ok (.getfield 23, 3) := by decide +kernel
theorem dX0_workOut_28 : decode cX0_workOut 28 = .ok (.getfield 54, 3) := by decide +kernel
theorem dX0_workOut_31 : decode cX0_workOut 31 = .ok (.iload_n 1, 1) := by decide +kernel
theorem dX0_workOut_32 : decode cX0_workOut 32 = .ok (.iaload, 1) := by decide +kernel
theorem dX0_workOut_33 : decode cX0_workOut 33 = .ok (.iload_n 3, 1) := by decide +kernel
theorem dX0_workOut_34 : decode cX0_workOut 34 = .ok (.iand, 1) := by decide +kernel
theorem dX0_workOut_35 : decode cX0_workOut 35 = .ok (.goto 4, 3) := by decide +kernel
theorem dX0_workOut_38 : decode cX0_workOut 38 = .ok (.iconst 0, 1) := by decide +kernel
theorem dX0_workOut_39 : decode cX0_workOut 39 = .ok (.istore 6, 2) := by decide +kernel
theorem dX0_workOut_41 : decode cX0_workOut 41 = .ok (.iconst 0, 1) := by decide +kernel
theorem dX0_workOut_42 : decode cX0_workOut 42 = .ok (.istore 7, 2) := by decide +kernel
theorem dX0_workOut_44 : decode cX0_workOut 44 = .ok (.iload 7, 2) := by decide +kernel
theorem dX0_workOut_46 : decode cX0_workOut 46 = .ok (.iload_n 1, 1) := by decide +kernel
theorem dX0_workOut_47 : decode cX0_workOut 47 = .ok (.if_icmp .ge 61, 3) := by decide +kernel
theorem dX0_workOut_50 : decode cX0_workOut 50 = .ok (.iload 6, 2) := by decide +kernel
theorem dX0_workOut_52 : decode cX0_workOut 52 = .ok (.iload 7, 2) := by decide +kernel
theorem dX0_workOut_54 : decode cX0_workOut 54 = .ok (.invokestatic 50, 3) := by decide +kernel
theorem dX0_workOut_57 : decode cX0_workOut 57 = .ok (.ifCond .eq 45, 3) := by decide +kernel
theorem dX0_workOut_60 : decode cX0_workOut 60 = .ok (.aload_n 0, 1) := by decide +kernel
theorem dX0_workOut_61 : decode cX0_workOut 61 = .ok (.getfield 23, 3) := by decide +kernel
theorem dX0_workOut_64 : decode cX0_workOut 64 = .ok (.iload_n 1, 1) := by decide +kernel
theorem dX0_workOut_65 : decode cX0_workOut 65 = .ok (.iload 7, 2) := by decide +kernel
theorem dX0_workOut_67 : decode cX0_workOut 67 = .ok (.invokevirtual 57, 3) := by decide +kernel
theorem dX0_workOut_70 : decode cX0_workOut 70 = .ok (.istore 8, 2) := by decide +kernel
theorem dX0_workOut_72 : decode cX0_workOut 72 = .ok (.lload 4, 2) := by decide +kernel
theorem dX0_workOut_74 : decode cX0_workOut 74 = .ok (.aload_n 0, 1) := by decide +kernel
theorem dX0_workOut_75 : decode cX0_workOut 75 = .ok (.iload_n 1, 1) := by decide +kernel
theorem dX0_workOut_76 : decode cX0_workOut 76 = .ok (.iload_n 3, 1) := by decide +kernel
theorem dX0_workOut_77 : decode cX0_workOut 77 = .ok (.iconst 1, 1) := by decide +kernel
theorem dX0_workOut_78 : decode cX0_workOut 78 = .ok (.iload 7, 2) := by decide +kernel
theorem dX0_workOut_80 : decode cX0_workOut 80 = .ok (.ishl, 1) := by decide +kernel
theorem dX0_workOut_81 : decode cX0_workOut 81 = .ok (.iconst (-1), 1) := by decide +kernel
theorem dX0_workOut_82 : decode cX0_workOut 82 = .ok (.ixor, 1) := by decide +kernel
theorem dX0_workOut_83 : decode cX0_workOut 83 = .ok (.iand, 1) := by decide +kernel
theorem dX0_workOut_84 : decode cX0_workOut 84 = .ok (.invokevirtual 39, 3) := by decide +kernel
theorem dX0_workOut_87 : decode cX0_workOut 87 = .ok (.iconst 1, 1) := by decide +kernel
theorem dX0_workOut_88 : decode cX0_workOut 88 = .ok (.iconst 0, 1) := by decide +kernel
theorem dX0_workOut_89 : decode cX0_workOut 89 = .ok (.iload 8, 2) := by decide +kernel
theorem dX0_workOut_91 : decode cX0_workOut 91 = .ok (.iload 8, 2) := by decide +kernel
theorem dX0_workOut_93 : decode cX0_workOut 93 = .ok (.invokestatic 43, 3) := by decide +kernel
theorem dX0_workOut_96 : decode cX0_workOut 96 = .ok (.ladd, 1) := by decide +kernel
theorem dX0_workOut_97 : decode cX0_workOut 97 = .ok (.invokestatic 61, 3) := by decide +kernel
theorem dX0_workOut_100 : decode cX0_workOut 100 = .ok (.lstore 4, 2) := by decide +kernel
theorem dX0_workOut_102 : decode cX0_workOut 102 = .ok (.iinc 7 1, 3) := by decide +kernel
theorem dX0_workOut_105 : decode cX0_workOut 105 = .ok (.goto (-61), 3) := by decide +kernel
theorem dX0_workOut_108 : decode cX0_workOut 108 = .ok (.lload 4, 2) := by decide +kernel
theorem dX0_workOut_110 : decode cX0_workOut 110 = .ok (.lreturn, 1) := by decide +kernel
theorem dX0_both_0 : decode cX0_both 0 = .ok (.lload_n 0, 1) := by decide +kernel
theorem dX0_both_1 : decode cX0_both 1 = .ok (.invokestatic 65, 3) := by decide +kernel
theorem dX0_both_4 : decode cX0_both 4 = .ok (.lload_n 2, 1) := by decide +kernel
theorem dX0_both_5 : decode cX0_both 5 = .ok (.invokestatic 65, 3) := by decide +kernel
theorem dX0_both_8 : decode cX0_both 8 = .ok (.if_icmp .eq 20, 3) := by decide +kernel
theorem dX0_both_11 : decode cX0_both 11 = .ok (.lload_n 0, 1) := by decide +kernel
theorem dX0_both_12 : decode cX0_both 12 = .ok (.invokestatic 65, 3) := by decide +kernel
theorem dX0_both_15 : decode cX0_both 15 = .ok (.lload_n 2, 1) := by decide +kernel
theorem dX0_both_16 : decode cX0_both 16 = .ok (.invokestatic 65, 3) := by decide +kernel
theorem dX0_both_19 : decode cX0_both 19 = .ok (.if_icmp .le 7, 3) := by decide +kernel
theorem dX0_both_22 : decode cX0_both 22 = .ok (.lload_n 0, 1) := by decide +kernel
theorem dX0_both_23 : decode cX0_both 23 = .ok (.goto 4, 3) := by decide +kernel
theorem dX0_both_26 : decode cX0_both 26 = .ok (.lload_n 2, 1) := by decide +kernel
theorem dX0_both_27 : decode cX0_both 27 = .ok (.lreturn, 1) := by decide +kernel
theorem dX0_both_28 : decode cX0_both 28 = .ok (.lload_n 0, 1) := by decide +kernel
theorem dX0_both_29 : decode cX0_both 29 = .ok (.invokestatic 65, 3) := by decide +kernel
theorem dX0_both_32 : decode cX0_both 32 = .ok (.lload_n 0, 1) := by decide +kernel
theorem dX0_both_33 : decode cX0_both 33 = .ok (.invokestatic 69, 3) := by decide +kernel
theorem dX0_both_36 : decode cX0_both 36 = .ok (.lload_n 2, 1) := by decide +kernel
theorem dX0_both_37 : decode cX0_both 37 = .ok (.invokestatic 69, 3) := by decide +kernel
theorem dX0_both_40 : decode cX0_both 40 = .ok (.iadd, 1) := by decide +kernel
theorem dX0_both_41 : decode cX0_both 41 = .ok (.lload_n 0, 1) := by decide +kernel
theorem dX0_both_42 : decode cX0_both 42 = .ok (.invokestatic 72, 3) := by decide +kernel
theorem dX0_both_45 : decode cX0_both 45 = .ok (.lload_n 2, 1) := by decide +kernel
theorem dX0_both_46 : decode cX0_both 46 = .ok (.invokestatic 72, 3) := by decide +kernel
theorem dX0_both_49 : decode cX0_both 49 = .ok (.invokestatic 75, 3) := by decide +kernel
theorem dX0_both_52 : decode cX0_both 52 = .ok (.lload_n 0, 1) := by decide +kernel
theorem dX0_both_53 : decode cX0_both 53 = .ok (.invokestatic 80, 3) := by decide +kernel
theorem dX0_both_56 : decode cX0_both 56 = .ok (.lload_n 2, 1) := by decide +kernel
theorem dX0_both_57 : decode cX0_both 57 = .ok (.invokestatic 80, 3) := by decide +kernel
theorem dX0_both_60 : decode cX0_both 60 = .ok (.invokestatic 83, 3) := by decide +kernel
theorem dX0_both_63 : decode cX0_both 63 = .ok (.invokestatic 43, 3) := by decide +kernel
theorem dX0_both_66 : decode cX0_both 66 = .ok (.lreturn, 1) := by decide +kernel
theorem dX0_pack_0 : decode cX0_pack 0 = .ok (.iload_n 0, 1) := by decide +kernel
theorem dX0_pack_1 : decode cX0_pack 1 = .ok (.i2l, 1) := by decide +kernel
theorem dX0_pack_2 : decode cX0_pack 2 = .ok (.bipush 48, 2) := by decide +kernel
theorem dX0_pack_4 : decode cX0_pack 4 = .ok (.lshl, 1) := by decide +kernel
theorem dX0_pack_5 : decode cX0_pack 5 = .ok (.iload_n 1, 1) := by decide +kernel
theorem dX0_pack_6 : decode cX0_pack 6 = .ok (.i2l, 1) := by decide +kernel
theorem dX0_pack_7 : decode cX0_pack 7 = .ok (.bipush 32, 2) := by decide +kernel
theorem dX0_pack_9 : decode cX0_pack 9 = .ok (.lshl, 1) := by decide +kernel
theorem dX0_pack_10 : decode cX0_pack 10 = .ok (.lor, 1) := by decide +kernel
theorem dX0_pack_11 : decode cX0_pack 11 = .ok (.iload_n 2, 1) := by decide +kernel
theorem dX0_pack_12 : decode cX0_pack 12 = .ok (.i2l, 1) := by decide +kernel
theorem dX0_pack_13 : decode cX0_pack 13 = .ok (.bipush 16, 2) := by decide +kernel
theorem dX0_pack_15 : decode cX0_pack 15 = .ok (.lshl, 1) := by decide +kernel
theorem dX0_pack_16 : decode cX0_pack 16 = .ok (.lor, 1) := by decide +kernel
theorem dX0_pack_17 : decode cX0_pack 17 = .ok (.iload_n 3, 1) := by decide +kernel
theorem dX0_pack_18 : decode cX0_pack 18 = .ok (.i2l, 1) := by decide +kernel
theorem dX0_pack_19 : decode cX0_pack 19 = .ok (.lor, 1) := by decide +kernel
theorem dX0_pack_20 : decode cX0_pack 20 = .ok (.lreturn, 1) := by decide +kernel
theorem dX0_sizeIn_0 : decode cX0_sizeIn 0 = .ok (.lload_n 0, 1) := by decide +kernel
theorem dX0_sizeIn_1 : decode cX0_sizeIn 1 = .ok (.bipush 48, 2) := by decide +kernel
theorem dX0_sizeIn_3 : decode cX0_sizeIn 3 = .ok (.lshr, 1) := by decide +kernel
theorem dX0_sizeIn_4 : decode cX0_sizeIn 4 = .ok (.ldc2_w 86, 3) := by decide +kernel
theorem dX0_sizeIn_7 : decode cX0_sizeIn 7 = .ok (.land, 1) := by decide +kernel
theorem dX0_sizeIn_8 : decode cX0_sizeIn 8 = .ok (.l2i, 1) := by decide +kernel
theorem dX0_sizeIn_9 : decode cX0_sizeIn 9 = .ok (.ireturn, 1) := by decide +kernel
theorem dX0_countIn_0 : decode cX0_countIn 0 = .ok (.lload_n 0, 1) := by decide +kernel
theorem dX0_countIn_1 : decode cX0_countIn 1 = .ok (.bipush 32, 2) := by decide +kernel
theorem dX0_countIn_3 : decode cX0_countIn 3 = .ok (.lshr, 1) := by decide +kernel
theorem dX0_countIn_4 : decode cX0_countIn 4 = .ok (.ldc2_w 86, 3) := by decide +kernel
theorem dX0_countIn_7 : decode cX0_countIn 7 = .ok (.land, 1) := by decide +kernel
theorem dX0_countIn_8 : decode cX0_countIn 8 = .ok (.l2i, 1) := by decide +kernel
theorem dX0_countIn_9 : decode cX0_countIn 9 = .ok (.ireturn, 1) := by decide +kernel
theorem dX0_heaviestIn_0 : decode cX0_heaviestIn 0 = .ok (.lload_n 0, 1) := by decide +kernel
theorem dX0_heaviestIn_1 : decode cX0_heaviestIn 1 = .ok (.bipush 16, 2) := by decide +kernel
theorem dX0_heaviestIn_3 : decode cX0_heaviestIn 3 = .ok (.lshr, 1) := by decide +kernel
theorem dX0_heaviestIn_4 : decode cX0_heaviestIn 4 = .ok (.ldc2_w 86, 3) := by decide +kernel
theorem dX0_heaviestIn_7 : decode cX0_heaviestIn 7 = .ok (.land, 1) := by decide +kernel
theorem dX0_heaviestIn_8 : decode cX0_heaviestIn 8 = .ok (.l2i, 1) := by decide +kernel
theorem dX0_heaviestIn_9 : decode cX0_heaviestIn 9 = .ok (.ireturn, 1) := by decide +kernel
theorem dX0_lightestIn_0 : decode cX0_lightestIn 0 = .ok (.lload_n 0, 1) := by decide +kernel
theorem dX0_lightestIn_1 : decode cX0_lightestIn 1 = .ok (.ldc2_w 86, 3) := by decide +kernel
theorem dX0_lightestIn_4 : decode cX0_lightestIn 4 = .ok (.land, 1) := by decide +kernel
theorem dX0_lightestIn_5 : decode cX0_lightestIn 5 = .ok (.l2i, 1) := by decide +kernel
theorem dX0_lightestIn_6 : decode cX0_lightestIn 6 = .ok (.ireturn, 1) := by decide +kernel
theorem dX0_size_0 : decode cX0_size 0 = .ok (.aload_n 0, 1) := by decide +kernel
theorem dX0_size_1 : decode cX0_size 1 = .ok (.aload_n 0, 1) := by decide +kernel
theorem dX0_size_2 : decode cX0_size 2 = .ok (.getfield 23, 3) := by decide +kernel
theorem dX0_size_5 : decode cX0_size 5 = .ok (.invokevirtual 88, 3) := by decide +kernel
theorem dX0_size_8 : decode cX0_size 8 = .ok (.invokevirtual 92, 3) := by decide +kernel
theorem dX0_size_11 : decode cX0_size 11 = .ok (.invokestatic 65, 3) := by decide +kernel
theorem dX0_size_14 : decode cX0_size 14 = .ok (.ireturn, 1) := by decide +kernel
theorem dX0_missing_0 : decode cX0_missing 0 = .ok (.aload_n 0, 1) := by decide +kernel
theorem dX0_missing_1 : decode cX0_missing 1 = .ok (.getfield 23, 3) := by decide +kernel
theorem dX0_missing_4 : decode cX0_missing 4 = .ok (.getfield 33, 3) := by decide +kernel
theorem dX0_missing_7 : decode cX0_missing 7 = .ok (.iconst 2, 1) := by decide +kernel
theorem dX0_missing_8 : decode cX0_missing 8 = .ok (.aload_n 0, 1) := by decide +kernel
theorem dX0_missing_9 : decode cX0_missing 9 = .ok (.invokevirtual 96, 3) := by decide +kernel
theorem dX0_missing_12 : decode cX0_missing 12 = .ok (.imul, 1) := by decide +kernel
theorem dX0_missing_13 : decode cX0_missing 13 = .ok (.isub, 1) := by decide +kernel
theorem dX0_missing_14 : decode cX0_missing 14 = .ok (.ireturn, 1) := by decide +kernel
theorem dX0_count_0 : decode cX0_count 0 = .ok (.aload_n 0, 1) := by decide +kernel
theorem dX0_count_1 : decode cX0_count 1 = .ok (.aload_n 0, 1) := by decide +kernel
theorem dX0_count_2 : decode cX0_count 2 = .ok (.getfield 23, 3) := by decide +kernel
theorem dX0_count_5 : decode cX0_count 5 = .ok (.invokevirtual 88, 3) := by decide +kernel
theorem dX0_count_8 : decode cX0_count 8 = .ok (.invokevirtual 92, 3) := by decide +kernel
theorem dX0_count_11 : decode cX0_count 11 = .ok (.invokestatic 69, 3) := by decide +kernel
theorem dX0_count_14 : decode cX0_count 14 = .ok (.ireturn, 1) := by decide +kernel
theorem dX0_mostWeight_0 : decode cX0_mostWeight 0 = .ok (.aload_n 0, 1) := by decide +kernel
theorem dX0_mostWeight_1 : decode cX0_mostWeight 1 = .ok (.aload_n 0, 1) := by decide +kernel
theorem dX0_mostWeight_2 : decode cX0_mostWeight 2 = .ok (.getfield 23, 3) := by decide +kernel
theorem dX0_mostWeight_5 : decode cX0_mostWeight 5 = .ok (.invokevirtual 88, 3) := by decide +kernel
theorem dX0_mostWeight_8 : decode cX0_mostWeight 8 = .ok (.invokevirtual 92, 3) := by decide +kernel
theorem dX0_mostWeight_11 : decode cX0_mostWeight 11 = .ok (.invokestatic 72, 3) := by decide +kernel
theorem dX0_mostWeight_14 : decode cX0_mostWeight 14 = .ok (.ireturn, 1) := by decide +kernel
theorem dX0_leastWeight_0 : decode cX0_leastWeight 0 = .ok (.aload_n 0, 1) := by decide +kernel
theorem dX0_leastWeight_1 : decode cX0_leastWeight 1 = .ok (.aload_n 0, 1) := by decide +kernel
theorem dX0_leastWeight_2 : decode cX0_leastWeight 2 = .ok (.getfield 23, 3) := by decide +kernel
theorem dX0_leastWeight_5 : decode cX0_leastWeight 5 = .ok (.invokevirtual 88, 3) := by decide +kernel
theorem dX0_leastWeight_8 : decode cX0_leastWeight 8 = .ok (.invokevirtual 92, 3) := by decide +kernel
theorem dX0_leastWeight_11 : decode cX0_leastWeight 11 = .ok (.invokestatic 80, 3) := by decide +kernel
theorem dX0_leastWeight_14 : decode cX0_leastWeight 14 = .ok (.ireturn, 1) := by decide +kernel
theorem dX0_someHave_0 : decode cX0_someHave 0 = .ok (.aload_n 0, 1) := by decide +kernel
theorem dX0_someHave_1 : decode cX0_someHave 1 = .ok (.getfield 23, 3) := by decide +kernel
theorem dX0_someHave_4 : decode cX0_someHave 4 = .ok (.iload_n 1, 1) := by decide +kernel
theorem dX0_someHave_5 : decode cX0_someHave 5 = .ok (.iload_n 2, 1) := by decide +kernel
theorem dX0_someHave_6 : decode cX0_someHave 6 = .ok (.invokevirtual 99, 3) := by decide +kernel
theorem dX0_someHave_9 : decode cX0_someHave 9 = .ok (.ifCond .eq 29, 3) := by decide +kernel
theorem dX0_someHave_12 : decode cX0_someHave 12 = .ok (.aload_n 0, 1) := by decide +kernel
theorem dX0_someHave_13 : decode cX0_someHave 13 = .ok (.aload_n 0, 1) := by decide +kernel
theorem dX0_someHave_14 : decode cX0_someHave 14 = .ok (.iload_n 1, 1) := by decide +kernel
theorem dX0_someHave_15 : decode cX0_someHave 15 = .ok (.iload_n 2, 1) := by decide +kernel
theorem dX0_someHave_16 : decode cX0_someHave 16 = .ok (.invokevirtual 102, 3) := by decide +kernel
theorem dX0_someHave_19 : decode cX0_someHave 19 = .ok (.invokevirtual 92, 3) := by decide +kernel
theorem dX0_someHave_22 : decode cX0_someHave 22 = .ok (.invokestatic 65, 3) := by decide +kernel
theorem dX0_someHave_25 : decode cX0_someHave 25 = .ok (.iconst 1, 1) := by decide +kernel
theorem dX0_someHave_26 : decode cX0_someHave 26 = .ok (.iadd, 1) := by decide +kernel
theorem dX0_someHave_27 : decode cX0_someHave 27 = .ok (.aload_n 0, 1) := by decide +kernel
theorem dX0_someHave_28 : decode cX0_someHave 28 = .ok (.invokevirtual 96, 3) := by decide +kernel
theorem dX0_someHave_31 : decode cX0_someHave 31 = .ok (.if_icmp .ne 7, 3) := by decide +kernel
theorem dX0_someHave_34 : decode cX0_someHave 34 = .ok (.iconst 1, 1) := by decide +kernel
theorem dX0_someHave_35 : decode cX0_someHave 35 = .ok (.goto 4, 3) := by decide +kernel
theorem dX0_someHave_38 : decode cX0_someHave 38 = .ok (.iconst 0, 1) := by decide +kernel
theorem dX0_someHave_39 : decode cX0_someHave 39 = .ok (.ireturn, 1) := by decide +kernel
theorem dX0_allHave_0 : decode cX0_allHave 0 = .ok (.aload_n 0, 1) := by decide +kernel
theorem dX0_allHave_1 : decode cX0_allHave 1 = .ok (.iload_n 1, 1) := by decide +kernel
theorem dX0_allHave_2 : decode cX0_allHave 2 = .ok (.iload_n 2, 1) := by decide +kernel
theorem dX0_allHave_3 : decode cX0_allHave 3 = .ok (.invokevirtual 105, 3) := by decide +kernel
theorem dX0_allHave_6 : decode cX0_allHave 6 = .ok (.ifCond .eq 27, 3) := by decide +kernel
theorem dX0_allHave_9 : decode cX0_allHave 9 = .ok (.aload_n 0, 1) := by decide +kernel
theorem dX0_allHave_10 : decode cX0_allHave 10 = .ok (.aload_n 0, 1) := by decide +kernel
theorem dX0_allHave_11 : decode cX0_allHave 11 = .ok (.iload_n 1, 1) := by decide +kernel
theorem dX0_allHave_12 : decode cX0_allHave 12 = .ok (.iload_n 2, 1) := by decide +kernel
theorem dX0_allHave_13 : decode cX0_allHave 13 = .ok (.invokevirtual 102, 3) := by decide +kernel
theorem dX0_allHave_16 : decode cX0_allHave 16 = .ok (.invokevirtual 92, 3) := by decide +kernel
theorem dX0_allHave_19 : decode cX0_allHave 19 = .ok (.invokestatic 69, 3) := by decide +kernel
theorem dX0_allHave_22 : decode cX0_allHave 22 = .ok (.aload_n 0, 1) := by decide +kernel
theorem dX0_allHave_23 : decode cX0_allHave 23 = .ok (.invokevirtual 108, 3) := by decide +kernel
theorem dX0_allHave_26 : decode cX0_allHave 26 = .ok (.if_icmp .ne 7, 3) := by decide +kernel
theorem dX0_allHave_29 : decode cX0_allHave 29 = .ok (.iconst 1, 1) := by decide +kernel
theorem dX0_allHave_30 : decode cX0_allHave 30 = .ok (.goto 4, 3) := by decide +kernel
theorem dX0_allHave_33 : decode cX0_allHave 33 = .ok (.iconst 0, 1) := by decide +kernel
theorem dX0_allHave_34 : decode cX0_allHave 34 = .ok (.ireturn, 1) := by decide +kernel
theorem dX0_without_0 : decode cX0_without 0 = .ok (.aload_n 0, 1) := by decide +kernel
theorem dX0_without_1 : decode cX0_without 1 = .ok (.getfield 23, 3) := by decide +kernel
theorem dX0_without_4 : decode cX0_without 4 = .ok (.invokevirtual 88, 3) := by decide +kernel
theorem dX0_without_7 : decode cX0_without 7 = .ok (.iconst 1, 1) := by decide +kernel
theorem dX0_without_8 : decode cX0_without 8 = .ok (.iload_n 1, 1) := by decide +kernel
theorem dX0_without_9 : decode cX0_without 9 = .ok (.ishl, 1) := by decide +kernel
theorem dX0_without_10 : decode cX0_without 10 = .ok (.iconst 1, 1) := by decide +kernel
theorem dX0_without_11 : decode cX0_without 11 = .ok (.iload_n 2, 1) := by decide +kernel
theorem dX0_without_12 : decode cX0_without 12 = .ok (.ishl, 1) := by decide +kernel
theorem dX0_without_13 : decode cX0_without 13 = .ok (.ior, 1) := by decide +kernel
theorem dX0_without_14 : decode cX0_without 14 = .ok (.iconst (-1), 1) := by decide +kernel
theorem dX0_without_15 : decode cX0_without 15 = .ok (.ixor, 1) := by decide +kernel
theorem dX0_without_16 : decode cX0_without 16 = .ok (.iand, 1) := by decide +kernel
theorem dX0_without_17 : decode cX0_without 17 = .ok (.ireturn, 1) := by decide +kernel
theorem dX0_bitsOfSet_0 : decode cX0_bitsOfSet 0 = .ok (.iconst 0, 1) := by decide +kernel
theorem dX0_bitsOfSet_1 : decode cX0_bitsOfSet 1 = .ok (.istore_n 2, 1) := by decide +kernel
theorem dX0_bitsOfSet_2 : decode cX0_bitsOfSet 2 = .ok (.iconst 0, 1) := by decide +kernel
theorem dX0_bitsOfSet_3 : decode cX0_bitsOfSet 3 = .ok (.istore_n 3, 1) := by decide +kernel
theorem dX0_bitsOfSet_4 : decode cX0_bitsOfSet 4 = .ok (.iload_n 3, 1) := by decide +kernel
theorem dX0_bitsOfSet_5 : decode cX0_bitsOfSet 5 = .ok (.aload_n 0, 1) := by decide +kernel
theorem dX0_bitsOfSet_6 : decode cX0_bitsOfSet 6 = .ok (.getfield 23, 3) := by decide +kernel
theorem dX0_bitsOfSet_9 : decode cX0_bitsOfSet 9 = .ok (.getfield 33, 3) := by decide +kernel
theorem dX0_bitsOfSet_12 : decode cX0_bitsOfSet 12 = .ok (.if_icmp .ge 42, 3) := by decide +kernel
theorem dX0_bitsOfSet_15 : decode cX0_bitsOfSet 15 = .ok (.aload_n 0, 1) := by decide +kernel
theorem dX0_bitsOfSet_16 : decode cX0_bitsOfSet 16 = .ok (.aload_n 0, 1) := by decide +kernel
theorem dX0_bitsOfSet_17 : decode cX0_bitsOfSet 17 = .ok (.getfield 23, 3) := by decide +kernel
theorem dX0_bitsOfSet_20 : decode cX0_bitsOfSet 20 = .ok (.invokevirtual 88, 3) := by decide +kernel
theorem dX0_bitsOfSet_23 : decode cX0_bitsOfSet 23 = .ok (.iconst 1, 1) := by decide +kernel
theorem dX0_bitsOfSet_24 : decode cX0_bitsOfSet 24 = .ok (.iload_n 3, 1) := by decide +kernel
theorem dX0_bitsOfSet_25 : decode cX0_bitsOfSet 25 = .ok (.ishl, 1) := by decide +kernel
theorem dX0_bitsOfSet_26 : decode cX0_bitsOfSet 26 = .ok (.iconst (-1), 1) := by decide +kernel
theorem dX0_bitsOfSet_27 : decode cX0_bitsOfSet 27 = .ok (.ixor, 1) := by decide +kernel
theorem dX0_bitsOfSet_28 : decode cX0_bitsOfSet 28 = .ok (.iand, 1) := by decide +kernel
theorem dX0_bitsOfSet_29 : decode cX0_bitsOfSet 29 = .ok (.invokevirtual 92, 3) := by decide +kernel
theorem dX0_bitsOfSet_32 : decode cX0_bitsOfSet 32 = .ok (.invokestatic 65, 3) := by decide +kernel
theorem dX0_bitsOfSet_35 : decode cX0_bitsOfSet 35 = .ok (.aload_n 0, 1) := by decide +kernel
theorem dX0_bitsOfSet_36 : decode cX0_bitsOfSet 36 = .ok (.invokevirtual 96, 3) := by decide +kernel
theorem dX0_bitsOfSet_39 : decode cX0_bitsOfSet 39 = .ok (.if_icmp .ne 9, 3) := by decide +kernel
theorem dX0_bitsOfSet_42 : decode cX0_bitsOfSet 42 = .ok (.iload_n 2, 1) := by decide +kernel
theorem dX0_bitsOfSet_43 : decode cX0_bitsOfSet 43 = .ok (.iconst 1, 1) := by decide +kernel
theorem dX0_bitsOfSet_44 : decode cX0_bitsOfSet 44 = .ok (.iload_n 3, 1) := by decide +kernel
theorem dX0_bitsOfSet_45 : decode cX0_bitsOfSet 45 = .ok (.ishl, 1) := by decide +kernel
theorem dX0_bitsOfSet_46 : decode cX0_bitsOfSet 46 = .ok (.ior, 1) := by decide +kernel
theorem dX0_bitsOfSet_47 : decode cX0_bitsOfSet 47 = .ok (.istore_n 2, 1) := by decide +kernel
theorem dX0_bitsOfSet_48 : decode cX0_bitsOfSet 48 = .ok (.iinc 3 1, 3) := by decide +kernel
theorem dX0_bitsOfSet_51 : decode cX0_bitsOfSet 51 = .ok (.goto (-47), 3) := by decide +kernel
theorem dX0_bitsOfSet_54 : decode cX0_bitsOfSet 54 = .ok (.iconst 0, 1) := by decide +kernel
theorem dX0_bitsOfSet_55 : decode cX0_bitsOfSet 55 = .ok (.istore_n 3, 1) := by decide +kernel
theorem dX0_bitsOfSet_56 : decode cX0_bitsOfSet 56 = .ok (.iconst 0, 1) := by decide +kernel
theorem dX0_bitsOfSet_57 : decode cX0_bitsOfSet 57 = .ok (.istore 4, 2) := by decide +kernel
theorem dX0_bitsOfSet_59 : decode cX0_bitsOfSet 59 = .ok (.iload 4, 2) := by decide +kernel
theorem dX0_bitsOfSet_61 : decode cX0_bitsOfSet 61 = .ok (.aload_n 0, 1) := by decide +kernel
theorem dX0_bitsOfSet_62 : decode cX0_bitsOfSet 62 = .ok (.getfield 23, 3) := by decide +kernel
theorem dX0_bitsOfSet_65 : decode cX0_bitsOfSet 65 = .ok (.getfield 33, 3) := by decide +kernel
theorem dX0_bitsOfSet_68 : decode cX0_bitsOfSet 68 = .ok (.if_icmp .ge 40, 3) := by decide +kernel
theorem dX0_bitsOfSet_71 : decode cX0_bitsOfSet 71 = .ok (.iload_n 2, 1) := by decide +kernel
theorem dX0_bitsOfSet_72 : decode cX0_bitsOfSet 72 = .ok (.iload 4, 2) := by decide +kernel
theorem dX0_bitsOfSet_74 : decode cX0_bitsOfSet 74 = .ok (.invokestatic 50, 3) := by decide +kernel
theorem dX0_bitsOfSet_77 : decode cX0_bitsOfSet 77 = .ok (.ifCond .ne 25, 3) := by decide +kernel
theorem dX0_bitsOfSet_80 : decode cX0_bitsOfSet 80 = .ok (.aload_n 0, 1) := by decide +kernel
theorem dX0_bitsOfSet_81 : decode cX0_bitsOfSet 81 = .ok (.getfield 23, 3) := by decide +kernel
theorem dX0_bitsOfSet_84 : decode cX0_bitsOfSet 84 = .ok (.getfield 54, 3) := by decide +kernel
theorem dX0_bitsOfSet_87 : decode cX0_bitsOfSet 87 = .ok (.iload 4, 2) := by decide +kernel
theorem dX0_bitsOfSet_89 : decode cX0_bitsOfSet 89 = .ok (.iaload, 1) := by decide +kernel
theorem dX0_bitsOfSet_90 : decode cX0_bitsOfSet 90 = .ok (.iload_n 2, 1) := by decide +kernel
theorem dX0_bitsOfSet_91 : decode cX0_bitsOfSet 91 = .ok (.iand, 1) := by decide +kernel
theorem dX0_bitsOfSet_92 : decode cX0_bitsOfSet 92 = .ok (.ifCond .eq 10, 3) := by decide +kernel
theorem dX0_bitsOfSet_95 : decode cX0_bitsOfSet 95 = .ok (.iload_n 3, 1) := by decide +kernel
theorem dX0_bitsOfSet_96 : decode cX0_bitsOfSet 96 = .ok (.iconst 1, 1) := by decide +kernel
theorem dX0_bitsOfSet_97 : decode cX0_bitsOfSet 97 = .ok (.iload 4, 2) := by decide +kernel
theorem dX0_bitsOfSet_99 : decode cX0_bitsOfSet 99 = .ok (.ishl, 1) := by decide +kernel
theorem dX0_bitsOfSet_100 : decode cX0_bitsOfSet 100 = .ok (.ior, 1) := by decide +kernel
theorem dX0_bitsOfSet_101 : decode cX0_bitsOfSet 101 = .ok (.istore_n 3, 1) := by decide +kernel
theorem dX0_bitsOfSet_102 : decode cX0_bitsOfSet 102 = .ok (.iinc 4 1, 3) := by decide +kernel
theorem dX0_bitsOfSet_105 : decode cX0_bitsOfSet 105 = .ok (.goto (-46), 3) := by decide +kernel
theorem dX0_bitsOfSet_108 : decode cX0_bitsOfSet 108 = .ok (.iload_n 1, 1) := by decide +kernel
theorem dX0_bitsOfSet_109 : decode cX0_bitsOfSet 109 = .ok (.ifCond .ne 5, 3) := by decide +kernel
theorem dX0_bitsOfSet_112 : decode cX0_bitsOfSet 112 = .ok (.iload_n 2, 1) := by decide +kernel
theorem dX0_bitsOfSet_113 : decode cX0_bitsOfSet 113 = .ok (.ireturn, 1) := by decide +kernel
theorem dX0_bitsOfSet_114 : decode cX0_bitsOfSet 114 = .ok (.iload_n 1, 1) := by decide +kernel
theorem dX0_bitsOfSet_115 : decode cX0_bitsOfSet 115 = .ok (.iconst 1, 1) := by decide +kernel
theorem dX0_bitsOfSet_116 : decode cX0_bitsOfSet 116 = .ok (.if_icmp .ne 7, 3) := by decide +kernel
theorem dX0_bitsOfSet_119 : decode cX0_bitsOfSet 119 = .ok (.iload_n 3, 1) := by decide +kernel
theorem dX0_bitsOfSet_120 : decode cX0_bitsOfSet 120 = .ok (.goto 18, 3) := by decide +kernel
theorem dX0_bitsOfSet_123 : decode cX0_bitsOfSet 123 = .ok (.aload_n 0, 1) := by decide +kernel
theorem dX0_bitsOfSet_124 : decode cX0_bitsOfSet 124 = .ok (.getfield 23, 3) := by decide +kernel
theorem dX0_bitsOfSet_127 : decode cX0_bitsOfSet 127 = .ok (.invokevirtual 88, 3) := by decide +kernel
theorem dX0_bitsOfSet_130 : decode cX0_bitsOfSet 130 = .ok (.iload_n 2, 1) := by decide +kernel
theorem dX0_bitsOfSet_131 : decode cX0_bitsOfSet 131 = .ok (.iconst (-1), 1) := by decide +kernel
theorem dX0_bitsOfSet_132 : decode cX0_bitsOfSet 132 = .ok (.ixor, 1) := by decide +kernel
theorem dX0_bitsOfSet_133 : decode cX0_bitsOfSet 133 = .ok (.iand, 1) := by decide +kernel
theorem dX0_bitsOfSet_134 : decode cX0_bitsOfSet 134 = .ok (.iload_n 3, 1) := by decide +kernel
theorem dX0_bitsOfSet_135 : decode cX0_bitsOfSet 135 = .ok (.iconst (-1), 1) := by decide +kernel
theorem dX0_bitsOfSet_136 : decode cX0_bitsOfSet 136 = .ok (.ixor, 1) := by decide +kernel
theorem dX0_bitsOfSet_137 : decode cX0_bitsOfSet 137 = .ok (.iand, 1) := by decide +kernel
theorem dX0_bitsOfSet_138 : decode cX0_bitsOfSet 138 = .ok (.ireturn, 1) := by decide +kernel
theorem dX0_fillFirst_0 : decode cX0_fillFirst 0 = .ok (.aload_n 0, 1) := by decide +kernel
theorem dX0_fillFirst_1 : decode cX0_fillFirst 1 = .ok (.getfield 15, 3) := by decide +kernel
theorem dX0_fillFirst_4 : decode cX0_fillFirst 4 = .ok (.iconst (-1), 1) := by decide +kernel
theorem dX0_fillFirst_5 : decode cX0_fillFirst 5 = .ok (.invokestatic 111, 3) := by decide +kernel
theorem dX0_fillFirst_8 : decode cX0_fillFirst 8 = .ok (.aload_n 0, 1) := by decide +kernel
theorem dX0_fillFirst_9 : decode cX0_fillFirst 9 = .ok (.getfield 23, 3) := by decide +kernel
theorem dX0_fillFirst_12 : decode cX0_fillFirst 12 = .ok (.invokevirtual 88, 3) := by decide +kernel
theorem dX0_fillFirst_15 : decode cX0_fillFirst 15 = .ok (.istore_n 1, 1) := by decide +kernel
theorem dX0_fillFirst_16 : decode cX0_fillFirst 16 = .ok (.iconst 0, 1) := by decide +kernel
theorem dX0_fillFirst_17 : decode cX0_fillFirst 17 = .ok (.istore_n 2, 1) := by decide +kernel
theorem dX0_fillFirst_18 : decode cX0_fillFirst 18 = .ok (.iload_n 2, 1) := by decide +kernel
theorem dX0_fillFirst_19 : decode cX0_fillFirst 19 = .ok (.aload_n 0, 1) := by decide +kernel
theorem dX0_fillFirst_20 : decode cX0_fillFirst 20 = .ok (.getfield 23, 3) := by decide +kernel
theorem dX0_fillFirst_23 : decode cX0_fillFirst 23 = .ok (.getfield 33, 3) := by decide +kernel
theorem dX0_fillFirst_26 : decode cX0_fillFirst 26 = .ok (.if_icmp .ge 62, 3) := by decide +kernel
theorem dX0_fillFirst_29 : decode cX0_fillFirst 29 = .ok (.iload_n 1, 1) := by decide +kernel
theorem dX0_fillFirst_30 : decode cX0_fillFirst 30 = .ok (.iload_n 2, 1) := by decide +kernel
theorem dX0_fillFirst_31 : decode cX0_fillFirst 31 = .ok (.invokestatic 50, 3) := by decide +kernel
theorem dX0_fillFirst_34 : decode cX0_fillFirst 34 = .ok (.ifCond .ne 6, 3) := by decide +kernel
theorem dX0_fillFirst_37 : decode cX0_fillFirst 37 = .ok (.goto 45, 3) := by decide +kernel
theorem dX0_fillFirst_40 : decode cX0_fillFirst 40 = .ok (.aload_n 0, 1) := by decide +kernel
theorem dX0_fillFirst_41 : decode cX0_fillFirst 41 = .ok (.iload_n 2, 1) := by decide +kernel
theorem dX0_fillFirst_42 : decode cX0_fillFirst 42 = .ok (.iload_n 1, 1) := by decide +kernel
theorem dX0_fillFirst_43 : decode cX0_fillFirst 43 = .ok (.invokevirtual 114, 3) := by decide +kernel
theorem dX0_fillFirst_46 : decode cX0_fillFirst 46 = .ok (.istore_n 3, 1) := by decide +kernel
theorem dX0_fillFirst_47 : decode cX0_fillFirst 47 = .ok (.iload_n 1, 1) := by decide +kernel
theorem dX0_fillFirst_48 : decode cX0_fillFirst 48 = .ok (.iconst 1, 1) := by decide +kernel
theorem dX0_fillFirst_49 : decode cX0_fillFirst 49 = .ok (.iload_n 2, 1) := by decide +kernel
theorem dX0_fillFirst_50 : decode cX0_fillFirst 50 = .ok (.ishl, 1) := by decide +kernel
theorem dX0_fillFirst_51 : decode cX0_fillFirst 51 = .ok (.iconst (-1), 1) := by decide +kernel
theorem dX0_fillFirst_52 : decode cX0_fillFirst 52 = .ok (.ixor, 1) := by decide +kernel
theorem dX0_fillFirst_53 : decode cX0_fillFirst 53 = .ok (.iand, 1) := by decide +kernel
theorem dX0_fillFirst_54 : decode cX0_fillFirst 54 = .ok (.istore_n 1, 1) := by decide +kernel
theorem dX0_fillFirst_55 : decode cX0_fillFirst 55 = .ok (.iload_n 3, 1) := by decide +kernel
theorem dX0_fillFirst_56 : decode cX0_fillFirst 56 = .ok (.iconst (-1), 1) := by decide +kernel
theorem dX0_fillFirst_57 : decode cX0_fillFirst 57 = .ok (.if_icmp .eq 25, 3) := by decide +kernel
theorem dX0_fillFirst_60 : decode cX0_fillFirst 60 = .ok (.aload_n 0, 1) := by decide +kernel
theorem dX0_fillFirst_61 : decode cX0_fillFirst 61 = .ok (.getfield 15, 3) := by decide +kernel
theorem dX0_fillFirst_64 : decode cX0_fillFirst 64 = .ok (.iload_n 2, 1) := by decide +kernel
theorem dX0_fillFirst_65 : decode cX0_fillFirst 65 = .ok (.iload_n 3, 1) := by decide +kernel
theorem dX0_fillFirst_66 : decode cX0_fillFirst 66 = .ok (.iastore, 1) := by decide +kernel
theorem dX0_fillFirst_67 : decode cX0_fillFirst 67 = .ok (.aload_n 0, 1) := by decide +kernel
theorem dX0_fillFirst_68 : decode cX0_fillFirst 68 = .ok (.getfield 15, 3) := by decide +kernel
theorem dX0_fillFirst_71 : decode cX0_fillFirst 71 = .ok (.iload_n 3, 1) := by decide +kernel
theorem dX0_fillFirst_72 : decode cX0_fillFirst 72 = .ok (.iload_n 2, 1) := by decide +kernel
theorem dX0_fillFirst_73 : decode cX0_fillFirst 73 = .ok (.iastore, 1) := by decide +kernel
theorem dX0_fillFirst_74 : decode cX0_fillFirst 74 = .ok (.iload_n 1, 1) := by decide +kernel
theorem dX0_fillFirst_75 : decode cX0_fillFirst 75 = .ok (.iconst 1, 1) := by decide +kernel
theorem dX0_fillFirst_76 : decode cX0_fillFirst 76 = .ok (.iload_n 3, 1) := by decide +kernel
theorem dX0_fillFirst_77 : decode cX0_fillFirst 77 = .ok (.ishl, 1) := by decide +kernel
theorem dX0_fillFirst_78 : decode cX0_fillFirst 78 = .ok (.iconst (-1), 1) := by decide +kernel
theorem dX0_fillFirst_79 : decode cX0_fillFirst 79 = .ok (.ixor, 1) := by decide +kernel
theorem dX0_fillFirst_80 : decode cX0_fillFirst 80 = .ok (.iand, 1) := by decide +kernel
theorem dX0_fillFirst_81 : decode cX0_fillFirst 81 = .ok (.istore_n 1, 1) := by decide +kernel
theorem dX0_fillFirst_82 : decode cX0_fillFirst 82 = .ok (.iinc 2 1, 3) := by decide +kernel
theorem dX0_fillFirst_85 : decode cX0_fillFirst 85 = .ok (.goto (-67), 3) := by decide +kernel
theorem dX0_fillFirst_88 : decode cX0_fillFirst 88 = .ok (.return_, 1) := by decide +kernel
theorem dX0_firstMate_0 : decode cX0_firstMate 0 = .ok (.iload_n 1, 1) := by decide +kernel
theorem dX0_firstMate_1 : decode cX0_firstMate 1 = .ok (.iconst 1, 1) := by decide +kernel
theorem dX0_firstMate_2 : decode cX0_firstMate 2 = .ok (.iadd, 1) := by decide +kernel
theorem dX0_firstMate_3 : decode cX0_firstMate 3 = .ok (.istore_n 3, 1) := by decide +kernel
theorem dX0_firstMate_4 : decode cX0_firstMate 4 = .ok (.iload_n 3, 1) := by decide +kernel
theorem dX0_firstMate_5 : decode cX0_firstMate 5 = .ok (.aload_n 0, 1) := by decide +kernel
theorem dX0_firstMate_6 : decode cX0_firstMate 6 = .ok (.getfield 23, 3) := by decide +kernel
theorem dX0_firstMate_9 : decode cX0_firstMate 9 = .ok (.getfield 33, 3) := by decide +kernel
theorem dX0_firstMate_12 : decode cX0_firstMate 12 = .ok (.if_icmp .ge 62, 3) := by decide +kernel
theorem dX0_firstMate_15 : decode cX0_firstMate 15 = .ok (.iload_n 2, 1) := by decide +kernel
theorem dX0_firstMate_16 : decode cX0_firstMate 16 = .ok (.iload_n 3, 1) := by decide +kernel
theorem dX0_firstMate_17 : decode cX0_firstMate 17 = .ok (.invokestatic 50, 3) := by decide +kernel
theorem dX0_firstMate_20 : decode cX0_firstMate 20 = .ok (.ifCond .eq 48, 3) := by decide +kernel
theorem dX0_firstMate_23 : decode cX0_firstMate 23 = .ok (.aload_n 0, 1) := by decide +kernel
theorem dX0_firstMate_24 : decode cX0_firstMate 24 = .ok (.getfield 23, 3) := by decide +kernel
theorem dX0_firstMate_27 : decode cX0_firstMate 27 = .ok (.iload_n 1, 1) := by decide +kernel
theorem dX0_firstMate_28 : decode cX0_firstMate 28 = .ok (.iload_n 3, 1) := by decide +kernel
theorem dX0_firstMate_29 : decode cX0_firstMate 29 = .ok (.invokevirtual 99, 3) := by decide +kernel
theorem dX0_firstMate_32 : decode cX0_firstMate 32 = .ok (.ifCond .eq 36, 3) := by decide +kernel
theorem dX0_firstMate_35 : decode cX0_firstMate 35 = .ok (.aload_n 0, 1) := by decide +kernel
theorem dX0_firstMate_36 : decode cX0_firstMate 36 = .ok (.iload_n 2, 1) := by decide +kernel
theorem dX0_firstMate_37 : decode cX0_firstMate 37 = .ok (.iconst 1, 1) := by decide +kernel
theorem dX0_firstMate_38 : decode cX0_firstMate 38 = .ok (.iload_n 1, 1) := by decide +kernel
theorem dX0_firstMate_39 : decode cX0_firstMate 39 = .ok (.ishl, 1) := by decide +kernel
theorem dX0_firstMate_40 : decode cX0_firstMate 40 = .ok (.iconst 1, 1) := by decide +kernel
theorem dX0_firstMate_41 : decode cX0_firstMate 41 = .ok (.iload_n 3, 1) := by decide +kernel
theorem dX0_firstMate_42 : decode cX0_firstMate 42 = .ok (.ishl, 1) := by decide +kernel
theorem dX0_firstMate_43 : decode cX0_firstMate 43 = .ok (.ior, 1) := by decide +kernel
theorem dX0_firstMate_44 : decode cX0_firstMate 44 = .ok (.iconst (-1), 1) := by decide +kernel
theorem dX0_firstMate_45 : decode cX0_firstMate 45 = .ok (.ixor, 1) := by decide +kernel
theorem dX0_firstMate_46 : decode cX0_firstMate 46 = .ok (.iand, 1) := by decide +kernel
theorem dX0_firstMate_47 : decode cX0_firstMate 47 = .ok (.invokevirtual 92, 3) := by decide +kernel
theorem dX0_firstMate_50 : decode cX0_firstMate 50 = .ok (.invokestatic 65, 3) := by decide +kernel
theorem dX0_firstMate_53 : decode cX0_firstMate 53 = .ok (.iconst 1, 1) := by decide +kernel
theorem dX0_firstMate_54 : decode cX0_firstMate 54 = .ok (.iadd, 1) := by decide +kernel
theorem dX0_firstMate_55 : decode cX0_firstMate 55 = .ok (.aload_n 0, 1) := by decide +kernel
theorem dX0_firstMate_56 : decode cX0_firstMate 56 = .ok (.iload_n 2, 1) := by decide +kernel
theorem dX0_firstMate_57 : decode cX0_firstMate 57 = .ok (.invokevirtual 92, 3) := by decide +kernel
theorem dX0_firstMate_60 : decode cX0_firstMate 60 = .ok (.invokestatic 65, 3) := by decide +kernel
theorem dX0_firstMate_63 : decode cX0_firstMate 63 = .ok (.if_icmp .ne 5, 3) := by decide +kernel
theorem dX0_firstMate_66 : decode cX0_firstMate 66 = .ok (.iload_n 3, 1) := by decide +kernel
theorem dX0_firstMate_67 : decode cX0_firstMate 67 = .ok (.ireturn, 1) := by decide +kernel
theorem dX0_firstMate_68 : decode cX0_firstMate 68 = .ok (.iinc 3 1, 3) := by decide +kernel
theorem dX0_firstMate_71 : decode cX0_firstMate 71 = .ok (.goto (-67), 3) := by decide +kernel
theorem dX0_firstMate_74 : decode cX0_firstMate 74 = .ok (.iconst (-1), 1) := by decide +kernel
theorem dX0_firstMate_75 : decode cX0_firstMate 75 = .ok (.ireturn, 1) := by decide +kernel
theorem dX1_init_0 : decode cX1_init 0 = .ok (.aload_n 0, 1) := by decide +kernel
theorem dX1_init_1 : decode cX1_init 1 = .ok (.invokespecial 3, 3) := by decide +kernel
theorem dX1_init_4 : decode cX1_init 4 = .ok (.aload_n 0, 1) := by decide +kernel
theorem dX1_init_5 : decode cX1_init 5 = .ok (.sipush 144, 3) := by decide +kernel
theorem dX1_init_8 : decode cX1_init 8 = .ok (.newarray .int, 2) := by decide +kernel
theorem dX1_init_10 : decode cX1_init 10 = .ok (.putfield 9, 3) := by decide +kernel
theorem dX1_init_13 : decode cX1_init 13 = .ok (.aload_n 0, 1) := by decide +kernel
theorem dX1_init_14 : decode cX1_init 14 = .ok (.bipush 12, 2) := by decide +kernel
theorem dX1_init_16 : decode cX1_init 16 = .ok (.newarray .int, 2) := by decide +kernel
theorem dX1_init_18 : decode cX1_init 18 = .ok (.putfield 15, 3) := by decide +kernel
theorem dX1_init_21 : decode cX1_init 21 = .ok (.aload_n 0, 1) := by decide +kernel
theorem dX1_init_22 : decode cX1_init 22 = .ok (.bipush 12, 2) := by decide +kernel
theorem dX1_init_24 : decode cX1_init 24 = .ok (.newarray .int, 2) := by decide +kernel
theorem dX1_init_26 : decode cX1_init 26 = .ok (.putfield 18, 3) := by decide +kernel
theorem dX1_init_29 : decode cX1_init 29 = .ok (.aload_n 0, 1) := by decide +kernel
theorem dX1_init_30 : decode cX1_init 30 = .ok (.iconst 1, 1) := by decide +kernel
theorem dX1_init_31 : decode cX1_init 31 = .ok (.invokevirtual 21, 3) := by decide +kernel
theorem dX1_init_34 : decode cX1_init 34 = .ok (.return_, 1) := by decide +kernel
theorem dX1_clear_0 : decode cX1_clear 0 = .ok (.aload_n 0, 1) := by decide +kernel
theorem dX1_clear_1 : decode cX1_clear 1 = .ok (.iload_n 1, 1) := by decide +kernel
theorem dX1_clear_2 : decode cX1_clear 2 = .ok (.putfield 25, 3) := by decide +kernel
theorem dX1_clear_5 : decode cX1_clear 5 = .ok (.aload_n 0, 1) := by decide +kernel
theorem dX1_clear_6 : decode cX1_clear 6 = .ok (.iconst 0, 1) := by decide +kernel
theorem dX1_clear_7 : decode cX1_clear 7 = .ok (.putfield 29, 3) := by decide +kernel
theorem dX1_clear_10 : decode cX1_clear 10 = .ok (.aload_n 0, 1) := by decide +kernel
theorem dX1_clear_11 : decode cX1_clear 11 = .ok (.getfield 9, 3) := by decide +kernel
theorem dX1_clear_14 : decode cX1_clear 14 = .ok (.iconst (-1), 1) := by decide +kernel
theorem dX1_clear_15 : decode cX1_clear 15 = .ok (.invokestatic 32, 3) := by decide +kernel
theorem dX1_clear_18 : decode cX1_clear 18 = .ok (.aload_n 0, 1) := by decide +kernel
theorem dX1_clear_19 : decode cX1_clear 19 = .ok (.getfield 15, 3) := by decide +kernel
theorem dX1_clear_22 : decode cX1_clear 22 = .ok (.iconst 0, 1) := by decide +kernel
theorem dX1_clear_23 : decode cX1_clear 23 = .ok (.invokestatic 32, 3) := by decide +kernel
theorem dX1_clear_26 : decode cX1_clear 26 = .ok (.aload_n 0, 1) := by decide +kernel
theorem dX1_clear_27 : decode cX1_clear 27 = .ok (.getfield 18, 3) := by decide +kernel
theorem dX1_clear_30 : decode cX1_clear 30 = .ok (.iconst (-1), 1) := by decide +kernel
theorem dX1_clear_31 : decode cX1_clear 31 = .ok (.invokestatic 32, 3) := by decide +kernel
theorem dX1_clear_34 : decode cX1_clear 34 = .ok (.return_, 1) := by decide +kernel
theorem dX1_copyFrom_0 : decode cX1_copyFrom 0 = .ok (.aload_n 0, 1) := by decide +kernel
theorem dX1_copyFrom_1 : decode cX1_copyFrom 1 = .ok (.aload_n 1, 1) := by decide +kernel
theorem dX1_copyFrom_2 : decode cX1_copyFrom 2 = .ok (.getfield 25, 3) := by decide +kernel
theorem dX1_copyFrom_5 : decode cX1_copyFrom 5 = .ok (.putfield 25, 3) := by decide +kernel
theorem dX1_copyFrom_8 : decode cX1_copyFrom 8 = .ok (.aload_n 0, 1) := by decide +kernel
theorem dX1_copyFrom_9 : decode cX1_copyFrom 9 = .ok (.aload_n 1, 1) := by decide +kernel
theorem dX1_copyFrom_10 : decode cX1_copyFrom 10 = .ok (.getfield 29, 3) := by decide +kernel
theorem dX1_copyFrom_13 : decode cX1_copyFrom 13 = .ok (.putfield 29, 3) := by decide +kernel
theorem dX1_copyFrom_16 : decode cX1_copyFrom 16 = .ok (.aload_n 1, 1) := by decide +kernel
theorem dX1_copyFrom_17 : decode cX1_copyFrom 17 = .ok (.getfield 9, 3) := by decide +kernel
theorem dX1_copyFrom_20 : decode cX1_copyFrom 20 = .ok (.iconst 0, 1) := by decide +kernel
theorem dX1_copyFrom_21 : decode cX1_copyFrom 21 = .ok (.aload_n 0, 1) := by decide +kernel
theorem dX1_copyFrom_22 : decode cX1_copyFrom 22 = .ok (.getfield 9, 3) := by decide +kernel
theorem dX1_copyFrom_25 : decode cX1_copyFrom 25 = .ok (.iconst 0, 1) := by decide +kernel
theorem dX1_copyFrom_26 : decode cX1_copyFrom 26 = .ok (.aload_n 0, 1) := by decide +kernel
theorem dX1_copyFrom_27 : decode cX1_copyFrom 27 = .ok (.getfield 9, 3) := by decide +kernel
theorem dX1_copyFrom_30 : decode cX1_copyFrom 30 = .ok (.arraylength, 1) := by decide +kernel
theorem dX1_copyFrom_31 : decode cX1_copyFrom 31 = .ok (.invokestatic 38, 3) := by decide +kernel
theorem dX1_copyFrom_34 : decode cX1_copyFrom 34 = .ok (.aload_n 1, 1) := by decide +kernel
theorem dX1_copyFrom_35 : decode cX1_copyFrom 35 = .ok (.getfield 15, 3) := by decide +kernel
theorem dX1_copyFrom_38 : decode cX1_copyFrom 38 = .ok (.iconst 0, 1) := by decide +kernel
theorem dX1_copyFrom_39 : decode cX1_copyFrom 39 = .ok (.aload_n 0, 1) := by decide +kernel
theorem dX1_copyFrom_40 : decode cX1_copyFrom 40 = .ok (.getfield 15, 3) := by decide +kernel
theorem dX1_copyFrom_43 : decode cX1_copyFrom 43 = .ok (.iconst 0, 1) := by decide +kernel
theorem dX1_copyFrom_44 : decode cX1_copyFrom 44 = .ok (.bipush 12, 2) := by decide +kernel
theorem dX1_copyFrom_46 : decode cX1_copyFrom 46 = .ok (.invokestatic 38, 3) := by decide +kernel
theorem dX1_copyFrom_49 : decode cX1_copyFrom 49 = .ok (.aload_n 1, 1) := by decide +kernel
theorem dX1_copyFrom_50 : decode cX1_copyFrom 50 = .ok (.getfield 18, 3) := by decide +kernel
theorem dX1_copyFrom_53 : decode cX1_copyFrom 53 = .ok (.iconst 0, 1) := by decide +kernel
theorem dX1_copyFrom_54 : decode cX1_copyFrom 54 = .ok (.aload_n 0, 1) := by decide +kernel
theorem dX1_copyFrom_55 : decode cX1_copyFrom 55 = .ok (.getfield 18, 3) := by decide +kernel
theorem dX1_copyFrom_58 : decode cX1_copyFrom 58 = .ok (.iconst 0, 1) := by decide +kernel
theorem dX1_copyFrom_59 : decode cX1_copyFrom 59 = .ok (.bipush 12, 2) := by decide +kernel
theorem dX1_copyFrom_61 : decode cX1_copyFrom 61 = .ok (.invokestatic 38, 3) := by decide +kernel
theorem dX1_copyFrom_64 : decode cX1_copyFrom 64 = .ok (.return_, 1) := by decide +kernel
theorem dX1_all_0 : decode cX1_all 0 = .ok (.iconst 1, 1) := by decide +kernel
theorem dX1_all_1 : decode cX1_all 1 = .ok (.aload_n 0, 1) := by decide +kernel
theorem dX1_all_2 : decode cX1_all 2 = .ok (.getfield 25, 3) := by decide +kernel
theorem dX1_all_5 : decode cX1_all 5 = .ok (.ishl, 1) := by decide +kernel
theorem dX1_all_6 : decode cX1_all 6 = .ok (.iconst 1, 1) := by decide +kernel
theorem dX1_all_7 : decode cX1_all 7 = .ok (.isub, 1) := by decide +kernel
theorem dX1_all_8 : decode cX1_all 8 = .ok (.ireturn, 1) := by decide +kernel
theorem dX1_holds_0 : decode cX1_holds 0 = .ok (.iload_n 1, 1) := by decide +kernel
theorem dX1_holds_1 : decode cX1_holds 1 = .ok (.ifCond .lt 15, 3) := by decide +kernel
theorem dX1_holds_4 : decode cX1_holds 4 = .ok (.iload_n 1, 1) := by decide +kernel
theorem dX1_holds_5 : decode cX1_holds 5 = .ok (.aload_n 0, 1) := by decide +kernel
theorem dX1_holds_6 : decode cX1_holds 6 = .ok (.getfield 25, 3) := by decide +kernel
theorem dX1_holds_9 : decode cX1_holds 9 = .ok (.if_icmp .ge 7, 3) := by decide +kernel
theorem dX1_holds_12 : decode cX1_holds 12 = .ok (.iconst 1, 1) := by decide +kernel
theorem dX1_holds_13 : decode cX1_holds 13 = .ok (.goto 4, 3) := by decide +kernel
theorem dX1_holds_16 : decode cX1_holds 16 = .ok (.iconst 0, 1) := by decide +kernel
theorem dX1_holds_17 : decode cX1_holds 17 = .ok (.ireturn, 1) := by decide +kernel
theorem dX1_isLine_0 : decode cX1_isLine 0 = .ok (.aload_n 0, 1) := by decide +kernel
theorem dX1_isLine_1 : decode cX1_isLine 1 = .ok (.getfield 15, 3) := by decide +kernel
theorem dX1_isLine_4 : decode cX1_isLine 4 = .ok (.iload_n 1, 1) := by decide +kernel
theorem dX1_isLine_5 : decode cX1_isLine 5 = .ok (.iaload, 1) := by decide +kernel
theorem dX1_isLine_6 : decode cX1_isLine 6 = .ok (.iload_n 2, 1) := by decide +kernel
theorem dX1_isLine_7 : decode cX1_isLine 7 = .ok (.invokestatic 44, 3) := by decide +kernel
theorem dX1_isLine_10 : decode cX1_isLine 10 = .ok (.ireturn, 1) := by decide +kernel
theorem dX1_isFree_0 : decode cX1_isFree 0 = .ok (.aload_n 0, 1) := by decide +kernel
theorem dX1_isFree_1 : decode cX1_isFree 1 = .ok (.getfield 18, 3) := by decide +kernel
theorem dX1_isFree_4 : decode cX1_isFree 4 = .ok (.iload_n 1, 1) := by decide +kernel
theorem dX1_isFree_5 : decode cX1_isFree 5 = .ok (.iaload, 1) := by decide +kernel
theorem dX1_isFree_6 : decode cX1_isFree 6 = .ok (.iconst (-1), 1) := by decide +kernel
theorem dX1_isFree_7 : decode cX1_isFree 7 = .ok (.if_icmp .ne 7, 3) := by decide +kernel
theorem dX1_isFree_10 : decode cX1_isFree 10 = .ok (.iconst 1, 1) := by decide +kernel
theorem dX1_isFree_11 : decode cX1_isFree 11 = .ok (.goto 4, 3) := by decide +kernel
theorem dX1_isFree_14 : decode cX1_isFree 14 = .ok (.iconst 0, 1) := by decide +kernel
theorem dX1_isFree_15 : decode cX1_isFree 15 = .ok (.ireturn, 1) := by decide +kernel
theorem dX1_weightOf_0 : decode cX1_weightOf 0 = .ok (.aload_n 0, 1) := by decide +kernel
theorem dX1_weightOf_1 : decode cX1_weightOf 1 = .ok (.getfield 9, 3) := by decide +kernel
theorem dX1_weightOf_4 : decode cX1_weightOf 4 = .ok (.iload_n 1, 1) := by decide +kernel
theorem dX1_weightOf_5 : decode cX1_weightOf 5 = .ok (.bipush 12, 2) := by decide +kernel
theorem dX1_weightOf_7 : decode cX1_weightOf 7 = .ok (.imul, 1) := by decide +kernel
theorem dX1_weightOf_8 : decode cX1_weightOf 8 = .ok (.iload_n 2, 1) := by decide +kernel
theorem dX1_weightOf_9 : decode cX1_weightOf 9 = .ok (.iadd, 1) := by decide +kernel
theorem dX1_weightOf_10 : decode cX1_weightOf 10 = .ok (.iaload, 1) := by decide +kernel
theorem dX1_weightOf_11 : decode cX1_weightOf 11 = .ok (.ireturn, 1) := by decide +kernel
theorem dX1_putLine_0 : decode cX1_putLine 0 = .ok (.aload_n 0, 1) := by decide +kernel
theorem dX1_putLine_1 : decode cX1_putLine 1 = .ok (.iload_n 1, 1) := by decide +kernel
theorem dX1_putLine_2 : decode cX1_putLine 2 = .ok (.iload_n 2, 1) := by decide +kernel
theorem dX1_putLine_3 : decode cX1_putLine 3 = .ok (.invokevirtual 48, 3) := by decide +kernel
theorem dX1_putLine_6 : decode cX1_putLine 6 = .ok (.ifCond .ne 13, 3) := by decide +kernel
theorem dX1_putLine_9 : decode cX1_putLine 9 = .ok (.aload_n 0, 1) := by decide +kernel
theorem dX1_putLine_10 : decode cX1_putLine 10 = .ok (.dup, 1) := by decide +kernel
theorem dX1_putLine_11 : decode cX1_putLine 11 = .ok (.getfield 29, 3) := by decide +kernel
theorem dX1_putLine_14 : decode cX1_putLine 14 = .ok (.iconst 1, 1) := by decide +kernel
theorem dX1_putLine_15 : decode cX1_putLine 15 = .ok (.iadd, 1) := by decide +kernel
theorem dX1_putLine_16 : decode cX1_putLine 16 = .ok (.putfield 29, 3) := by decide +kernel
theorem dX1_putLine_19 : decode cX1_putLine 19 = .ok (.aload_n 0, 1) := by decide +kernel
theorem dX1_putLine_20 : decode cX1_putLine 20 = .ok (.getfield 15, 3) := by decide +kernel
theorem dX1_putLine_23 : decode cX1_putLine 23 = .ok (.iload_n 1, 1) := by decide +kernel
theorem dX1_putLine_24 : decode cX1_putLine 24 = .ok (.dup2, 1) := by decide +kernel
theorem dX1_putLine_25 : decode cX1_putLine 25 = .ok (.iaload, 1) := by decide +kernel
theorem dX1_putLine_26 : decode cX1_putLine 26 = .ok (.iconst 1, 1) := by decide +kernel
theorem dX1_putLine_27 : decode cX1_putLine 27 = .ok (.iload_n 2, 1) := by decide +kernel
theorem dX1_putLine_28 : decode cX1_putLine 28 = .ok (.ishl, 1) := by decide +kernel
theorem dX1_putLine_29 : decode cX1_putLine 29 = .ok (.ior, 1) := by decide +kernel
theorem dX1_putLine_30 : decode cX1_putLine 30 = .ok (.iastore, 1) := by decide +kernel
theorem dX1_putLine_31 : decode cX1_putLine 31 = .ok (.aload_n 0, 1) := by decide +kernel
theorem dX1_putLine_32 : decode cX1_putLine 32 = .ok (.getfield 15, 3) := by decide +kernel
theorem dX1_putLine_35 : decode cX1_putLine 35 = .ok (.iload_n 2, 1) := by decide +kernel
theorem dX1_putLine_36 : decode cX1_putLine 36 = .ok (.dup2, 1) := by decide +kernel
theorem dX1_putLine_37 : decode cX1_putLine 37 = .ok (.iaload, 1) := by decide +kernel
theorem dX1_putLine_38 : decode cX1_putLine 38 = .ok (.iconst 1, 1) := by decide +kernel
theorem dX1_putLine_39 : decode cX1_putLine 39 = .ok (.iload_n 1, 1) := by decide +kernel
theorem dX1_putLine_40 : decode cX1_putLine 40 = .ok (.ishl, 1) := by decide +kernel
theorem dX1_putLine_41 : decode cX1_putLine 41 = .ok (.ior, 1) := by decide +kernel
theorem dX1_putLine_42 : decode cX1_putLine 42 = .ok (.iastore, 1) := by decide +kernel
theorem dX1_putLine_43 : decode cX1_putLine 43 = .ok (.aload_n 0, 1) := by decide +kernel
theorem dX1_putLine_44 : decode cX1_putLine 44 = .ok (.iload_n 1, 1) := by decide +kernel
theorem dX1_putLine_45 : decode cX1_putLine 45 = .ok (.iload_n 2, 1) := by decide +kernel
theorem dX1_putLine_46 : decode cX1_putLine 46 = .ok (.iload_n 3, 1) := by decide +kernel
theorem dX1_putLine_47 : decode cX1_putLine 47 = .ok (.invokevirtual 51, 3) := by decide +kernel
theorem dX1_putLine_50 : decode cX1_putLine 50 = .ok (.return_, 1) := by decide +kernel
theorem dX1_putLineIfNone_0 : decode cX1_putLineIfNone 0 = .ok (.aload_n 0, 1) := by decide +kernel
theorem dX1_putLineIfNone_1 : decode cX1_putLineIfNone 1 = .ok (.iload_n 1, 1) := by decide +kernel
theorem dX1_putLineIfNone_2 : decode cX1_putLineIfNone 2 = .ok (.iload_n 2, 1) := by decide +kernel
theorem dX1_putLineIfNone_3 : decode cX1_putLineIfNone 3 = .ok (.invokevirtual 48, 3) := by decide +kernel
theorem dX1_putLineIfNone_6 : decode cX1_putLineIfNone 6 = .ok (.ifCond .ne 10, 3) := by decide +kernel
theorem dX1_putLineIfNone_9 : decode cX1_putLineIfNone 9 = .ok (.aload_n 0, 1) := by decide +kernel
theorem dX1_putLineIfNone_10 : decode cX1_putLineIfNone 10 = .ok (.iload_n 1, 1) := by decide +kernel
theorem dX1_putLineIfNone_11 : decode cX1_putLineIfNone 11 = .ok (.iload_n 2, 1) := by decide +kernel
theorem dX1_putLineIfNone_12 : decode cX1_putLineIfNone 12 = .ok (.iconst 1, 1) := by decide +kernel
theorem dX1_putLineIfNone_13 : decode cX1_putLineIfNone 13 = .ok (.invokevirtual 55, 3) := by decide +kernel
theorem dX1_putLineIfNone_16 : decode cX1_putLineIfNone 16 = .ok (.return_, 1) := by decide +kernel
theorem dX1_removeLine_0 : decode cX1_removeLine 0 = .ok (.aload_n 0, 1) := by decide +kernel
theorem dX1_removeLine_1 : decode cX1_removeLine 1 = .ok (.getfield 18, 3) := by decide +kernel
theorem dX1_removeLine_4 : decode cX1_removeLine 4 = .ok (.iload_n 1, 1) := by decide +kernel
theorem dX1_removeLine_5 : decode cX1_removeLine 5 = .ok (.iaload, 1) := by decide +kernel
theorem dX1_removeLine_6 : decode cX1_removeLine 6 = .ok (.iload_n 2, 1) := by decide +kernel
theorem dX1_removeLine_7 : decode cX1_removeLine 7 = .ok (.if_icmp .ne 8, 3) := by decide +kernel
theorem dX1_removeLine_10 : decode cX1_removeLine 10 = .ok (.aload_n 0, 1) := by decide +kernel
theorem dX1_removeLine_11 : decode cX1_removeLine 11 = .ok (.iload_n 1, 1) := by decide +kernel
theorem dX1_removeLine_12 : decode cX1_removeLine 12 = .ok (.invokevirtual 58, 3) := by decide +kernel
theorem dX1_removeLine_15 : decode cX1_removeLine 15 = .ok (.aload_n 0, 1) := by decide +kernel
theorem dX1_removeLine_16 : decode cX1_removeLine 16 = .ok (.iload_n 1, 1) := by decide +kernel
theorem dX1_removeLine_17 : decode cX1_removeLine 17 = .ok (.iload_n 2, 1) := by decide +kernel
theorem dX1_removeLine_18 : decode cX1_removeLine 18 = .ok (.invokevirtual 48, 3) := by decide +kernel
theorem dX1_removeLine_21 : decode cX1_removeLine 21 = .ok (.ifCond .eq 13, 3) := by decide +kernel
theorem dX1_removeLine_24 : decode cX1_removeLine 24 = .ok (.aload_n 0, 1) := by decide +kernel
theorem dX1_removeLine_25 : decode cX1_removeLine 25 = .ok (.dup, 1) := by decide +kernel
theorem dX1_removeLine_26 : decode cX1_removeLine 26 = .ok (.getfield 29, 3) := by decide +kernel
theorem dX1_removeLine_29 : decode cX1_removeLine 29 = .ok (.iconst 1, 1) := by decide +kernel
theorem dX1_removeLine_30 : decode cX1_removeLine 30 = .ok (.isub, 1) := by decide +kernel
theorem dX1_removeLine_31 : decode cX1_removeLine 31 = .ok (.putfield 29, 3) := by decide +kernel
theorem dX1_removeLine_34 : decode cX1_removeLine 34 = .ok (.aload_n 0, 1) := by decide +kernel
theorem dX1_removeLine_35 : decode cX1_removeLine 35 = .ok (.getfield 15, 3) := by decide +kernel
theorem dX1_removeLine_38 : decode cX1_removeLine 38 = .ok (.iload_n 1, 1) := by decide +kernel
theorem dX1_removeLine_39 : decode cX1_removeLine 39 = .ok (.dup2, 1) := by decide +kernel
theorem dX1_removeLine_40 : decode cX1_removeLine 40 = .ok (.iaload, 1) := by decide +kernel
theorem dX1_removeLine_41 : decode cX1_removeLine 41 = .ok (.iconst 1, 1) := by decide +kernel
theorem dX1_removeLine_42 : decode cX1_removeLine 42 = .ok (.iload_n 2, 1) := by decide +kernel
theorem dX1_removeLine_43 : decode cX1_removeLine 43 = .ok (.ishl, 1) := by decide +kernel
theorem dX1_removeLine_44 : decode cX1_removeLine 44 = .ok (.iconst (-1), 1) := by decide +kernel
theorem dX1_removeLine_45 : decode cX1_removeLine 45 = .ok (.ixor, 1) := by decide +kernel
theorem dX1_removeLine_46 : decode cX1_removeLine 46 = .ok (.iand, 1) := by decide +kernel
theorem dX1_removeLine_47 : decode cX1_removeLine 47 = .ok (.iastore, 1) := by decide +kernel
theorem dX1_removeLine_48 : decode cX1_removeLine 48 = .ok (.aload_n 0, 1) := by decide +kernel
theorem dX1_removeLine_49 : decode cX1_removeLine 49 = .ok (.getfield 15, 3) := by decide +kernel
theorem dX1_removeLine_52 : decode cX1_removeLine 52 = .ok (.iload_n 2, 1) := by decide +kernel
theorem dX1_removeLine_53 : decode cX1_removeLine 53 = .ok (.dup2, 1) := by decide +kernel
theorem dX1_removeLine_54 : decode cX1_removeLine 54 = .ok (.iaload, 1) := by decide +kernel
theorem dX1_removeLine_55 : decode cX1_removeLine 55 = .ok (.iconst 1, 1) := by decide +kernel
theorem dX1_removeLine_56 : decode cX1_removeLine 56 = .ok (.iload_n 1, 1) := by decide +kernel
theorem dX1_removeLine_57 : decode cX1_removeLine 57 = .ok (.ishl, 1) := by decide +kernel
theorem dX1_removeLine_58 : decode cX1_removeLine 58 = .ok (.iconst (-1), 1) := by decide +kernel
theorem dX1_removeLine_59 : decode cX1_removeLine 59 = .ok (.ixor, 1) := by decide +kernel
theorem dX1_removeLine_60 : decode cX1_removeLine 60 = .ok (.iand, 1) := by decide +kernel
theorem dX1_removeLine_61 : decode cX1_removeLine 61 = .ok (.iastore, 1) := by decide +kernel
theorem dX1_removeLine_62 : decode cX1_removeLine 62 = .ok (.aload_n 0, 1) := by decide +kernel
theorem dX1_removeLine_63 : decode cX1_removeLine 63 = .ok (.iload_n 1, 1) := by decide +kernel
theorem dX1_removeLine_64 : decode cX1_removeLine 64 = .ok (.iload_n 2, 1) := by decide +kernel
theorem dX1_removeLine_65 : decode cX1_removeLine 65 = .ok (.iconst (-1), 1) := by decide +kernel
theorem dX1_removeLine_66 : decode cX1_removeLine 66 = .ok (.invokevirtual 51, 3) := by decide +kernel
theorem dX1_removeLine_69 : decode cX1_removeLine 69 = .ok (.return_, 1) := by decide +kernel
theorem dX1_setWeight_0 : decode cX1_setWeight 0 = .ok (.aload_n 0, 1) := by decide +kernel
theorem dX1_setWeight_1 : decode cX1_setWeight 1 = .ok (.getfield 9, 3) := by decide +kernel
theorem dX1_setWeight_4 : decode cX1_setWeight 4 = .ok (.iload_n 1, 1) := by decide +kernel
theorem dX1_setWeight_5 : decode cX1_setWeight 5 = .ok (.bipush 12, 2) := by decide +kernel
theorem dX1_setWeight_7 : decode cX1_setWeight 7 = .ok (.imul, 1) := by decide +kernel
theorem dX1_setWeight_8 : decode cX1_setWeight 8 = .ok (.iload_n 2, 1) := by decide +kernel
theorem dX1_setWeight_9 : decode cX1_setWeight 9 = .ok (.iadd, 1) := by decide +kernel
theorem dX1_setWeight_10 : decode cX1_setWeight 10 = .ok (.iload_n 3, 1) := by decide +kernel
theorem dX1_setWeight_11 : decode cX1_setWeight 11 = .ok (.iastore, 1) := by decide +kernel
theorem dX1_setWeight_12 : decode cX1_setWeight 12 = .ok (.aload_n 0, 1) := by decide +kernel
theorem dX1_setWeight_13 : decode cX1_setWeight 13 = .ok (.getfield 9, 3) := by decide +kernel
theorem dX1_setWeight_16 : decode cX1_setWeight 16 = .ok (.iload_n 2, 1) := by decide +kernel
theorem dX1_setWeight_17 : decode cX1_setWeight 17 = .ok (.bipush 12, 2) := by decide +kernel
theorem dX1_setWeight_19 : decode cX1_setWeight 19 = .ok (.imul, 1) := by decide +kernel
theorem dX1_setWeight_20 : decode cX1_setWeight 20 = .ok (.iload_n 1, 1) := by decide +kernel
theorem dX1_setWeight_21 : decode cX1_setWeight 21 = .ok (.iadd, 1) := by decide +kernel
theorem dX1_setWeight_22 : decode cX1_setWeight 22 = .ok (.iload_n 3, 1) := by decide +kernel
theorem dX1_setWeight_23 : decode cX1_setWeight 23 = .ok (.iastore, 1) := by decide +kernel
theorem dX1_setWeight_24 : decode cX1_setWeight 24 = .ok (.return_, 1) := by decide +kernel
theorem dX1_putPair_0 : decode cX1_putPair 0 = .ok (.aload_n 0, 1) := by decide +kernel
theorem dX1_putPair_1 : decode cX1_putPair 1 = .ok (.getfield 18, 3) := by decide +kernel
theorem dX1_putPair_4 : decode cX1_putPair 4 = .ok (.iload_n 1, 1) := by decide +kernel
theorem dX1_putPair_5 : decode cX1_putPair 5 = .ok (.iload_n 2, 1) := by decide +kernel
theorem dX1_putPair_6 : decode cX1_putPair 6 = .ok (.iastore, 1) := by decide +kernel
theorem dX1_putPair_7 : decode cX1_putPair 7 = .ok (.aload_n 0, 1) := by decide +kernel
theorem dX1_putPair_8 : decode cX1_putPair 8 = .ok (.getfield 18, 3) := by decide +kernel
theorem dX1_putPair_11 : decode cX1_putPair 11 = .ok (.iload_n 2, 1) := by decide +kernel
theorem dX1_putPair_12 : decode cX1_putPair 12 = .ok (.iload_n 1, 1) := by decide +kernel
theorem dX1_putPair_13 : decode cX1_putPair 13 = .ok (.iastore, 1) := by decide +kernel
theorem dX1_putPair_14 : decode cX1_putPair 14 = .ok (.return_, 1) := by decide +kernel
theorem dX1_removePair_0 : decode cX1_removePair 0 = .ok (.aload_n 0, 1) := by decide +kernel
theorem dX1_removePair_1 : decode cX1_removePair 1 = .ok (.getfield 18, 3) := by decide +kernel
theorem dX1_removePair_4 : decode cX1_removePair 4 = .ok (.iload_n 1, 1) := by decide +kernel
theorem dX1_removePair_5 : decode cX1_removePair 5 = .ok (.iaload, 1) := by decide +kernel
theorem dX1_removePair_6 : decode cX1_removePair 6 = .ok (.istore_n 2, 1) := by decide +kernel
theorem dX1_removePair_7 : decode cX1_removePair 7 = .ok (.aload_n 0, 1) := by decide +kernel
theorem dX1_removePair_8 : decode cX1_removePair 8 = .ok (.getfield 18, 3) := by decide +kernel
theorem dX1_removePair_11 : decode cX1_removePair 11 = .ok (.iload_n 1, 1) := by decide +kernel
theorem dX1_removePair_12 : decode cX1_removePair 12 = .ok (.iconst (-1), 1) := by decide +kernel
theorem dX1_removePair_13 : decode cX1_removePair 13 = .ok (.iastore, 1) := by decide +kernel
theorem dX1_removePair_14 : decode cX1_removePair 14 = .ok (.iload_n 2, 1) := by decide +kernel
theorem dX1_removePair_15 : decode cX1_removePair 15 = .ok (.iconst (-1), 1) := by decide +kernel
theorem dX1_removePair_16 : decode cX1_removePair 16 = .ok (.if_icmp .eq 10, 3) := by decide +kernel
theorem dX1_removePair_19 : decode cX1_removePair 19 = .ok (.aload_n 0, 1) := by decide +kernel
theorem dX1_removePair_20 : decode cX1_removePair 20 = .ok (.getfield 18, 3) := by decide +kernel
theorem dX1_removePair_23 : decode cX1_removePair 23 = .ok (.iload_n 2, 1) := by decide +kernel
theorem dX1_removePair_24 : decode cX1_removePair 24 = .ok (.iconst (-1), 1) := by decide +kernel
theorem dX1_removePair_25 : decode cX1_removePair 25 = .ok (.iastore, 1) := by decide +kernel
theorem dX1_removePair_26 : decode cX1_removePair 26 = .ok (.return_, 1) := by decide +kernel
theorem dX1_countPairs_0 : decode cX1_countPairs 0 = .ok (.iconst 0, 1) := by decide +kernel
theorem dX1_countPairs_1 : decode cX1_countPairs 1 = .ok (.istore_n 1, 1) := by decide +kernel
theorem dX1_countPairs_2 : decode cX1_countPairs 2 = .ok (.iconst 0, 1) := by decide +kernel
theorem dX1_countPairs_3 : decode cX1_countPairs 3 = .ok (.istore_n 2, 1) := by decide +kernel
theorem dX1_countPairs_4 : decode cX1_countPairs 4 = .ok (.iload_n 2, 1) := by decide +kernel
theorem dX1_countPairs_5 : decode cX1_countPairs 5 = .ok (.aload_n 0, 1) := by decide +kernel
theorem dX1_countPairs_6 : decode cX1_countPairs 6 = .ok (.getfield 25, 3) := by decide +kernel
theorem dX1_countPairs_9 : decode cX1_countPairs 9 = .ok (.if_icmp .ge 22, 3) := by decide +kernel
theorem dX1_countPairs_12 : decode cX1_countPairs 12 = .ok (.aload_n 0, 1) := by decide +kernel
theorem dX1_countPairs_13 : decode cX1_countPairs 13 = .ok (.getfield 18, 3) := by decide +kernel
theorem dX1_countPairs_16 : decode cX1_countPairs 16 = .ok (.iload_n 2, 1) := by decide +kernel
theorem dX1_countPairs_17 : decode cX1_countPairs 17 = .ok (.iaload, 1) := by decide +kernel
theorem dX1_countPairs_18 : decode cX1_countPairs 18 = .ok (.iload_n 2, 1) := by decide +kernel
theorem dX1_countPairs_19 : decode cX1_countPairs 19 = .ok (.if_icmp .le 6, 3) := by decide +kernel
theorem dX1_countPairs_22 : decode cX1_countPairs 22 = .ok (.iinc 1 1, 3) := by decide +kernel
theorem dX1_countPairs_25 : decode cX1_countPairs 25 = .ok (.iinc 2 1, 3) := by decide +kernel
theorem dX1_countPairs_28 : decode cX1_countPairs 28 = .ok (.goto (-24), 3) := by decide +kernel
theorem dX1_countPairs_31 : decode cX1_countPairs 31 = .ok (.iload_n 1, 1) := by decide +kernel
theorem dX1_countPairs_32 : decode cX1_countPairs 32 = .ok (.ireturn, 1) := by decide +kernel
theorem dX1_weighPairs_0 : decode cX1_weighPairs 0 = .ok (.iconst 0, 1) := by decide +kernel
theorem dX1_weighPairs_1 : decode cX1_weighPairs 1 = .ok (.istore_n 1, 1) := by decide +kernel
theorem dX1_weighPairs_2 : decode cX1_weighPairs 2 = .ok (.iconst 0, 1) := by decide +kernel
theorem dX1_weighPairs_3 : decode cX1_weighPairs 3 = .ok (.istore_n 2, 1) := by decide +kernel
theorem dX1_weighPairs_4 : decode cX1_weighPairs 4 = .ok (.iload_n 2, 1) := by decide +kernel
theorem dX1_weighPairs_5 : decode cX1_weighPairs 5 = .ok (.aload_n 0, 1) := by decide +kernel
theorem dX1_weighPairs_6 : decode cX1_weighPairs 6 = .ok (.getfield 25, 3) := by decide +kernel
theorem dX1_weighPairs_9 : decode cX1_weighPairs 9 = .ok (.if_icmp .ge 33, 3) := by decide +kernel
theorem dX1_weighPairs_12 : decode cX1_weighPairs 12 = .ok (.aload_n 0, 1) := by decide +kernel
theorem dX1_weighPairs_13 : decode cX1_weighPairs 13 = .ok (.getfield 18, 3) := by decide +kernel
theorem dX1_weighPairs_16 : decode cX1_weighPairs 16 = .ok (.iload_n 2, 1) := by decide +kernel
theorem dX1_weighPairs_17 : decode cX1_weighPairs 17 = .ok (.iaload, 1) := by decide +kernel
theorem dX1_weighPairs_18 : decode cX1_weighPairs 18 = .ok (.iload_n 2, 1) := by decide +kernel
theorem dX1_weighPairs_19 : decode cX1_weighPairs 19 = .ok (.if_icmp .le 17, 3) := by decide +kernel
theorem dX1_weighPairs_22 : decode cX1_weighPairs 22 = .ok (.iload_n 1, 1) := by decide +kernel
theorem dX1_weighPairs_23 : decode cX1_weighPairs 23 = .ok (.aload_n 0, 1) := by decide +kernel
theorem dX1_weighPairs_24 : decode cX1_weighPairs 24 = .ok (.iload_n 2, 1) := by decide +kernel
theorem dX1_weighPairs_25 : decode cX1_weighPairs 25 = .ok (.aload_n 0, 1) := by decide +kernel
theorem dX1_weighPairs_26 : decode cX1_weighPairs 26 = .ok (.getfield 18, 3) := by decide +kernel
theorem dX1_weighPairs_29 : decode cX1_weighPairs 29 = .ok (.iload_n 2, 1) := by decide +kernel
theorem dX1_weighPairs_30 : decode cX1_weighPairs 30 = .ok (.iaload, 1) := by decide +kernel
theorem dX1_weighPairs_31 : decode cX1_weighPairs 31 = .ok (.invokevirtual 61, 3) := by decide +kernel
theorem dX1_weighPairs_34 : decode cX1_weighPairs 34 = .ok (.iadd, 1) := by decide +kernel
theorem dX1_weighPairs_35 : decode cX1_weighPairs 35 = .ok (.istore_n 1, 1) := by decide +kernel
theorem dX1_weighPairs_36 : decode cX1_weighPairs 36 = .ok (.iinc 2 1, 3) := by decide +kernel
theorem dX1_weighPairs_39 : decode cX1_weighPairs 39 = .ok (.goto (-35), 3) := by decide +kernel
theorem dX1_weighPairs_42 : decode cX1_weighPairs 42 = .ok (.iload_n 1, 1) := by decide +kernel
theorem dX1_weighPairs_43 : decode cX1_weighPairs 43 = .ok (.ireturn, 1) := by decide +kernel
theorem dX1_pairsAreLines_0 : decode cX1_pairsAreLines 0 = .ok (.iconst 0, 1) := by decide +kernel
theorem dX1_pairsAreLines_1 : decode cX1_pairsAreLines 1 = .ok (.istore_n 1, 1) := by decide +kernel
theorem dX1_pairsAreLines_2 : decode cX1_pairsAreLines 2 = .ok (.iload_n 1, 1) := by decide +kernel
theorem dX1_pairsAreLines_3 : decode cX1_pairsAreLines 3 = .ok (.aload_n 0, 1) := by decide +kernel
theorem dX1_pairsAreLines_4 : decode cX1_pairsAreLines 4 = .ok (.getfield 25, 3) := by decide +kernel
theorem dX1_pairsAreLines_7 : decode cX1_pairsAreLines 7 = .ok (.if_icmp .ge 35, 3) := by decide +kernel
theorem dX1_pairsAreLines_10 : decode cX1_pairsAreLines 10 = .ok (.aload_n 0, 1) := by decide +kernel
theorem dX1_pairsAreLines_11 : decode cX1_pairsAreLines 11 = .ok (.getfield 18, 3) := by decide +kernel
theorem dX1_pairsAreLines_14 : decode cX1_pairsAreLines 14 = .ok (.iload_n 1, 1) := by decide +kernel
theorem dX1_pairsAreLines_15 : decode cX1_pairsAreLines 15 = .ok (.iaload, 1) := by decide +kernel
theorem dX1_pairsAreLines_16 : decode cX1_pairsAreLines 16 = .ok (.iconst (-1), 1) := by decide +kernel
theorem dX1_pairsAreLines_17 : decode cX1_pairsAreLines 17 = .ok (.if_icmp .eq 19, 3) := by decide +kernel
theorem dX1_pairsAreLines_20 : decode cX1_pairsAreLines 20 = .ok (.aload_n 0, 1) := by decide +kernel
theorem dX1_pairsAreLines_21 : decode cX1_pairsAreLines 21 = .ok (.iload_n 1, 1) := by decide +kernel
theorem dX1_pairsAreLines_22 : decode cX1_pairsAreLines 22 = .ok (.aload_n 0, 1) := by decide +kernel
theorem dX1_pairsAreLines_23 : decode cX1_pairsAreLines 23 = .ok (.getfield 18, 3) := by decide +kernel
theorem dX1_pairsAreLines_26 : decode cX1_pairsAreLines 26 = .ok (.iload_n 1, 1) := by decide +kernel
theorem dX1_pairsAreLines_27 : decode cX1_pairsAreLines 27 = .ok (.iaload, 1) := by decide +kernel
theorem dX1_pairsAreLines_28 : decode cX1_pairsAreLines 28 = .ok (.invokevirtual 48, 3) := by decide +kernel
theorem dX1_pairsAreLines_31 : decode cX1_pairsAreLines 31 = .ok (.ifCond .ne 5, 3) := by decide +kernel
theorem dX1_pairsAreLines_34 : decode cX1_pairsAreLines 34 = .ok (.iconst 0, 1) := by decide +kernel
theorem dX1_pairsAreLines_35 : decode cX1_pairsAreLines 35 = .ok (.ireturn, 1) := by decide +kernel
theorem dX1_pairsAreLines_36 : decode cX1_pairsAreLines 36 = .ok (.iinc 1 1, 3) := by decide +kernel
theorem dX1_pairsAreLines_39 : decode cX1_pairsAreLines 39 = .ok (.goto (-37), 3) := by decide +kernel
theorem dX1_pairsAreLines_42 : decode cX1_pairsAreLines 42 = .ok (.iconst 1, 1) := by decide +kernel
theorem dX1_pairsAreLines_43 : decode cX1_pairsAreLines 43 = .ok (.ireturn, 1) := by decide +kernel
theorem dX2_init_0 : decode cX2_init 0 = .ok (.aload_n 0, 1) := by decide +kernel
theorem dX2_init_1 : decode cX2_init 1 = .ok (.invokespecial 3, 3) := by decide +kernel
theorem dX2_init_4 : decode cX2_init 4 = .ok (.aload_n 0, 1) := by decide +kernel
theorem dX2_init_5 : decode cX2_init 5 = .ok (.iconst 0, 1) := by decide +kernel
theorem dX2_init_6 : decode cX2_init 6 = .ok (.putfield 9, 3) := by decide +kernel
theorem dX2_init_9 : decode cX2_init 9 = .ok (.aload_n 0, 1) := by decide +kernel
theorem dX2_init_10 : decode cX2_init 10 = .ok (.iconst 0, 1) := by decide +kernel
theorem dX2_init_11 : decode cX2_init 11 = .ok (.putfield 15, 3) := by decide +kernel
theorem dX2_init_14 : decode cX2_init 14 = .ok (.aload_n 0, 1) := by decide +kernel
theorem dX2_init_15 : decode cX2_init 15 = .ok (.sipush 4096, 3) := by decide +kernel
theorem dX2_init_18 : decode cX2_init 18 = .ok (.newarray .int, 2) := by decide +kernel
theorem dX2_init_20 : decode cX2_init 20 = .ok (.putfield 19, 3) := by decide +kernel
theorem dX2_init_23 : decode cX2_init 23 = .ok (.return_, 1) := by decide +kernel
theorem dX2_learn_0 : decode cX2_learn 0 = .ok (.aload_n 0, 1) := by decide +kernel
theorem dX2_learn_1 : decode cX2_learn 1 = .ok (.getfield 9, 3) := by decide +kernel
theorem dX2_learn_4 : decode cX2_learn 4 = .ok (.ifCond .eq 4, 3) := by decide +kernel
theorem dX2_learn_7 : decode cX2_learn 7 = .ok (.return_, 1) := by decide +kernel
theorem dX2_learn_8 : decode cX2_learn 8 = .ok (.aload_n 0, 1) := by decide +kernel
theorem dX2_learn_9 : decode cX2_learn 9 = .ok (.iconst 1, 1) := by decide +kernel
theorem dX2_learn_10 : decode cX2_learn 10 = .ok (.putfield 9, 3) := by decide +kernel
theorem dX2_learn_13 : decode cX2_learn 13 = .ok (.aload_n 0, 1) := by decide +kernel
theorem dX2_learn_14 : decode cX2_learn 14 = .ok (.aload_n 1, 1) := by decide +kernel
theorem dX2_learn_15 : decode cX2_learn 15 = .ok (.invokevirtual 23, 3) := by decide +kernel
theorem dX2_learn_18 : decode cX2_learn 18 = .ok (.putfield 15, 3) := by decide +kernel
theorem dX2_learn_21 : decode cX2_learn 21 = .ok (.iconst 0, 1) := by decide +kernel
theorem dX2_learn_22 : decode cX2_learn 22 = .ok (.istore_n 2, 1) := by decide +kernel
theorem dX2_learn_23 : decode cX2_learn 23 = .ok (.iload_n 2, 1) := by decide +kernel
theorem dX2_learn_24 : decode cX2_learn 24 = .ok (.aload_n 1, 1) := by decide +kernel
theorem dX2_learn_25 : decode cX2_learn 25 = .ok (.getfield 28, 3) := by decide +kernel
theorem dX2_learn_28 : decode cX2_learn 28 = .ok (.if_icmp .ge 35, 3) := by decide +kernel
theorem dX2_learn_31 : decode cX2_learn 31 = .ok (.iconst 1, 1) := by decide +kernel
theorem dX2_learn_32 : decode cX2_learn 32 = .ok (.iload_n 2, 1) := by decide +kernel
theorem dX2_learn_33 : decode cX2_learn 33 = .ok (.ishl, 1) := by decide +kernel
theorem dX2_learn_34 : decode cX2_learn 34 = .ok (.istore_n 3, 1) := by decide +kernel
theorem dX2_learn_35 : decode cX2_learn 35 = .ok (.iload_n 3, 1) := by decide +kernel
theorem dX2_learn_36 : decode cX2_learn 36 = .ok (.iconst 1, 1) := by decide +kernel
theorem dX2_learn_37 : decode cX2_learn 37 = .ok (.iload_n 2, 1) := by decide +kernel
theorem dX2_learn_38 : decode cX2_learn 38 = .ok (.iconst 1, 1) := by decide +kernel
theorem dX2_learn_39 : decode cX2_learn 39 = .ok (.iadd, 1) := by decide +kernel
theorem dX2_learn_40 : decode cX2_learn 40 = .ok (.ishl, 1) := by decide +kernel
theorem dX2_learn_41 : decode cX2_learn 41 = .ok (.if_icmp .ge 16, 3) := by decide +kernel
theorem dX2_learn_44 : decode cX2_learn 44 = .ok (.aload_n 0, 1) := by decide +kernel
theorem dX2_learn_45 : decode cX2_learn 45 = .ok (.aload_n 1, 1) := by decide +kernel
theorem dX2_learn_46 : decode cX2_learn 46 = .ok (.iload_n 2, 1) := by decide +kernel
theorem dX2_learn_47 : decode cX2_learn 47 = .ok (.iload_n 3, 1) := by decide +kernel
theorem dX2_learn_48 : decode cX2_learn 48 = .ok (.invokevirtual 31, 3) := by decide +kernel
theorem dX2_learn_51 : decode cX2_learn 51 = .ok (.iinc 3 1, 3) := by decide +kernel
theorem dX2_learn_54 : decode cX2_learn 54 = .ok (.goto (-19), 3) := by decide +kernel
theorem dX2_learn_57 : decode cX2_learn 57 = .ok (.iinc 2 1, 3) := by decide +kernel
theorem dX2_learn_60 : decode cX2_learn 60 = .ok (.goto (-37), 3) := by decide +kernel
theorem dX2_learn_63 : decode cX2_learn 63 = .ok (.return_, 1) := by decide +kernel
theorem dX2_learnSet_0 : decode cX2_learnSet 0 = .ok (.aload_n 0, 1) := by decide +kernel
theorem dX2_learnSet_1 : decode cX2_learnSet 1 = .ok (.iload_n 3, 1) := by decide +kernel
theorem dX2_learnSet_2 : decode cX2_learnSet 2 = .ok (.iconst 1, 1) := by decide +kernel
theorem dX2_learnSet_3 : decode cX2_learnSet 3 = .ok (.iload_n 2, 1) := by decide +kernel
theorem dX2_learnSet_4 : decode cX2_learnSet 4 = .ok (.ishl, 1) := by decide +kernel
theorem dX2_learnSet_5 : decode cX2_learnSet 5 = .ok (.iconst (-1), 1) := by decide +kernel
theorem dX2_learnSet_6 : decode cX2_learnSet 6 = .ok (.ixor, 1) := by decide +kernel
theorem dX2_learnSet_7 : decode cX2_learnSet 7 = .ok (.iand, 1) := by decide +kernel
theorem dX2_learnSet_8 : decode cX2_learnSet 8 = .ok (.invokevirtual 35, 3) := by decide +kernel
theorem dX2_learnSet_11 : decode cX2_learnSet 11 = .ok (.aload_n 1, 1) := by decide +kernel
theorem dX2_learnSet_12 : decode cX2_learnSet 12 = .ok (.getfield 39, 3) := by decide +kernel
theorem dX2_learnSet_15 : decode cX2_learnSet 15 = .ok (.iload_n 2, 1) := by decide +kernel
theorem dX2_learnSet_16 : decode cX2_learnSet 16 = .ok (.iaload, 1) := by decide +kernel
theorem dX2_learnSet_17 : decode cX2_learnSet 17 = .ok (.ior, 1) := by decide +kernel
theorem dX2_learnSet_18 : decode cX2_learnSet 18 = .ok (.istore 4, 2) := by decide +kernel
theorem dX2_learnSet_20 : decode cX2_learnSet 20 = .ok (.aload_n 0, 1) := by decide +kernel
theorem dX2_learnSet_21 : decode cX2_learnSet 21 = .ok (.getfield 19, 3) := by decide +kernel
theorem dX2_learnSet_24 : decode cX2_learnSet 24 = .ok (.iload_n 3, 1) := by decide +kernel
theorem dX2_learnSet_25 : decode cX2_learnSet 25 = .ok (.iload 4, 2) := by decide +kernel
theorem dX2_learnSet_27 : decode cX2_learnSet 27 = .ok (.iconst 4, 1) := by decide +kernel
theorem dX2_learnSet_28 : decode cX2_learnSet 28 = .ok (.ishl, 1) := by decide +kernel
theorem dX2_learnSet_29 : decode cX2_learnSet 29 = .ok (.iastore, 1) := by decide +kernel
theorem dX2_learnSet_30 : decode cX2_learnSet 30 = .ok (.aload_n 0, 1) := by decide +kernel
theorem dX2_learnSet_31 : decode cX2_learnSet 31 = .ok (.iload_n 2, 1) := by decide +kernel
theorem dX2_learnSet_32 : decode cX2_learnSet 32 = .ok (.iload_n 3, 1) := by decide +kernel
theorem dX2_learnSet_33 : decode cX2_learnSet 33 = .ok (.invokevirtual 42, 3) := by decide +kernel
theorem dX2_learnSet_36 : decode cX2_learnSet 36 = .ok (.istore 5, 2) := by decide +kernel
theorem dX2_learnSet_38 : decode cX2_learnSet 38 = .ok (.aload_n 0, 1) := by decide +kernel
theorem dX2_learnSet_39 : decode cX2_learnSet 39 = .ok (.getfield 19, 3) := by decide +kernel
theorem dX2_learnSet_42 : decode cX2_learnSet 42 = .ok (.iload_n 3, 1) := by decide +kernel
theorem dX2_learnSet_43 : decode cX2_learnSet 43 = .ok (.dup2, 1) := by decide +kernel
theorem dX2_learnSet_44 : decode cX2_learnSet 44 = .ok (.iaload, 1) := by decide +kernel
theorem dX2_learnSet_45 : decode cX2_learnSet 45 = .ok (.aload_n 0, 1) := by decide +kernel
theorem dX2_learnSet_46 : decode cX2_learnSet 46 = .ok (.iload_n 3, 1) := by decide +kernel
theorem dX2_learnSet_47 : decode cX2_learnSet 47 = .ok (.iload 5, 2) := by decide +kernel
theorem dX2_learnSet_49 : decode cX2_learnSet 49 = .ok (.iconst (-1), 1) := by decide +kernel
theorem dX2_learnSet_50 : decode cX2_learnSet 50 = .ok (.ixor, 1) := by decide +kernel
theorem dX2_learnSet_51 : decode cX2_learnSet 51 = .ok (.iand, 1) := by decide +kernel
theorem dX2_learnSet_52 : decode cX2_learnSet 52 = .ok (.invokevirtual 46, 3) := by decide +kernel
theorem dX2_learnSet_55 : decode cX2_learnSet 55 = .ok (.iload 5, 2) := by decide +kernel
theorem dX2_learnSet_57 : decode cX2_learnSet 57 = .ok (.invokestatic 49, 3) := by decide +kernel
theorem dX2_learnSet_60 : decode cX2_learnSet 60 = .ok (.iconst 1, 1) := by decide +kernel
theorem dX2_learnSet_61 : decode cX2_learnSet 61 = .ok (.iand, 1) := by decide +kernel
theorem dX2_learnSet_62 : decode cX2_learnSet 62 = .ok (.iadd, 1) := by decide +kernel
theorem dX2_learnSet_63 : decode cX2_learnSet 63 = .ok (.ior, 1) := by decide +kernel
theorem dX2_learnSet_64 : decode cX2_learnSet 64 = .ok (.iastore, 1) := by decide +kernel
theorem dX2_learnSet_65 : decode cX2_learnSet 65 = .ok (.return_, 1) := by decide +kernel
theorem dX2_aroundOf_0 : decode cX2_aroundOf 0 = .ok (.aload_n 0, 1) := by decide +kernel
theorem dX2_aroundOf_1 : decode cX2_aroundOf 1 = .ok (.getfield 19, 3) := by decide +kernel
theorem dX2_aroundOf_4 : decode cX2_aroundOf 4 = .ok (.iload_n 1, 1) := by decide +kernel
theorem dX2_aroundOf_5 : decode cX2_aroundOf 5 = .ok (.iaload, 1) := by decide +kernel
theorem dX2_aroundOf_6 : decode cX2_aroundOf 6 = .ok (.iconst 4, 1) := by decide +kernel
theorem dX2_aroundOf_7 : decode cX2_aroundOf 7 = .ok (.ishr, 1) := by decide +kernel
theorem dX2_aroundOf_8 : decode cX2_aroundOf 8 = .ok (.ireturn, 1) := by decide +kernel
theorem dX2_oddIn_0 : decode cX2_oddIn 0 = .ok (.aload_n 0, 1) := by decide +kernel
theorem dX2_oddIn_1 : decode cX2_oddIn 1 = .ok (.getfield 19, 3) := by decide +kernel
theorem dX2_oddIn_4 : decode cX2_oddIn 4 = .ok (.iload_n 1, 1) := by decide +kernel
theorem dX2_oddIn_5 : decode cX2_oddIn 5 = .ok (.iaload, 1) := by decide +kernel
theorem dX2_oddIn_6 : decode cX2_oddIn 6 = .ok (.bipush 15, 2) := by decide +kernel
theorem dX2_oddIn_8 : decode cX2_oddIn 8 = .ok (.iand, 1) := by decide +kernel
theorem dX2_oddIn_9 : decode cX2_oddIn 9 = .ok (.ireturn, 1) := by decide +kernel
theorem dX2_partOf_0 : decode cX2_partOf 0 = .ok (.iconst 1, 1) := by decide +kernel
theorem dX2_partOf_1 : decode cX2_partOf 1 = .ok (.iload_n 1, 1) := by decide +kernel
theorem dX2_partOf_2 : decode cX2_partOf 2 = .ok (.ishl, 1) := by decide +kernel
theorem dX2_partOf_3 : decode cX2_partOf 3 = .ok (.istore_n 3, 1) := by decide +kernel
theorem dX2_partOf_4 : decode cX2_partOf 4 = .ok (.iconst 0, 1) := by decide +kernel
theorem dX2_partOf_5 : decode cX2_partOf 5 = .ok (.istore 4, 2) := by decide +kernel
theorem dX2_partOf_7 : decode cX2_partOf 7 = .ok (.iload 4, 2) := by decide +kernel
theorem dX2_partOf_9 : decode cX2_partOf 9 = .ok (.bipush 12, 2) := by decide +kernel
theorem dX2_partOf_11 : decode cX2_partOf 11 = .ok (.if_icmp .ge 32, 3) := by decide +kernel
theorem dX2_partOf_14 : decode cX2_partOf 14 = .ok (.iload_n 3, 1) := by decide +kernel
theorem dX2_partOf_15 : decode cX2_partOf 15 = .ok (.aload_n 0, 1) := by decide +kernel
theorem dX2_partOf_16 : decode cX2_partOf 16 = .ok (.iload_n 3, 1) := by decide +kernel
theorem dX2_partOf_17 : decode cX2_partOf 17 = .ok (.invokevirtual 35, 3) := by decide +kernel
theorem dX2_partOf_20 : decode cX2_partOf 20 = .ok (.iload_n 2, 1) := by decide +kernel
theorem dX2_partOf_21 : decode cX2_partOf 21 = .ok (.iand, 1) := by decide +kernel
theorem dX2_partOf_22 : decode cX2_partOf 22 = .ok (.ior, 1) := by decide +kernel
theorem dX2_partOf_23 : decode cX2_partOf 23 = .ok (.istore 5, 2) := by decide +kernel
theorem dX2_partOf_25 : decode cX2_partOf 25 = .ok (.iload 5, 2) := by decide +kernel
theorem dX2_partOf_27 : decode cX2_partOf 27 = .ok (.iload_n 3, 1) := by decide +kernel
theorem dX2_partOf_28 : decode cX2_partOf 28 = .ok (.if_icmp .ne 6, 3) := by decide +kernel
theorem dX2_partOf_31 : decode cX2_partOf 31 = .ok (.goto 12, 3) := by decide +kernel
theorem dX2_partOf_34 : decode cX2_partOf 34 = .ok (.iload 5, 2) := by decide +kernel
theorem dX2_partOf_36 : decode cX2_partOf 36 = .ok (.istore_n 3, 1) := by decide +kernel
theorem dX2_partOf_37 : decode cX2_partOf 37 = .ok (.iinc 4 1, 3) := by decide +kernel
theorem dX2_partOf_40 : decode cX2_partOf 40 = .ok (.goto (-33), 3) := by decide +kernel
theorem dX2_partOf_43 : decode cX2_partOf 43 = .ok (.iload_n 3, 1) := by decide +kernel
theorem dX2_partOf_44 : decode cX2_partOf 44 = .ok (.ireturn, 1) := by decide +kernel
theorem dX2_oddWithout_0 : decode cX2_oddWithout 0 = .ok (.aload_n 0, 1) := by decide +kernel
theorem dX2_oddWithout_1 : decode cX2_oddWithout 1 = .ok (.aload_n 0, 1) := by decide +kernel
theorem dX2_oddWithout_2 : decode cX2_oddWithout 2 = .ok (.getfield 15, 3) := by decide +kernel
theorem dX2_oddWithout_5 : decode cX2_oddWithout 5 = .ok (.iload_n 1, 1) := by decide +kernel
theorem dX2_oddWithout_6 : decode cX2_oddWithout 6 = .ok (.iconst (-1), 1) := by decide +kernel
theorem dX2_oddWithout_7 : decode cX2_oddWithout 7 = .ok (.ixor, 1) := by decide +kernel
theorem dX2_oddWithout_8 : decode cX2_oddWithout 8 = .ok (.iand, 1) := by decide +kernel
theorem dX2_oddWithout_9 : decode cX2_oddWithout 9 = .ok (.invokevirtual 46, 3) := by decide +kernel
theorem dX2_oddWithout_12 : decode cX2_oddWithout 12 = .ok (.ireturn, 1) := by decide +kernel
theorem dX2_isBarrier_0 : decode cX2_isBarrier 0 = .ok (.aload_n 0, 1) := by decide +kernel
theorem dX2_isBarrier_1 : decode cX2_isBarrier 1 = .ok (.iload_n 1, 1) := by decide +kernel
theorem dX2_isBarrier_2 : decode cX2_isBarrier 2 = .ok (.invokevirtual 54, 3) := by decide +kernel
theorem dX2_isBarrier_5 : decode cX2_isBarrier 5 = .ok (.iload_n 1, 1) := by decide +kernel
theorem dX2_isBarrier_6 : decode cX2_isBarrier 6 = .ok (.invokestatic 49, 3) := by decide +kernel
theorem dX2_isBarrier_9 : decode cX2_isBarrier 9 = .ok (.isub, 1) := by decide +kernel
theorem dX2_isBarrier_10 : decode cX2_isBarrier 10 = .ok (.iload_n 2, 1) := by decide +kernel
theorem dX2_isBarrier_11 : decode cX2_isBarrier 11 = .ok (.if_icmp .ne 7, 3) := by decide +kernel
theorem dX2_isBarrier_14 : decode cX2_isBarrier 14 = .ok (.iconst 1, 1) := by decide +kernel
theorem dX2_isBarrier_15 : decode cX2_isBarrier 15 = .ok (.goto 4, 3) := by decide +kernel
theorem dX2_isBarrier_18 : decode cX2_isBarrier 18 = .ok (.iconst 0, 1) := by decide +kernel
theorem dX2_isBarrier_19 : decode cX2_isBarrier 19 = .ok (.ireturn, 1) := by decide +kernel
theorem dX2_smallestBarrier_0 : decode cX2_smallestBarrier 0 = .ok (.iconst 0, 1) := by decide +kernel
theorem dX2_smallestBarrier_1 : decode cX2_smallestBarrier 1 = .ok (.istore_n 2, 1) := by decide +kernel
theorem dX2_smallestBarrier_2 : decode cX2_smallestBarrier 2 = .ok (.bipush 13, 2) := by decide +kernel
theorem dX2_smallestBarrier_4 : decode cX2_smallestBarrier 4 = .ok (.istore_n 3, 1) := by decide +kernel
theorem dX2_smallestBarrier_5 : decode cX2_smallestBarrier 5 = .ok (.iconst 0, 1) := by decide +kernel
theorem dX2_smallestBarrier_6 : decode cX2_smallestBarrier 6 = .ok (.istore 4, 2) := by decide +kernel
theorem dX2_smallestBarrier_8 : decode cX2_smallestBarrier 8 = .ok (.iload 4, 2) := by decide +kernel
theorem dX2_smallestBarrier_10 : decode cX2_smallestBarrier 10 = .ok (.aload_n 0, 1) := by decide +kernel
theorem dX2_smallestBarrier_11 : decode cX2_smallestBarrier 11 = .ok (.getfield 15, 3) := by decide +kernel
theorem dX2_smallestBarrier_14 : decode cX2_smallestBarrier 14 = .ok (.if_icmp .gt 38, 3) := by decide +kernel
theorem dX2_smallestBarrier_17 : decode cX2_smallestBarrier 17 = .ok (.iload 4, 2) := by decide +kernel
theorem dX2_smallestBarrier_19 : decode cX2_smallestBarrier 19 = .ok (.invokestatic 49, 3) := by decide +kernel
theorem dX2_smallestBarrier_22 : decode cX2_smallestBarrier 22 = .ok (.istore 5, 2) := by decide +kernel
theorem dX2_smallestBarrier_24 : decode cX2_smallestBarrier 24 = .ok (.iload 5, 2) := by decide +kernel
theorem dX2_smallestBarrier_26 : decode cX2_smallestBarrier 26 = .ok (.iload_n 3, 1) := by decide +kernel
theorem dX2_smallestBarrier_27 : decode cX2_smallestBarrier 27 = .ok (.if_icmp .ge 19, 3) := by decide +kernel
theorem dX2_smallestBarrier_30 : decode cX2_smallestBarrier 30 = .ok (.aload_n 0, 1) := by decide +kernel
theorem dX2_smallestBarrier_31 : decode cX2_smallestBarrier 31 = .ok (.iload 4, 2) := by decide +kernel
theorem dX2_smallestBarrier_33 : decode cX2_smallestBarrier 33 = .ok (.iload_n 1, 1) := by decide +kernel
theorem dX2_smallestBarrier_34 : decode cX2_smallestBarrier 34 = .ok (.invokevirtual 57, 3) := by decide +kernel
theorem dX2_smallestBarrier_37 : decode cX2_smallestBarrier 37 = .ok (.ifCond .eq 9, 3) := by decide +kernel
theorem dX2_smallestBarrier_40 : decode cX2_smallestBarrier 40 = .ok (.iload 4, 2) := by decide +kernel
theorem dX2_smallestBarrier_42 : decode cX2_smallestBarrier 42 = .ok (.istore_n 2, 1) := by decide +kernel
theorem dX2_smallestBarrier_43 : decode cX2_smallestBarrier 43 = .ok (.iload 5, 2) := by decide +kernel
theorem dX2_smallestBarrier_45 : decode cX2_smallestBarrier 45 = .ok (.istore_n 3, 1) := by decide +kernel
theorem dX2_smallestBarrier_46 : decode cX2_smallestBarrier 46 = .ok (.iinc 4 1, 3) := by decide +kernel
theorem dX2_smallestBarrier_49 : decode cX2_smallestBarrier 49 = .ok (.goto (-41), 3) := by decide +kernel
theorem dX2_smallestBarrier_52 : decode cX2_smallestBarrier 52 = .ok (.iload_n 2, 1) := by decide +kernel
theorem dX2_smallestBarrier_53 : decode cX2_smallestBarrier 53 = .ok (.ireturn, 1) := by decide +kernel
theorem dX2_greatestBarrier_0 : decode cX2_greatestBarrier 0 = .ok (.iconst 0, 1) := by decide +kernel
theorem dX2_greatestBarrier_1 : decode cX2_greatestBarrier 1 = .ok (.istore_n 2, 1) := by decide +kernel
theorem dX2_greatestBarrier_2 : decode cX2_greatestBarrier 2 = .ok (.iconst (-1), 1) := by decide +kernel
theorem dX2_greatestBarrier_3 : decode cX2_greatestBarrier 3 = .ok (.istore_n 3, 1) := by decide +kernel
theorem dX2_greatestBarrier_4 : decode cX2_greatestBarrier 4 = .ok (.iconst 0, 1) := by decide +kernel
theorem dX2_greatestBarrier_5 : decode cX2_greatestBarrier 5 = .ok (.istore 4, 2) := by decide +kernel
theorem dX2_greatestBarrier_7 : decode cX2_greatestBarrier 7 = .ok (.iload 4, 2) := by decide +kernel
theorem dX2_greatestBarrier_9 : decode cX2_greatestBarrier 9 = .ok (.aload_n 0, 1) := by decide +kernel
theorem dX2_greatestBarrier_10 : decode cX2_greatestBarrier 10 = .ok (.getfield 15, 3) := by decide +kernel
theorem dX2_greatestBarrier_13 : decode cX2_greatestBarrier 13 = .ok (.if_icmp .gt 38, 3) := by decide +kernel
theorem dX2_greatestBarrier_16 : decode cX2_greatestBarrier 16 = .ok (.iload 4, 2) := by decide +kernel
theorem dX2_greatestBarrier_18 : decode cX2_greatestBarrier 18 = .ok (.invokestatic 49, 3) := by decide +kernel
theorem dX2_greatestBarrier_21 : decode cX2_greatestBarrier 21 = .ok (.istore 5, 2) := by decide +kernel
theorem dX2_greatestBarrier_23 : decode cX2_greatestBarrier 23 = .ok (.iload 5, 2) := by decide +kernel
theorem dX2_greatestBarrier_25 : decode cX2_greatestBarrier 25 = .ok (.iload_n 3, 1) := by decide +kernel
theorem dX2_greatestBarrier_26 : decode cX2_greatestBarrier 26 = .ok (.if_icmp .le 19, 3) := by decide +kernel
theorem dX2_greatestBarrier_29 : decode cX2_greatestBarrier 29 = .ok (.aload_n 0, 1) := by decide +kernel
theorem dX2_greatestBarrier_30 : decode cX2_greatestBarrier 30 = .ok (.iload 4, 2) := by decide +kernel
theorem dX2_greatestBarrier_32 : decode cX2_greatestBarrier 32 = .ok (.iload_n 1, 1) := by decide +kernel
theorem dX2_greatestBarrier_33 : decode cX2_greatestBarrier 33 = .ok (.invokevirtual 57, 3) := by decide +kernel
theorem dX2_greatestBarrier_36 : decode cX2_greatestBarrier 36 = .ok (.ifCond .eq 9, 3) := by decide +kernel
theorem dX2_greatestBarrier_39 : decode cX2_greatestBarrier 39 = .ok (.iload 4, 2) := by decide +kernel
theorem dX2_greatestBarrier_41 : decode cX2_greatestBarrier 41 = .ok (.istore_n 2, 1) := by decide +kernel
theorem dX2_greatestBarrier_42 : decode cX2_greatestBarrier 42 = .ok (.iload 5, 2) := by decide +kernel
theorem dX2_greatestBarrier_44 : decode cX2_greatestBarrier 44 = .ok (.istore_n 3, 1) := by decide +kernel
theorem dX2_greatestBarrier_45 : decode cX2_greatestBarrier 45 = .ok (.iinc 4 1, 3) := by decide +kernel
theorem dX2_greatestBarrier_48 : decode cX2_greatestBarrier 48 = .ok (.goto (-41), 3) := by decide +kernel
theorem dX2_greatestBarrier_51 : decode cX2_greatestBarrier 51 = .ok (.iload_n 2, 1) := by decide +kernel
theorem dX2_greatestBarrier_52 : decode cX2_greatestBarrier 52 = .ok (.ireturn, 1) := by decide +kernel
theorem dX3_init_0 : decode cX3_init 0 = .ok (.aload_n 0, 1) := by decide +kernel
theorem dX3_init_1 : decode cX3_init 1 = .ok (.invokespecial 3, 3) := by decide +kernel
theorem dX3_init_4 : decode cX3_init 4 = .ok (.aload_n 0, 1) := by decide +kernel
theorem dX3_init_5 : decode cX3_init 5 = .ok (.bipush 12, 2) := by decide +kernel
theorem dX3_init_7 : decode cX3_init 7 = .ok (.newarray .int, 2) := by decide +kernel
theorem dX3_init_9 : decode cX3_init 9 = .ok (.putfield 9, 3) := by decide +kernel
theorem dX3_init_12 : decode cX3_init 12 = .ok (.aload_n 0, 1) := by decide +kernel
theorem dX3_init_13 : decode cX3_init 13 = .ok (.iconst 0, 1) := by decide +kernel
theorem dX3_init_14 : decode cX3_init 14 = .ok (.newarray .byte, 2) := by decide +kernel
theorem dX3_init_16 : decode cX3_init 16 = .ok (.putfield 15, 3) := by decide +kernel
theorem dX3_init_19 : decode cX3_init 19 = .ok (.return_, 1) := by decide +kernel
theorem dX3_read_0 : decode cX3_read 0 = .ok (.aload_n 0, 1) := by decide +kernel
theorem dX3_read_1 : decode cX3_read 1 = .ok (.aload_n 1, 1) := by decide +kernel
theorem dX3_read_2 : decode cX3_read 2 = .ok (.putfield 15, 3) := by decide +kernel
theorem dX3_read_5 : decode cX3_read 5 = .ok (.aload_n 0, 1) := by decide +kernel
theorem dX3_read_6 : decode cX3_read 6 = .ok (.iload_n 2, 1) := by decide +kernel
theorem dX3_read_7 : decode cX3_read 7 = .ok (.putfield 19, 3) := by decide +kernel
theorem dX3_read_10 : decode cX3_read 10 = .ok (.aload_n 0, 1) := by decide +kernel
theorem dX3_read_11 : decode cX3_read 11 = .ok (.iconst 0, 1) := by decide +kernel
theorem dX3_read_12 : decode cX3_read 12 = .ok (.putfield 23, 3) := by decide +kernel
theorem dX3_read_15 : decode cX3_read 15 = .ok (.aload_n 0, 1) := by decide +kernel
theorem dX3_read_16 : decode cX3_read 16 = .ok (.iconst 0, 1) := by decide +kernel
theorem dX3_read_17 : decode cX3_read 17 = .ok (.putfield 26, 3) := by decide +kernel
theorem dX3_read_20 : decode cX3_read 20 = .ok (.aload_n 0, 1) := by decide +kernel
theorem dX3_read_21 : decode cX3_read 21 = .ok (.iconst (-1), 1) := by decide +kernel
theorem dX3_read_22 : decode cX3_read 22 = .ok (.putfield 29, 3) := by decide +kernel
theorem dX3_read_25 : decode cX3_read 25 = .ok (.aload_n 0, 1) := by decide +kernel
theorem dX3_read_26 : decode cX3_read 26 = .ok (.iconst 0, 1) := by decide +kernel
theorem dX3_read_27 : decode cX3_read 27 = .ok (.putfield 32, 3) := by decide +kernel
theorem dX3_read_30 : decode cX3_read 30 = .ok (.aload_n 0, 1) := by decide +kernel
theorem dX3_read_31 : decode cX3_read 31 = .ok (.aload_n 3, 1) := by decide +kernel
theorem dX3_read_32 : decode cX3_read 32 = .ok (.invokevirtual 36, 3) := by decide +kernel
theorem dX3_read_35 : decode cX3_read 35 = .ok (.iconst 0, 1) := by decide +kernel
theorem dX3_read_36 : decode cX3_read 36 = .ok (.istore 4, 2) := by decide +kernel
theorem dX3_read_38 : decode cX3_read 38 = .ok (.iload 4, 2) := by decide +kernel
theorem dX3_read_40 : decode cX3_read 40 = .ok (.sipush 500, 3) := by decide +kernel
theorem dX3_read_43 : decode cX3_read 43 = .ok (.if_icmp .ge 28, 3) := by decide +kernel
theorem dX3_read_46 : decode cX3_read 46 = .ok (.aload_n 0, 1) := by decide +kernel
theorem dX3_read_47 : decode cX3_read 47 = .ok (.getfield 26, 3) := by decide +kernel
theorem dX3_read_50 : decode cX3_read 50 = .ok (.ifCond .ne 21, 3) := by decide +kernel
theorem dX3_read_53 : decode cX3_read 53 = .ok (.aload_n 0, 1) := by decide +kernel
theorem dX3_read_54 : decode cX3_read 54 = .ok (.invokevirtual 40, 3) := by decide +kernel
theorem dX3_read_57 : decode cX3_read 57 = .ok (.ifCond .ne 14, 3) := by decide +kernel
theorem dX3_read_60 : decode cX3_read 60 = .ok (.aload_n 0, 1) := by decide +kernel
theorem dX3_read_61 : decode cX3_read 61 = .ok (.aload_n 3, 1) := by decide +kernel
theorem dX3_read_62 : decode cX3_read 62 = .ok (.invokevirtual 44, 3) := by decide +kernel
theorem dX3_read_65 : decode cX3_read 65 = .ok (.iinc 4 1, 3) := by decide +kernel
theorem dX3_read_68 : decode cX3_read 68 = .ok (.goto (-30), 3) := by decide +kernel
theorem dX3_read_71 : decode cX3_read 71 = .ok (.aload_n 0, 1) := by decide +kernel
theorem dX3_read_72 : decode cX3_read 72 = .ok (.getfield 26, 3) := by decide +kernel
theorem dX3_read_75 : decode cX3_read 75 = .ok (.ifCond .ne 26, 3) := by decide +kernel
theorem dX3_read_78 : decode cX3_read 78 = .ok (.aload_n 0, 1) := by decide +kernel
theorem dX3_read_79 : decode cX3_read 79 = .ok (.getfield 32, 3) := by decide +kernel
theorem dX3_read_82 : decode cX3_read 82 = .ok (.ifCond .ne 10, 3) := by decide +kernel
theorem dX3_read_85 : decode cX3_read 85 = .ok (.aload_n 3, 1) := by decide +kernel
theorem dX3_read_86 : decode cX3_read 86 = .ok (.invokevirtual 47, 3) := by decide +kernel
theorem dX3_read_89 : decode cX3_read 89 = .ok (.ifCond .ne 12, 3) := by decide +kernel
theorem dX3_read_92 : decode cX3_read 92 = .ok (.aload_n 0, 1) := by decide +kernel
theorem dX3_read_93 : decode cX3_read 93 = .ok (.iconst 3, 1) := by decide +kernel
theorem dX3_read_94 : decode cX3_read 94 = .ok (.aload_n 0, 1) := by decide +kernel
theorem dX3_read_95 : decode cX3_read 95 = .ok (.getfield 19, 3) := by decide +kernel
theorem dX3_read_98 : decode cX3_read 98 = .ok (.invokevirtual 52, 3) := by decide +kernel
theorem dX3_read_101 : decode cX3_read 101 = .ok (.return_, 1) := by decide +kernel
theorem dX3_readNodes_0 : decode cX3_readNodes 0 = .ok (.aload_n 0, 1) := by decide +kernel
theorem dX3_readNodes_1 : decode cX3_readNodes 1 = .ok (.ldc 56, 2) := by decide +kernel
theorem dX3_readNodes_3 : decode cX3_readNodes 3 = .ok (.invokevirtual 58, 3) := by decide +kernel
theorem dX3_readNodes_6 : decode cX3_readNodes 6 = .ok (.ifCond .ne 12, 3) := by decide +kernel
theorem dX3_readNodes_9 : decode cX3_readNodes 9 = .ok (.aload_n 0, 1) := by decide +kernel
theorem dX3_readNodes_10 : decode cX3_readNodes 10 = .ok (.iconst 1, 1) := by decide +kernel
theorem dX3_readNodes_11 : decode cX3_readNodes 11 = .ok (.aload_n 0, 1) := by decide +kernel
theorem dX3_readNodes_12 : decode cX3_readNodes 12 = .ok (.getfield 23, 3) := by decide +kernel
theorem dX3_readNodes_15 : decode cX3_readNodes 15 = .ok (.invokevirtual 52, 3) := by decide +kernel
theorem dX3_readNodes_18 : decode cX3_readNodes 18 = .ok (.aload_n 0, 1) := by decide +kernel
theorem dX3_readNodes_19 : decode cX3_readNodes 19 = .ok (.iconst 1, 1) := by decide +kernel
theorem dX3_readNodes_20 : decode cX3_readNodes 20 = .ok (.bipush 12, 2) := by decide +kernel
theorem dX3_readNodes_22 : decode cX3_readNodes 22 = .ok (.invokevirtual 62, 3) := by decide +kernel
theorem dX3_readNodes_25 : decode cX3_readNodes 25 = .ok (.istore_n 2, 1) := by decide +kernel
theorem dX3_readNodes_26 : decode cX3_readNodes 26 = .ok (.aload_n 0, 1) := by decide +kernel
theorem dX3_readNodes_27 : decode cX3_readNodes 27 = .ok (.invokevirtual 66, 3) := by decide +kernel
theorem dX3_readNodes_30 : decode cX3_readNodes 30 = .ok (.aload_n 0, 1) := by decide +kernel
theorem dX3_readNodes_31 : decode cX3_readNodes 31 = .ok (.getfield 26, 3) := by decide +kernel
theorem dX3_readNodes_34 : decode cX3_readNodes 34 = .ok (.ifCond .ne 8, 3) := by decide +kernel
theorem dX3_readNodes_37 : decode cX3_readNodes 37 = .ok (.aload_n 1, 1) := by decide +kernel
theorem dX3_readNodes_38 : decode cX3_readNodes 38 = .ok (.iload_n 2, 1) := by decide +kernel
theorem dX3_readNodes_39 : decode cX3_readNodes 39 = .ok (.invokevirtual 69, 3) := by decide +kernel
theorem dX3_readNodes_42 : decode cX3_readNodes 42 = .ok (.return_, 1) := by decide +kernel
theorem dX3_readStatement_0 : decode cX3_readStatement 0 = .ok (.aload_n 0, 1) := by decide +kernel
theorem dX3_readStatement_1 : decode cX3_readStatement 1 = .ok (.ldc 73, 2) := by decide +kernel
theorem dX3_readStatement_3 : decode cX3_readStatement 3 = .ok (.invokevirtual 58, 3) := by decide +kernel
theorem dX3_readStatement_6 : decode cX3_readStatement 6 = .ok (.ifCond .eq 11, 3) := by decide +kernel
theorem dX3_readStatement_9 : decode cX3_readStatement 9 = .ok (.aload_n 0, 1) := by decide +kernel
theorem dX3_readStatement_10 : decode cX3_readStatement 10 = .ok (.aload_n 1, 1) := by decide +kernel
theorem dX3_readStatement_11 : decode cX3_readStatement 11 = .ok (.invokevirtual 75, 3) := by decide +kernel
theorem dX3_readStatement_14 : decode cX3_readStatement 14 = .ok (.goto 63, 3) := by decide +kernel
theorem dX3_readStatement_17 : decode cX3_readStatement 17 = .ok (.aload_n 0, 1) := by decide +kernel
theorem dX3_readStatement_18 : decode cX3_readStatement 18 = .ok (.ldc 78, 2) := by decide +kernel
theorem dX3_readStatement_20 : decode cX3_readStatement 20 = .ok (.invokevirtual 58, 3) := by decide +kernel
theorem dX3_readStatement_23 : decode cX3_readStatement 23 = .ok (.ifCond .eq 11, 3) := by decide +kernel
theorem dX3_readStatement_26 : decode cX3_readStatement 26 = .ok (.aload_n 0, 1) := by decide +kernel
theorem dX3_readStatement_27 : decode cX3_readStatement 27 = .ok (.aload_n 1, 1) := by decide +kernel
theorem dX3_readStatement_28 : decode cX3_readStatement 28 = .ok (.invokevirtual 79, 3) := by decide +kernel
theorem dX3_readStatement_31 : decode cX3_readStatement 31 = .ok (.goto 46, 3) := by decide +kernel
theorem dX3_readStatement_34 : decode cX3_readStatement 34 = .ok (.aload_n 0, 1) := by decide +kernel
theorem dX3_readStatement_35 : decode cX3_readStatement 35 = .ok (.ldc 82, 2) := by decide +kernel
theorem dX3_readStatement_37 : decode cX3_readStatement 37 = .ok (.invokevirtual 58, 3) := by decide +kernel
theorem dX3_readStatement_40 : decode cX3_readStatement 40 = .ok (.ifCond .eq 11, 3) := by decide +kernel
theorem dX3_readStatement_43 : decode cX3_readStatement 43 = .ok (.aload_n 0, 1) := by decide +kernel
theorem dX3_readStatement_44 : decode cX3_readStatement 44 = .ok (.aload_n 1, 1) := by decide +kernel
theorem dX3_readStatement_45 : decode cX3_readStatement 45 = .ok (.invokevirtual 84, 3) := by decide +kernel
theorem dX3_readStatement_48 : decode cX3_readStatement 48 = .ok (.goto 29, 3) := by decide +kernel
theorem dX3_readStatement_51 : decode cX3_readStatement 51 = .ok (.aload_n 0, 1) := by decide +kernel
theorem dX3_readStatement_52 : decode cX3_readStatement 52 = .ok (.ldc 87, 2) := by decide +kernel
theorem dX3_readStatement_54 : decode cX3_readStatement 54 = .ok (.invokevirtual 58, 3) := by decide +kernel
theorem dX3_readStatement_57 : decode cX3_readStatement 57 = .ok (.ifCond .eq 11, 3) := by decide +kernel
theorem dX3_readStatement_60 : decode cX3_readStatement 60 = .ok (.aload_n 0, 1) := by decide +kernel
theorem dX3_readStatement_61 : decode cX3_readStatement 61 = .ok (.aload_n 1, 1) := by decide +kernel
theorem dX3_readStatement_62 : decode cX3_readStatement 62 = .ok (.invokevirtual 89, 3) := by decide +kernel
theorem dX3_readStatement_65 : decode cX3_readStatement 65 = .ok (.goto 12, 3) := by decide +kernel
theorem dX3_readStatement_68 : decode cX3_readStatement 68 = .ok (.aload_n 0, 1) := by decide +kernel
theorem dX3_readStatement_69 : decode cX3_readStatement 69 = .ok (.iconst 1, 1) := by decide +kernel
theorem dX3_readStatement_70 : decode cX3_readStatement 70 = .ok (.aload_n 0, 1) := by decide +kernel
theorem dX3_readStatement_71 : decode cX3_readStatement 71 = .ok (.getfield 23, 3) := by decide +kernel
theorem dX3_readStatement_74 : decode cX3_readStatement 74 = .ok (.invokevirtual 52, 3) := by decide +kernel
theorem dX3_readStatement_77 : decode cX3_readStatement 77 = .ok (.return_, 1) := by decide +kernel
theorem dX3_readLine_0 : decode cX3_readLine 0 = .ok (.aload_n 0, 1) := by decide +kernel
theorem dX3_readLine_1 : decode cX3_readLine 1 = .ok (.iconst 0, 1) := by decide +kernel
theorem dX3_readLine_2 : decode cX3_readLine 2 = .ok (.aload_n 1, 1) := by decide +kernel
theorem dX3_readLine_3 : decode cX3_readLine 3 = .ok (.getfield 92, 3) := by decide +kernel
theorem dX3_readLine_6 : decode cX3_readLine 6 = .ok (.iconst 1, 1) := by decide +kernel
theorem dX3_readLine_7 : decode cX3_readLine 7 = .ok (.isub, 1) := by decide +kernel
theorem dX3_readLine_8 : decode cX3_readLine 8 = .ok (.invokevirtual 62, 3) := by decide +kernel
theorem dX3_readLine_11 : decode cX3_readLine 11 = .ok (.istore_n 2, 1) := by decide +kernel
theorem dX3_readLine_12 : decode cX3_readLine 12 = .ok (.aload_n 0, 1) := by decide +kernel
theorem dX3_readLine_13 : decode cX3_readLine 13 = .ok (.iconst 0, 1) := by decide +kernel
theorem dX3_readLine_14 : decode cX3_readLine 14 = .ok (.aload_n 1, 1) := by decide +kernel
theorem dX3_readLine_15 : decode cX3_readLine 15 = .ok (.getfield 92, 3) := by decide +kernel
theorem dX3_readLine_18 : decode cX3_readLine 18 = .ok (.iconst 1, 1) := by decide +kernel
theorem dX3_readLine_19 : decode cX3_readLine 19 = .ok (.isub, 1) := by decide +kernel
theorem dX3_readLine_20 : decode cX3_readLine 20 = .ok (.invokevirtual 62, 3) := by decide +kernel
theorem dX3_readLine_23 : decode cX3_readLine 23 = .ok (.istore_n 3, 1) := by decide +kernel
theorem dX3_readLine_24 : decode cX3_readLine 24 = .ok (.aload_n 0, 1) := by decide +kernel
theorem dX3_readLine_25 : decode cX3_readLine 25 = .ok (.iload_n 2, 1) := by decide +kernel
theorem dX3_readLine_26 : decode cX3_readLine 26 = .ok (.iload_n 3, 1) := by decide +kernel
theorem dX3_readLine_27 : decode cX3_readLine 27 = .ok (.invokevirtual 94, 3) := by decide +kernel
theorem dX3_readLine_30 : decode cX3_readLine 30 = .ok (.iconst 1, 1) := by decide +kernel
theorem dX3_readLine_31 : decode cX3_readLine 31 = .ok (.istore 4, 2) := by decide +kernel
theorem dX3_readLine_33 : decode cX3_readLine 33 = .ok (.aload_n 0, 1) := by decide +kernel
theorem dX3_readLine_34 : decode cX3_readLine 34 = .ok (.invokevirtual 97, 3) := by decide +kernel
theorem dX3_readLine_37 : decode cX3_readLine 37 = .ok (.ifCond .eq 13, 3) := by decide +kernel
theorem dX3_readLine_40 : decode cX3_readLine 40 = .ok (.aload_n 0, 1) := by decide +kernel
theorem dX3_readLine_41 : decode cX3_readLine 41 = .ok (.iconst 0, 1) := by decide +kernel
theorem dX3_readLine_42 : decode cX3_readLine 42 = .ok (.sipush 999, 3) := by decide +kernel
theorem dX3_readLine_45 : decode cX3_readLine 45 = .ok (.invokevirtual 62, 3) := by decide +kernel
theorem dX3_readLine_48 : decode cX3_readLine 48 = .ok (.istore 4, 2) := by decide +kernel
theorem dX3_readLine_50 : decode cX3_readLine 50 = .ok (.aload_n 0, 1) := by decide +kernel
theorem dX3_readLine_51 : decode cX3_readLine 51 = .ok (.invokevirtual 66, 3) := by decide +kernel
theorem dX3_readLine_54 : decode cX3_readLine 54 = .ok (.aload_n 0, 1) := by decide +kernel
theorem dX3_readLine_55 : decode cX3_readLine 55 = .ok (.getfield 26, 3) := by decide +kernel
theorem dX3_readLine_58 : decode cX3_readLine 58 = .ok (.ifCond .ne 11, 3) := by decide +kernel
theorem dX3_readLine_61 : decode cX3_readLine 61 = .ok (.aload_n 1, 1) := by decide +kernel
theorem dX3_readLine_62 : decode cX3_readLine 62 = .ok (.iload_n 2, 1) := by decide +kernel
theorem dX3_readLine_63 : decode cX3_readLine 63 = .ok (.iload_n 3, 1) := by decide +kernel
theorem dX3_readLine_64 : decode cX3_readLine 64 = .ok (.iload 4, 2) := by decide +kernel
theorem dX3_readLine_66 : decode cX3_readLine 66 = .ok (.invokevirtual 100, 3) := by decide +kernel
theorem dX3_readLine_69 : decode cX3_readLine 69 = .ok (.return_, 1) := by decide +kernel
theorem dX3_readRing_0 : decode cX3_readRing 0 = .ok (.iconst 0, 1) := by decide +kernel
theorem dX3_readRing_1 : decode cX3_readRing 1 = .ok (.istore_n 2, 1) := by decide +kernel
theorem dX3_readRing_2 : decode cX3_readRing 2 = .ok (.iconst 0, 1) := by decide +kernel
theorem dX3_readRing_3 : decode cX3_readRing 3 = .ok (.istore_n 3, 1) := by decide +kernel
theorem dX3_readRing_4 : decode cX3_readRing 4 = .ok (.iload_n 3, 1) := by decide +kernel
theorem dX3_readRing_5 : decode cX3_readRing 5 = .ok (.bipush 12, 2) := by decide +kernel
theorem dX3_readRing_7 : decode cX3_readRing 7 = .ok (.if_icmp .ge 88, 3) := by decide +kernel
theorem dX3_readRing_10 : decode cX3_readRing 10 = .ok (.aload_n 0, 1) := by decide +kernel
theorem dX3_readRing_11 : decode cX3_readRing 11 = .ok (.getfield 26, 3) := by decide +kernel
theorem dX3_readRing_14 : decode cX3_readRing 14 = .ok (.ifCond .ne 81, 3) := by decide +kernel
theorem dX3_readRing_17 : decode cX3_readRing 17 = .ok (.iload_n 3, 1) := by decide +kernel
theorem dX3_readRing_18 : decode cX3_readRing 18 = .ok (.iconst 2, 1) := by decide +kernel
theorem dX3_readRing_19 : decode cX3_readRing 19 = .ok (.if_icmp .lt 10, 3) := by decide +kernel
theorem dX3_readRing_22 : decode cX3_readRing 22 = .ok (.aload_n 0, 1) := by decide +kernel
theorem dX3_readRing_23 : decode cX3_readRing 23 = .ok (.invokevirtual 97, 3) := by decide +kernel
theorem dX3_readRing_26 : decode cX3_readRing 26 = .ok (.ifCond .eq 69, 3) := by decide +kernel
theorem dX3_readRing_29 : decode cX3_readRing 29 = .ok (.aload_n 0, 1) := by decide +kernel
theorem dX3_readRing_30 : decode cX3_readRing 30 = .ok (.iconst 0, 1) := by decide +kernel
theorem dX3_readRing_31 : decode cX3_readRing 31 = .ok (.aload_n 1, 1) := by decide +kernel
theorem dX3_readRing_32 : decode cX3_readRing 32 = .ok (.getfield 92, 3) := by decide +kernel
theorem dX3_readRing_35 : decode cX3_readRing 35 = .ok (.iconst 1, 1) := by decide +kernel
theorem dX3_readRing_36 : decode cX3_readRing 36 = .ok (.isub, 1) := by decide +kernel
theorem dX3_readRing_37 : decode cX3_readRing 37 = .ok (.invokevirtual 62, 3) := by decide +kernel
theorem dX3_readRing_40 : decode cX3_readRing 40 = .ok (.istore 4, 2) := by decide +kernel
theorem dX3_readRing_42 : decode cX3_readRing 42 = .ok (.aload_n 0, 1) := by decide +kernel
theorem dX3_readRing_43 : decode cX3_readRing 43 = .ok (.getfield 26, 3) := by decide +kernel
theorem dX3_readRing_46 : decode cX3_readRing 46 = .ok (.ifCond .ne 21, 3) := by decide +kernel
theorem dX3_readRing_49 : decode cX3_readRing 49 = .ok (.iload_n 2, 1) := by decide +kernel
theorem dX3_readRing_50 : decode cX3_readRing 50 = .ok (.iload 4, 2) := by decide +kernel
theorem dX3_readRing_52 : decode cX3_readRing 52 = .ok (.invokestatic 104, 3) := by decide +kernel
theorem dX3_readRing_55 : decode cX3_readRing 55 = .ok (.ifCond .eq 12, 3) := by decide +kernel
theorem dX3_readRing_58 : decode cX3_readRing 58 = .ok (.aload_n 0, 1) := by decide +kernel
theorem dX3_readRing_59 : decode cX3_readRing 59 = .ok (.iconst 2, 1) := by decide +kernel
theorem dX3_readRing_60 : decode cX3_readRing 60 = .ok (.aload_n 0, 1) := by decide +kernel
theorem dX3_readRing_61 : decode cX3_readRing 61 = .ok (.getfield 108, 3) := by decide +kernel
theorem dX3_readRing_64 : decode cX3_readRing 64 = .ok (.invokevirtual 52, 3) := by decide +kernel
theorem dX3_readRing_67 : decode cX3_readRing 67 = .ok (.aload_n 0, 1) := by decide +kernel
theorem dX3_readRing_68 : decode cX3_readRing 68 = .ok (.getfield 26, 3) := by decide +kernel
theorem dX3_readRing_71 : decode cX3_readRing 71 = .ok (.ifCond .ne 18, 3) := by decide +kernel
theorem dX3_readRing_74 : decode cX3_readRing 74 = .ok (.iload_n 2, 1) := by decide +kernel
theorem dX3_readRing_75 : decode cX3_readRing 75 = .ok (.iconst 1, 1) := by decide +kernel
theorem dX3_readRing_76 : decode cX3_readRing 76 = .ok (.iload 4, 2) := by decide +kernel
theorem dX3_readRing_78 : decode cX3_readRing 78 = .ok (.ishl, 1) := by decide +kernel
theorem dX3_readRing_79 : decode cX3_readRing 79 = .ok (.ior, 1) := by decide +kernel
theorem dX3_readRing_80 : decode cX3_readRing 80 = .ok (.istore_n 2, 1) := by decide +kernel
theorem dX3_readRing_81 : decode cX3_readRing 81 = .ok (.aload_n 0, 1) := by decide +kernel
theorem dX3_readRing_82 : decode cX3_readRing 82 = .ok (.getfield 9, 3) := by decide +kernel
theorem dX3_readRing_85 : decode cX3_readRing 85 = .ok (.iload_n 3, 1) := by decide +kernel
theorem dX3_readRing_86 : decode cX3_readRing 86 = .ok (.iload 4, 2) := by decide +kernel
theorem dX3_readRing_88 : decode cX3_readRing 88 = .ok (.iastore, 1) := by decide +kernel
theorem dX3_readRing_89 : decode cX3_readRing 89 = .ok (.iinc 3 1, 3) := by decide +kernel
theorem dX3_readRing_92 : decode cX3_readRing 92 = .ok (.goto (-88), 3) := by decide +kernel
theorem dX3_readRing_95 : decode cX3_readRing 95 = .ok (.aload_n 0, 1) := by decide +kernel
theorem dX3_readRing_96 : decode cX3_readRing 96 = .ok (.invokevirtual 66, 3) := by decide +kernel
theorem dX3_readRing_99 : decode cX3_readRing 99 = .ok (.iconst 0, 1) := by decide +kernel
theorem dX3_readRing_100 : decode cX3_readRing 100 = .ok (.istore 4, 2) := by decide +kernel
theorem dX3_readRing_102 : decode cX3_readRing 102 = .ok (.iload 4, 2) := by decide +kernel
theorem dX3_readRing_104 : decode cX3_readRing 104 = .ok (.iload_n 3, 1) := by decide +kernel
theorem dX3_readRing_105 : decode cX3_readRing 105 = .ok (.if_icmp .ge 48, 3) := by decide +kernel
theorem dX3_readRing_108 : decode cX3_readRing 108 = .ok (.aload_n 0, 1) := by decide +kernel
theorem dX3_readRing_109 : decode cX3_readRing 109 = .ok (.getfield 26, 3) := by decide +kernel
theorem dX3_readRing_112 : decode cX3_readRing 112 = .ok (.ifCond .ne 41, 3) := by decide +kernel
theorem dX3_readRing_115 : decode cX3_readRing 115 = .ok (.aload_n 1, 1) := by decide +kernel
theorem dX3_readRing_116 : decode cX3_readRing 116 = .ok (.aload_n 0, 1) := by decide +kernel
theorem dX3_readRing_117 : decode cX3_readRing 117 = .ok (.getfield 9, 3) := by decide +kernel
theorem dX3_readRing_120 : decode cX3_readRing 120 = .ok (.iload 4, 2) := by decide +kernel
theorem dX3_readRing_122 : decode cX3_readRing 122 = .ok (.iaload, 1) := by decide +kernel
theorem dX3_readRing_123 : decode cX3_readRing 123 = .ok (.aload_n 0, 1) := by decide +kernel
theorem dX3_readRing_124 : decode cX3_readRing 124 = .ok (.getfield 9, 3) := by decide +kernel
theorem dX3_readRing_127 : decode cX3_readRing 127 = .ok (.iload 4, 2) := by decide +kernel
theorem dX3_readRing_129 : decode cX3_readRing 129 = .ok (.iconst 1, 1) := by decide +kernel
theorem dX3_readRing_130 : decode cX3_readRing 130 = .ok (.iadd, 1) := by decide +kernel
theorem dX3_readRing_131 : decode cX3_readRing 131 = .ok (.iload_n 3, 1) := by decide +kernel
theorem dX3_readRing_132 : decode cX3_readRing 132 = .ok (.if_icmp .ge 10, 3) := by decide +kernel
theorem dX3_readRing_135 : decode cX3_readRing 135 = .ok (.iload 4, 2) := by decide +kernel
theorem dX3_readRing_137 : decode cX3_readRing 137 = .ok (.iconst 1, 1) := by decide +kernel
theorem dX3_readRing_138 : decode cX3_readRing 138 = .ok (.iadd, 1) := by decide +kernel
theorem dX3_readRing_139 : decode cX3_readRing 139 = .ok (.goto 4, 3) := by decide +kernel
theorem dX3_readRing_142 : decode cX3_readRing 142 = .ok (.iconst 0, 1) := by decide +kernel
theorem dX3_readRing_143 : decode cX3_readRing 143 = .ok (.iaload, 1) := by decide +kernel
theorem dX3_readRing_144 : decode cX3_readRing 144 = .ok (.invokevirtual 111, 3) := by decide +kernel
theorem dX3_readRing_147 : decode cX3_readRing 147 = .ok (.iinc 4 1, 3) := by decide +kernel
theorem dX3_readRing_150 : decode cX3_readRing 150 = .ok (.goto (-48), 3) := by decide +kernel
theorem dX3_readRing_153 : decode cX3_readRing 153 = .ok (.return_, 1) := by decide +kernel
theorem dX3_readAll_0 : decode cX3_readAll 0 = .ok (.aload_n 0, 1) := by decide +kernel
theorem dX3_readAll_1 : decode cX3_readAll 1 = .ok (.invokevirtual 66, 3) := by decide +kernel
theorem dX3_readAll_4 : decode cX3_readAll 4 = .ok (.iconst 0, 1) := by decide +kernel
theorem dX3_readAll_5 : decode cX3_readAll 5 = .ok (.istore_n 2, 1) := by decide +kernel
theorem dX3_readAll_6 : decode cX3_readAll 6 = .ok (.iload_n 2, 1) := by decide +kernel
theorem dX3_readAll_7 : decode cX3_readAll 7 = .ok (.aload_n 1, 1) := by decide +kernel
theorem dX3_readAll_8 : decode cX3_readAll 8 = .ok (.getfield 92, 3) := by decide +kernel
theorem dX3_readAll_11 : decode cX3_readAll 11 = .ok (.if_icmp .ge 40, 3) := by decide +kernel
theorem dX3_readAll_14 : decode cX3_readAll 14 = .ok (.aload_n 0, 1) := by decide +kernel
theorem dX3_readAll_15 : decode cX3_readAll 15 = .ok (.getfield 26, 3) := by decide +kernel
theorem dX3_readAll_18 : decode cX3_readAll 18 = .ok (.ifCond .ne 33, 3) := by decide +kernel
theorem dX3_readAll_21 : decode cX3_readAll 21 = .ok (.iload_n 2, 1) := by decide +kernel
theorem dX3_readAll_22 : decode cX3_readAll 22 = .ok (.iconst 1, 1) := by decide +kernel
theorem dX3_readAll_23 : decode cX3_readAll 23 = .ok (.iadd, 1) := by decide +kernel
theorem dX3_readAll_24 : decode cX3_readAll 24 = .ok (.istore_n 3, 1) := by decide +kernel
theorem dX3_readAll_25 : decode cX3_readAll 25 = .ok (.iload_n 3, 1) := by decide +kernel
theorem dX3_readAll_26 : decode cX3_readAll 26 = .ok (.aload_n 1, 1) := by decide +kernel
theorem dX3_readAll_27 : decode cX3_readAll 27 = .ok (.getfield 92, 3) := by decide +kernel
theorem dX3_readAll_30 : decode cX3_readAll 30 = .ok (.if_icmp .ge 15, 3) := by decide +kernel
theorem dX3_readAll_33 : decode cX3_readAll 33 = .ok (.aload_n 1, 1) := by decide +kernel
theorem dX3_readAll_34 : decode cX3_readAll 34 = .ok (.iload_n 2, 1) := by decide +kernel
theorem dX3_readAll_35 : decode cX3_readAll 35 = .ok (.iload_n 3, 1) := by decide +kernel
theorem dX3_readAll_36 : decode cX3_readAll 36 = .ok (.invokevirtual 111, 3) := by decide +kernel
theorem dX3_readAll_39 : decode cX3_readAll 39 = .ok (.iinc 3 1, 3) := by decide +kernel
theorem dX3_readAll_42 : decode cX3_readAll 42 = .ok (.goto (-17), 3) := by decide +kernel
theorem dX3_readAll_45 : decode cX3_readAll 45 = .ok (.iinc 2 1, 3) := by decide +kernel
theorem dX3_readAll_48 : decode cX3_readAll 48 = .ok (.goto (-42), 3) := by decide +kernel
theorem dX3_readAll_51 : decode cX3_readAll 51 = .ok (.return_, 1) := by decide +kernel
theorem dX3_readPair_0 : decode cX3_readPair 0 = .ok (.aload_n 0, 1) := by decide +kernel
theorem dX3_readPair_1 : decode cX3_readPair 1 = .ok (.iconst 0, 1) := by decide +kernel
theorem dX3_readPair_2 : decode cX3_readPair 2 = .ok (.aload_n 1, 1) := by decide +kernel
theorem dX3_readPair_3 : decode cX3_readPair 3 = .ok (.getfield 92, 3) := by decide +kernel
theorem dX3_readPair_6 : decode cX3_readPair 6 = .ok (.iconst 1, 1) := by decide +kernel
theorem dX3_readPair_7 : decode cX3_readPair 7 = .ok (.isub, 1) := by decide +kernel
theorem dX3_readPair_8 : decode cX3_readPair 8 = .ok (.invokevirtual 62, 3) := by decide +kernel
theorem dX3_readPair_11 : decode cX3_readPair 11 = .ok (.istore_n 2, 1) := by decide +kernel
theorem dX3_readPair_12 : decode cX3_readPair 12 = .ok (.aload_n 0, 1) := by decide +kernel
theorem dX3_readPair_13 : decode cX3_readPair 13 = .ok (.iconst 0, 1) := by decide +kernel
theorem dX3_readPair_14 : decode cX3_readPair 14 = .ok (.aload_n 1, 1) := by decide +kernel
theorem dX3_readPair_15 : decode cX3_readPair 15 = .ok (.getfield 92, 3) := by decide +kernel
theorem dX3_readPair_18 : decode cX3_readPair 18 = .ok (.iconst 1, 1) := by decide +kernel
theorem dX3_readPair_19 : decode cX3_readPair 19 = .ok (.isub, 1) := by decide +kernel
theorem dX3_readPair_20 : decode cX3_readPair 20 = .ok (.invokevirtual 62, 3) := by decide +kernel
theorem dX3_readPair_23 : decode cX3_readPair 23 = .ok (.istore_n 3, 1) := by decide +kernel
theorem dX3_readPair_24 : decode cX3_readPair 24 = .ok (.aload_n 0, 1) := by decide +kernel
theorem dX3_readPair_25 : decode cX3_readPair 25 = .ok (.iload_n 2, 1) := by decide +kernel
theorem dX3_readPair_26 : decode cX3_readPair 26 = .ok (.iload_n 3, 1) := by decide +kernel
theorem dX3_readPair_27 : decode cX3_readPair 27 = .ok (.invokevirtual 94, 3) := by decide +kernel
theorem dX3_readPair_30 : decode cX3_readPair 30 = .ok (.aload_n 0, 1) := by decide +kernel
theorem dX3_readPair_31 : decode cX3_readPair 31 = .ok (.invokevirtual 66, 3) := by decide +kernel
theorem dX3_readPair_34 : decode cX3_readPair 34 = .ok (.aload_n 0, 1) := by decide +kernel
theorem dX3_readPair_35 : decode cX3_readPair 35 = .ok (.getfield 26, 3) := by decide +kernel
theorem dX3_readPair_38 : decode cX3_readPair 38 = .ok (.ifCond .eq 4, 3) := by decide +kernel
theorem dX3_readPair_41 : decode cX3_readPair 41 = .ok (.return_, 1) := by decide +kernel
theorem dX3_readPair_42 : decode cX3_readPair 42 = .ok (.aload_n 1, 1) := by decide +kernel
theorem dX3_readPair_43 : decode cX3_readPair 43 = .ok (.iload_n 2, 1) := by decide +kernel
theorem dX3_readPair_44 : decode cX3_readPair 44 = .ok (.invokevirtual 114, 3) := by decide +kernel
theorem dX3_readPair_47 : decode cX3_readPair 47 = .ok (.ifCond .eq 20, 3) := by decide +kernel
theorem dX3_readPair_50 : decode cX3_readPair 50 = .ok (.aload_n 1, 1) := by decide +kernel
theorem dX3_readPair_51 : decode cX3_readPair 51 = .ok (.iload_n 3, 1) := by decide +kernel
theorem dX3_readPair_52 : decode cX3_readPair 52 = .ok (.invokevirtual 114, 3) := by decide +kernel
theorem dX3_readPair_55 : decode cX3_readPair 55 = .ok (.ifCond .eq 12, 3) := by decide +kernel
theorem dX3_readPair_58 : decode cX3_readPair 58 = .ok (.aload_n 1, 1) := by decide +kernel
theorem dX3_readPair_59 : decode cX3_readPair 59 = .ok (.iload_n 2, 1) := by decide +kernel
theorem dX3_readPair_60 : decode cX3_readPair 60 = .ok (.iload_n 3, 1) := by decide +kernel
theorem dX3_readPair_61 : decode cX3_readPair 61 = .ok (.invokevirtual 118, 3) := by decide +kernel
theorem dX3_readPair_64 : decode cX3_readPair 64 = .ok (.goto 8, 3) := by decide +kernel
theorem dX3_readPair_67 : decode cX3_readPair 67 = .ok (.aload_n 0, 1) := by decide +kernel
theorem dX3_readPair_68 : decode cX3_readPair 68 = .ok (.iconst 1, 1) := by decide +kernel
theorem dX3_readPair_69 : decode cX3_readPair 69 = .ok (.putfield 32, 3) := by decide +kernel
theorem dX3_readPair_72 : decode cX3_readPair 72 = .ok (.return_, 1) := by decide +kernel
theorem dX3_needUnlike_0 : decode cX3_needUnlike 0 = .ok (.iload_n 1, 1) := by decide +kernel
theorem dX3_needUnlike_1 : decode cX3_needUnlike 1 = .ok (.iload_n 2, 1) := by decide +kernel
theorem dX3_needUnlike_2 : decode cX3_needUnlike 2 = .ok (.if_icmp .ne 12, 3) := by decide +kernel
theorem dX3_needUnlike_5 : decode cX3_needUnlike 5 = .ok (.aload_n 0, 1) := by decide +kernel
theorem dX3_needUnlike_6 : decode cX3_needUnlike 6 = .ok (.iconst 2, 1) := by decide +kernel
theorem dX3_needUnlike_7 : decode cX3_needUnlike 7 = .ok (.aload_n 0, 1) := by decide +kernel
theorem dX3_needUnlike_8 : decode cX3_needUnlike 8 = .ok (.getfield 108, 3) := by decide +kernel
theorem dX3_needUnlike_11 : decode cX3_needUnlike 11 = .ok (.invokevirtual 52, 3) := by decide +kernel
theorem dX3_needUnlike_14 : decode cX3_needUnlike 14 = .ok (.return_, 1) := by decide +kernel
theorem dX3_takeWord_0 : decode cX3_takeWord 0 = .ok (.aload_n 0, 1) := by decide +kernel
theorem dX3_takeWord_1 : decode cX3_takeWord 1 = .ok (.invokevirtual 121, 3) := by decide +kernel
theorem dX3_takeWord_4 : decode cX3_takeWord 4 = .ok (.aload_n 0, 1) := by decide +kernel
theorem dX3_takeWord_5 : decode cX3_takeWord 5 = .ok (.getfield 23, 3) := by decide +kernel
theorem dX3_takeWord_8 : decode cX3_takeWord 8 = .ok (.istore_n 2, 1) := by decide +kernel
theorem dX3_takeWord_9 : decode cX3_takeWord 9 = .ok (.iload_n 2, 1) := by decide +kernel
theorem dX3_takeWord_10 : decode cX3_takeWord 10 = .ok (.aload_n 0, 1) := by decide +kernel
theorem dX3_takeWord_11 : decode cX3_takeWord 11 = .ok (.getfield 19, 3) := by decide +kernel
theorem dX3_takeWord_14 : decode cX3_takeWord 14 = .ok (.if_icmp .ge 31, 3) := by decide +kernel
theorem dX3_takeWord_17 : decode cX3_takeWord 17 = .ok (.aload_n 0, 1) := by decide +kernel
theorem dX3_takeWord_18 : decode cX3_takeWord 18 = .ok (.getfield 15, 3) := by decide +kernel
theorem dX3_takeWord_21 : decode cX3_takeWord 21 = .ok (.iload_n 2, 1) := by decide +kernel
theorem dX3_takeWord_22 : decode cX3_takeWord 22 = .ok (.baload, 1) := by decide +kernel
theorem dX3_takeWord_23 : decode cX3_takeWord 23 = .ok (.bipush 97, 2) := by decide +kernel
theorem dX3_takeWord_25 : decode cX3_takeWord 25 = .ok (.if_icmp .lt 20, 3) := by decide +kernel
theorem dX3_takeWord_28 : decode cX3_takeWord 28 = .ok (.aload_n 0, 1) := by decide +kernel
theorem dX3_takeWord_29 : decode cX3_takeWord 29 = .ok (.getfield 15, 3) := by decide +kernel
theorem dX3_takeWord_32 : decode cX3_takeWord 32 = .ok (.iload_n 2, 1) := by decide +kernel
theorem dX3_takeWord_33 : decode cX3_takeWord 33 = .ok (.baload, 1) := by decide +kernel
theorem dX3_takeWord_34 : decode cX3_takeWord 34 = .ok (.bipush 122, 2) := by decide +kernel
theorem dX3_takeWord_36 : decode cX3_takeWord 36 = .ok (.if_icmp .gt 9, 3) := by decide +kernel
theorem dX3_takeWord_39 : decode cX3_takeWord 39 = .ok (.iinc 2 1, 3) := by decide +kernel
theorem dX3_takeWord_42 : decode cX3_takeWord 42 = .ok (.goto (-33), 3) := by decide +kernel
theorem dX3_takeWord_45 : decode cX3_takeWord 45 = .ok (.iload_n 2, 1) := by decide +kernel
theorem dX3_takeWord_46 : decode cX3_takeWord 46 = .ok (.aload_n 0, 1) := by decide +kernel
theorem dX3_takeWord_47 : decode cX3_takeWord 47 = .ok (.getfield 23, 3) := by decide +kernel
theorem dX3_takeWord_50 : decode cX3_takeWord 50 = .ok (.isub, 1) := by decide +kernel
theorem dX3_takeWord_51 : decode cX3_takeWord 51 = .ok (.aload_n 1, 1) := by decide +kernel
theorem dX3_takeWord_52 : decode cX3_takeWord 52 = .ok (.invokevirtual 124, 3) := by decide +kernel
theorem dX3_takeWord_55 : decode cX3_takeWord 55 = .ok (.if_icmp .eq 5, 3) := by decide +kernel
theorem dX3_takeWord_58 : decode cX3_takeWord 58 = .ok (.iconst 0, 1) := by decide +kernel
theorem dX3_takeWord_59 : decode cX3_takeWord 59 = .ok (.ireturn, 1) := by decide +kernel
theorem dX3_takeWord_60 : decode cX3_takeWord 60 = .ok (.iconst 0, 1) := by decide +kernel
theorem dX3_takeWord_61 : decode cX3_takeWord 61 = .ok (.istore_n 3, 1) := by decide +kernel
theorem dX3_takeWord_62 : decode cX3_takeWord 62 = .ok (.iload_n 3, 1) := by decide +kernel
theorem dX3_takeWord_63 : decode cX3_takeWord 63 = .ok (.aload_n 1, 1) := by decide +kernel
theorem dX3_takeWord_64 : decode cX3_takeWord 64 = .ok (.invokevirtual 124, 3) := by decide +kernel
theorem dX3_takeWord_67 : decode cX3_takeWord 67 = .ok (.if_icmp .ge 30, 3) := by decide +kernel
theorem dX3_takeWord_70 : decode cX3_takeWord 70 = .ok (.aload_n 0, 1) := by decide +kernel
theorem dX3_takeWord_71 : decode cX3_takeWord 71 = .ok (.getfield 15, 3) := by decide +kernel
theorem dX3_takeWord_74 : decode cX3_takeWord 74 = .ok (.aload_n 0, 1) := by decide +kernel
theorem dX3_takeWord_75 : decode cX3_takeWord 75 = .ok (.getfield 23, 3) := by decide +kernel
theorem dX3_takeWord_78 : decode cX3_takeWord 78 = .ok (.iload_n 3, 1) := by decide +kernel
theorem dX3_takeWord_79 : decode cX3_takeWord 79 = .ok (.iadd, 1) := by decide +kernel
theorem dX3_takeWord_80 : decode cX3_takeWord 80 = .ok (.baload, 1) := by decide +kernel
theorem dX3_takeWord_81 : decode cX3_takeWord 81 = .ok (.aload_n 1, 1) := by decide +kernel
theorem dX3_takeWord_82 : decode cX3_takeWord 82 = .ok (.iload_n 3, 1) := by decide +kernel
theorem dX3_takeWord_83 : decode cX3_takeWord 83 = .ok (.invokevirtual 129, 3) := by decide +kernel
theorem dX3_takeWord_86 : decode cX3_takeWord 86 = .ok (.if_icmp .eq 5, 3) := by decide +kernel
theorem dX3_takeWord_89 : decode cX3_takeWord 89 = .ok (.iconst 0, 1) := by decide +kernel
theorem dX3_takeWord_90 : decode cX3_takeWord 90 = .ok (.ireturn, 1) := by decide +kernel
theorem dX3_takeWord_91 : decode cX3_takeWord 91 = .ok (.iinc 3 1, 3) := by decide +kernel
theorem dX3_takeWord_94 : decode cX3_takeWord 94 = .ok (.goto (-32), 3) := by decide +kernel
theorem dX3_takeWord_97 : decode cX3_takeWord 97 = .ok (.aload_n 0, 1) := by decide +kernel
theorem dX3_takeWord_98 : decode cX3_takeWord 98 = .ok (.iload_n 2, 1) := by decide +kernel
theorem dX3_takeWord_99 : decode cX3_takeWord 99 = .ok (.putfield 23, 3) := by decide +kernel
theorem dX3_takeWord_102 : decode cX3_takeWord 102 = .ok (.iconst 1, 1) := by decide +kernel
theorem dX3_takeWord_103 : decode cX3_takeWord 103 = .ok (.ireturn, 1) := by decide +kernel
theorem dX3_takeNumber_0 : decode cX3_takeNumber 0 = .ok (.aload_n 0, 1) := by decide +kernel
theorem dX3_takeNumber_1 : decode cX3_takeNumber 1 = .ok (.getfield 26, 3) := by decide +kernel
theorem dX3_takeNumber_4 : decode cX3_takeNumber 4 = .ok (.ifCond .ne 19, 3) := by decide +kernel
theorem dX3_takeNumber_7 : decode cX3_takeNumber 7 = .ok (.aload_n 0, 1) := by decide +kernel
theorem dX3_takeNumber_8 : decode cX3_takeNumber 8 = .ok (.invokevirtual 97, 3) := by decide +kernel
theorem dX3_takeNumber_11 : decode cX3_takeNumber 11 = .ok (.ifCond .ne 12, 3) := by decide +kernel
theorem dX3_takeNumber_14 : decode cX3_takeNumber 14 = .ok (.aload_n 0, 1) := by decide +kernel
theorem dX3_takeNumber_15 : decode cX3_takeNumber 15 = .ok (.iconst 1, 1) := by decide +kernel
theorem dX3_takeNumber_16 : decode cX3_takeNumber 16 = .ok (.aload_n 0, 1) := by decide +kernel
theorem dX3_takeNumber_17 : decode cX3_takeNumber 17 = .ok (.getfield 23, 3) := by decide +kernel
theorem dX3_takeNumber_20 : decode cX3_takeNumber 20 = .ok (.invokevirtual 52, 3) := by decide +kernel
theorem dX3_takeNumber_23 : decode cX3_takeNumber 23 = .ok (.aload_n 0, 1) := by decide +kernel
theorem dX3_takeNumber_24 : decode cX3_takeNumber 24 = .ok (.getfield 26, 3) := by decide +kernel
theorem dX3_takeNumber_27 : decode cX3_takeNumber 27 = .ok (.ifCond .eq 5, 3) := by decide +kernel
theorem dX3_takeNumber_30 : decode cX3_takeNumber 30 = .ok (.iconst (-1), 1) := by decide +kernel
theorem dX3_takeNumber_31 : decode cX3_takeNumber 31 = .ok (.ireturn, 1) := by decide +kernel
theorem dX3_takeNumber_32 : decode cX3_takeNumber 32 = .ok (.aload_n 0, 1) := by decide +kernel
theorem dX3_takeNumber_33 : decode cX3_takeNumber 33 = .ok (.aload_n 0, 1) := by decide +kernel
theorem dX3_takeNumber_34 : decode cX3_takeNumber 34 = .ok (.getfield 23, 3) := by decide +kernel
theorem dX3_takeNumber_37 : decode cX3_takeNumber 37 = .ok (.putfield 108, 3) := by decide +kernel
theorem dX3_takeNumber_40 : decode cX3_takeNumber 40 = .ok (.iconst 0, 1) := by decide +kernel
theorem dX3_takeNumber_41 : decode cX3_takeNumber 41 = .ok (.istore_n 3, 1) := by decide +kernel
theorem dX3_takeNumber_42 : decode cX3_takeNumber 42 = .ok (.aload_n 0, 1) := by decide +kernel
theorem dX3_takeNumber_43 : decode cX3_takeNumber 43 = .ok (.getfield 23, 3) := by decide +kernel
theorem dX3_takeNumber_46 : decode cX3_takeNumber 46 = .ok (.aload_n 0, 1) := by decide +kernel
theorem dX3_takeNumber_47 : decode cX3_takeNumber 47 = .ok (.getfield 19, 3) := by decide +kernel
theorem dX3_takeNumber_50 : decode cX3_takeNumber 50 = .ok (.if_icmp .ge 55, 3) := by decide +kernel
theorem dX3_takeNumber_53 : decode cX3_takeNumber 53 = .ok (.aload_n 0, 1) := by decide +kernel
theorem dX3_takeNumber_54 : decode cX3_takeNumber 54 = .ok (.getfield 15, 3) := by decide +kernel
theorem dX3_takeNumber_57 : decode cX3_takeNumber 57 = .ok (.aload_n 0, 1) := by decide +kernel
theorem dX3_takeNumber_58 : decode cX3_takeNumber 58 = .ok (.getfield 23, 3) := by decide +kernel
theorem dX3_takeNumber_61 : decode cX3_takeNumber 61 = .ok (.baload, 1) := by decide +kernel
theorem dX3_takeNumber_62 : decode cX3_takeNumber 62 = .ok (.invokestatic 133, 3) := by decide +kernel
theorem dX3_takeNumber_65 : decode cX3_takeNumber 65 = .ok (.ifCond .eq 40, 3) := by decide +kernel
theorem dX3_takeNumber_68 : decode cX3_takeNumber 68 = .ok (.sipush 10000, 3) := by decide +kernel
theorem dX3_takeNumber_71 : decode cX3_takeNumber 71 = .ok (.iload_n 3, 1) := by decide +kernel
theorem dX3_takeNumber_72 : decode cX3_takeNumber 72 = .ok (.bipush 10, 2) := by decide +kernel
theorem dX3_takeNumber_74 : decode cX3_takeNumber 74 = .ok (.imul, 1) := by decide +kernel
theorem dX3_takeNumber_75 : decode cX3_takeNumber 75 = .ok (.aload_n 0, 1) := by decide +kernel
theorem dX3_takeNumber_76 : decode cX3_takeNumber 76 = .ok (.getfield 15, 3) := by decide +kernel
theorem dX3_takeNumber_79 : decode cX3_takeNumber 79 = .ok (.aload_n 0, 1) := by decide +kernel
theorem dX3_takeNumber_80 : decode cX3_takeNumber 80 = .ok (.getfield 23, 3) := by decide +kernel
theorem dX3_takeNumber_83 : decode cX3_takeNumber 83 = .ok (.baload, 1) := by decide +kernel
theorem dX3_takeNumber_84 : decode cX3_takeNumber 84 = .ok (.iadd, 1) := by decide +kernel
theorem dX3_takeNumber_85 : decode cX3_takeNumber 85 = .ok (.bipush 48, 2) := by decide +kernel
theorem dX3_takeNumber_87 : decode cX3_takeNumber 87 = .ok (.isub, 1) := by decide +kernel
theorem dX3_takeNumber_88 : decode cX3_takeNumber 88 = .ok (.invokestatic 137, 3) := by decide +kernel
theorem dX3_takeNumber_91 : decode cX3_takeNumber 91 = .ok (.istore_n 3, 1) := by decide +kernel
theorem dX3_takeNumber_92 : decode cX3_takeNumber 92 = .ok (.aload_n 0, 1) := by decide +kernel
theorem dX3_takeNumber_93 : decode cX3_takeNumber 93 = .ok (.dup, 1) := by decide +kernel
theorem dX3_takeNumber_94 : decode cX3_takeNumber 94 = .ok (.getfield 23, 3) := by decide +kernel
theorem dX3_takeNumber_97 : decode cX3_takeNumber 97 = .ok (.iconst 1, 1) := by decide +kernel
theorem dX3_takeNumber_98 : decode cX3_takeNumber 98 = .ok (.iadd, 1) := by decide +kernel
theorem dX3_takeNumber_99 : decode cX3_takeNumber 99 = .ok (.putfield 23, 3) := by decide +kernel
theorem dX3_takeNumber_102 : decode cX3_takeNumber 102 = .ok (.goto (-60), 3) := by decide +kernel
theorem dX3_takeNumber_105 : decode cX3_takeNumber 105 = .ok (.iload_n 3, 1) := by decide +kernel
theorem dX3_takeNumber_106 : decode cX3_takeNumber 106 = .ok (.iload_n 1, 1) := by decide +kernel
theorem dX3_takeNumber_107 : decode cX3_takeNumber 107 = .ok (.if_icmp .lt 8, 3) := by decide +kernel
theorem dX3_takeNumber_110 : decode cX3_takeNumber 110 = .ok (.iload_n 3, 1) := by decide +kernel
theorem dX3_takeNumber_111 : decode cX3_takeNumber 111 = .ok (.iload_n 2, 1) := by decide +kernel
theorem dX3_takeNumber_112 : decode cX3_takeNumber 112 = .ok (.if_icmp .le 12, 3) := by decide +kernel
theorem dX3_takeNumber_115 : decode cX3_takeNumber 115 = .ok (.aload_n 0, 1) := by decide +kernel
theorem dX3_takeNumber_116 : decode cX3_takeNumber 116 = .ok (.iconst 2, 1) := by decide +kernel
theorem dX3_takeNumber_117 : decode cX3_takeNumber 117 = .ok (.aload_n 0, 1) := by decide +kernel
theorem dX3_takeNumber_118 : decode cX3_takeNumber 118 = .ok (.getfield 108, 3) := by decide +kernel
theorem dX3_takeNumber_121 : decode cX3_takeNumber 121 = .ok (.invokevirtual 52, 3) := by decide +kernel
theorem dX3_takeNumber_124 : decode cX3_takeNumber 124 = .ok (.iload_n 3, 1) := by decide +kernel
theorem dX3_takeNumber_125 : decode cX3_takeNumber 125 = .ok (.ireturn, 1) := by decide +kernel
theorem dX3_takeEnd_0 : decode cX3_takeEnd 0 = .ok (.aload_n 0, 1) := by decide +kernel
theorem dX3_takeEnd_1 : decode cX3_takeEnd 1 = .ok (.invokevirtual 121, 3) := by decide +kernel
theorem dX3_takeEnd_4 : decode cX3_takeEnd 4 = .ok (.aload_n 0, 1) := by decide +kernel
theorem dX3_takeEnd_5 : decode cX3_takeEnd 5 = .ok (.getfield 23, 3) := by decide +kernel
theorem dX3_takeEnd_8 : decode cX3_takeEnd 8 = .ok (.aload_n 0, 1) := by decide +kernel
theorem dX3_takeEnd_9 : decode cX3_takeEnd 9 = .ok (.getfield 19, 3) := by decide +kernel
theorem dX3_takeEnd_12 : decode cX3_takeEnd 12 = .ok (.if_icmp .ge 30, 3) := by decide +kernel
theorem dX3_takeEnd_15 : decode cX3_takeEnd 15 = .ok (.aload_n 0, 1) := by decide +kernel
theorem dX3_takeEnd_16 : decode cX3_takeEnd 16 = .ok (.getfield 15, 3) := by decide +kernel
theorem dX3_takeEnd_19 : decode cX3_takeEnd 19 = .ok (.aload_n 0, 1) := by decide +kernel
theorem dX3_takeEnd_20 : decode cX3_takeEnd 20 = .ok (.getfield 23, 3) := by decide +kernel
theorem dX3_takeEnd_23 : decode cX3_takeEnd 23 = .ok (.baload, 1) := by decide +kernel
theorem dX3_takeEnd_24 : decode cX3_takeEnd 24 = .ok (.bipush 59, 2) := by decide +kernel
theorem dX3_takeEnd_26 : decode cX3_takeEnd 26 = .ok (.if_icmp .ne 16, 3) := by decide +kernel
theorem dX3_takeEnd_29 : decode cX3_takeEnd 29 = .ok (.aload_n 0, 1) := by decide +kernel
theorem dX3_takeEnd_30 : decode cX3_takeEnd 30 = .ok (.dup, 1) := by decide +kernel
theorem dX3_takeEnd_31 : decode cX3_takeEnd 31 = .ok (.getfield 23, 3) := by decide +kernel
theorem dX3_takeEnd_34 : decode cX3_takeEnd 34 = .ok (.iconst 1, 1) := by decide +kernel
theorem dX3_takeEnd_35 : decode cX3_takeEnd 35 = .ok (.iadd, 1) := by decide +kernel
theorem dX3_takeEnd_36 : decode cX3_takeEnd 36 = .ok (.putfield 23, 3) := by decide +kernel
theorem dX3_takeEnd_39 : decode cX3_takeEnd 39 = .ok (.goto 12, 3) := by decide +kernel
theorem dX3_takeEnd_42 : decode cX3_takeEnd 42 = .ok (.aload_n 0, 1) := by decide +kernel
theorem dX3_takeEnd_43 : decode cX3_takeEnd 43 = .ok (.iconst 1, 1) := by decide +kernel
theorem dX3_takeEnd_44 : decode cX3_takeEnd 44 = .ok (.aload_n 0, 1) := by decide +kernel
theorem dX3_takeEnd_45 : decode cX3_takeEnd 45 = .ok (.getfield 23, 3) := by decide +kernel
theorem dX3_takeEnd_48 : decode cX3_takeEnd 48 = .ok (.invokevirtual 52, 3) := by decide +kernel
theorem dX3_takeEnd_51 : decode cX3_takeEnd 51 = .ok (.return_, 1) := by decide +kernel
theorem dX3_isNumberAhead_0 : decode cX3_isNumberAhead 0 = .ok (.aload_n 0, 1) := by decide +kernel
theorem dX3_isNumberAhead_1 : decode cX3_isNumberAhead 1 = .ok (.invokevirtual 121, 3) := by decide +kernel
theorem dX3_isNumberAhead_4 : decode cX3_isNumberAhead 4 = .ok (.aload_n 0, 1) := by decide +kernel
theorem dX3_isNumberAhead_5 : decode cX3_isNumberAhead 5 = .ok (.getfield 23, 3) := by decide +kernel
theorem dX3_isNumberAhead_8 : decode cX3_isNumberAhead 8 = .ok (.aload_n 0, 1) := by decide +kernel
theorem dX3_isNumberAhead_9 : decode cX3_isNumberAhead 9 = .ok (.getfield 19, 3) := by decide +kernel
theorem dX3_isNumberAhead_12 : decode cX3_isNumberAhead 12 = .ok (.if_icmp .ge 22, 3) := by decide +kernel
theorem dX3_isNumberAhead_15 : decode cX3_isNumberAhead 15 = .ok (.aload_n 0, 1) := by decide +kernel
theorem dX3_isNumberAhead_16 : decode cX3_isNumberAhead 16 = .ok (.getfield 15, 3) := by decide +kernel
theorem dX3_isNumberAhead_19 : decode cX3_isNumberAhead 19 = .ok (.aload_n 0, 1) := by decide +kernel
theorem dX3_isNumberAhead_20 : decode cX3_isNumberAhead 20 = .ok (.getfield 23, 3) := by decide +kernel
theorem dX3_isNumberAhead_23 : decode cX3_isNumberAhead 23 = .ok (.baload, 1) := by decide +kernel
theorem dX3_isNumberAhead_24 : decode cX3_isNumberAhead 24 = .ok (.invokestatic 133, 3) := by decide +kernel
theorem dX3_isNumberAhead_27 : decode cX3_isNumberAhead 27 = .ok (.ifCond .eq 7, 3) := by decide +kernel
theorem dX3_isNumberAhead_30 : decode cX3_isNumberAhead 30 = .ok (.iconst 1, 1) := by decide +kernel
theorem dX3_isNumberAhead_31 : decode cX3_isNumberAhead 31 = .ok (.goto 4, 3) := by decide +kernel
theorem dX3_isNumberAhead_34 : decode cX3_isNumberAhead 34 = .ok (.iconst 0, 1) := by decide +kernel
theorem dX3_isNumberAhead_35 : decode cX3_isNumberAhead 35 = .ok (.ireturn, 1) := by decide +kernel
theorem dX3_isAtEnd_0 : decode cX3_isAtEnd 0 = .ok (.aload_n 0, 1) := by decide +kernel
theorem dX3_isAtEnd_1 : decode cX3_isAtEnd 1 = .ok (.invokevirtual 121, 3) := by decide +kernel
theorem dX3_isAtEnd_4 : decode cX3_isAtEnd 4 = .ok (.aload_n 0, 1) := by decide +kernel
theorem dX3_isAtEnd_5 : decode cX3_isAtEnd 5 = .ok (.getfield 23, 3) := by decide +kernel
theorem dX3_isAtEnd_8 : decode cX3_isAtEnd 8 = .ok (.aload_n 0, 1) := by decide +kernel
theorem dX3_isAtEnd_9 : decode cX3_isAtEnd 9 = .ok (.getfield 19, 3) := by decide +kernel
theorem dX3_isAtEnd_12 : decode cX3_isAtEnd 12 = .ok (.if_icmp .lt 7, 3) := by decide +kernel
theorem dX3_isAtEnd_15 : decode cX3_isAtEnd 15 = .ok (.iconst 1, 1) := by decide +kernel
theorem dX3_isAtEnd_16 : decode cX3_isAtEnd 16 = .ok (.goto 4, 3) := by decide +kernel
theorem dX3_isAtEnd_19 : decode cX3_isAtEnd 19 = .ok (.iconst 0, 1) := by decide +kernel
theorem dX3_isAtEnd_20 : decode cX3_isAtEnd 20 = .ok (.ireturn, 1) := by decide +kernel
theorem dX3_skipBlanks_0 : decode cX3_skipBlanks 0 = .ok (.aload_n 0, 1) := by decide +kernel
theorem dX3_skipBlanks_1 : decode cX3_skipBlanks 1 = .ok (.getfield 23, 3) := by decide +kernel
theorem dX3_skipBlanks_4 : decode cX3_skipBlanks 4 = .ok (.aload_n 0, 1) := by decide +kernel
theorem dX3_skipBlanks_5 : decode cX3_skipBlanks 5 = .ok (.getfield 19, 3) := by decide +kernel
theorem dX3_skipBlanks_8 : decode cX3_skipBlanks 8 = .ok (.if_icmp .ge 30, 3) := by decide +kernel
theorem dX3_skipBlanks_11 : decode cX3_skipBlanks 11 = .ok (.aload_n 0, 1) := by decide +kernel
theorem dX3_skipBlanks_12 : decode cX3_skipBlanks 12 = .ok (.getfield 15, 3) := by decide +kernel
theorem dX3_skipBlanks_15 : decode cX3_skipBlanks 15 = .ok (.aload_n 0, 1) := by decide +kernel
theorem dX3_skipBlanks_16 : decode cX3_skipBlanks 16 = .ok (.getfield 23, 3) := by decide +kernel
theorem dX3_skipBlanks_19 : decode cX3_skipBlanks 19 = .ok (.baload, 1) := by decide +kernel
theorem dX3_skipBlanks_20 : decode cX3_skipBlanks 20 = .ok (.bipush 32, 2) := by decide +kernel
theorem dX3_skipBlanks_22 : decode cX3_skipBlanks 22 = .ok (.if_icmp .ne 16, 3) := by decide +kernel
theorem dX3_skipBlanks_25 : decode cX3_skipBlanks 25 = .ok (.aload_n 0, 1) := by decide +kernel
theorem dX3_skipBlanks_26 : decode cX3_skipBlanks 26 = .ok (.dup, 1) := by decide +kernel
theorem dX3_skipBlanks_27 : decode cX3_skipBlanks 27 = .ok (.getfield 23, 3) := by decide +kernel
theorem dX3_skipBlanks_30 : decode cX3_skipBlanks 30 = .ok (.iconst 1, 1) := by decide +kernel
theorem dX3_skipBlanks_31 : decode cX3_skipBlanks 31 = .ok (.iadd, 1) := by decide +kernel
theorem dX3_skipBlanks_32 : decode cX3_skipBlanks 32 = .ok (.putfield 23, 3) := by decide +kernel
theorem dX3_skipBlanks_35 : decode cX3_skipBlanks 35 = .ok (.goto (-35), 3) := by decide +kernel
theorem dX3_skipBlanks_38 : decode cX3_skipBlanks 38 = .ok (.return_, 1) := by decide +kernel
theorem dX3_isDigit_0 : decode cX3_isDigit 0 = .ok (.iload_n 0, 1) := by decide +kernel
theorem dX3_isDigit_1 : decode cX3_isDigit 1 = .ok (.bipush 48, 2) := by decide +kernel
theorem dX3_isDigit_3 : decode cX3_isDigit 3 = .ok (.if_icmp .lt 13, 3) := by decide +kernel
theorem dX3_isDigit_6 : decode cX3_isDigit 6 = .ok (.iload_n 0, 1) := by decide +kernel
theorem dX3_isDigit_7 : decode cX3_isDigit 7 = .ok (.bipush 57, 2) := by decide +kernel
theorem dX3_isDigit_9 : decode cX3_isDigit 9 = .ok (.if_icmp .gt 7, 3) := by decide +kernel
theorem dX3_isDigit_12 : decode cX3_isDigit 12 = .ok (.iconst 1, 1) := by decide +kernel
theorem dX3_isDigit_13 : decode cX3_isDigit 13 = .ok (.goto 4, 3) := by decide +kernel
theorem dX3_isDigit_16 : decode cX3_isDigit 16 = .ok (.iconst 0, 1) := by decide +kernel
theorem dX3_isDigit_17 : decode cX3_isDigit 17 = .ok (.ireturn, 1) := by decide +kernel
theorem dX3_fail_0 : decode cX3_fail 0 = .ok (.aload_n 0, 1) := by decide +kernel
theorem dX3_fail_1 : decode cX3_fail 1 = .ok (.getfield 26, 3) := by decide +kernel
theorem dX3_fail_4 : decode cX3_fail 4 = .ok (.ifCond .ne 13, 3) := by decide +kernel
theorem dX3_fail_7 : decode cX3_fail 7 = .ok (.aload_n 0, 1) := by decide +kernel
theorem dX3_fail_8 : decode cX3_fail 8 = .ok (.iload_n 1, 1) := by decide +kernel
theorem dX3_fail_9 : decode cX3_fail 9 = .ok (.putfield 26, 3) := by decide +kernel
theorem dX3_fail_12 : decode cX3_fail 12 = .ok (.aload_n 0, 1) := by decide +kernel
theorem dX3_fail_13 : decode cX3_fail 13 = .ok (.iload_n 2, 1) := by decide +kernel
theorem dX3_fail_14 : decode cX3_fail 14 = .ok (.putfield 29, 3) := by decide +kernel
theorem dX3_fail_17 : decode cX3_fail 17 = .ok (.return_, 1) := by decide +kernel
theorem dX4_init_0 : decode cX4_init 0 = .ok (.aload_n 0, 1) := by decide +kernel
theorem dX4_init_1 : decode cX4_init 1 = .ok (.invokespecial 3, 3) := by decide +kernel
theorem dX4_init_4 : decode cX4_init 4 = .ok (.aload_n 0, 1) := by decide +kernel
theorem dX4_init_5 : decode cX4_init 5 = .ok (.bipush 12, 2) := by decide +kernel
theorem dX4_init_7 : decode cX4_init 7 = .ok (.newarray .int, 2) := by decide +kernel
theorem dX4_init_9 : decode cX4_init 9 = .ok (.putfield 9, 3) := by decide +kernel
theorem dX4_init_12 : decode cX4_init 12 = .ok (.aload_n 0, 1) := by decide +kernel
theorem dX4_init_13 : decode cX4_init 13 = .ok (.iconst 0, 1) := by decide +kernel
theorem dX4_init_14 : decode cX4_init 14 = .ok (.putfield 15, 3) := by decide +kernel
theorem dX4_init_17 : decode cX4_init 17 = .ok (.aload_n 0, 1) := by decide +kernel
theorem dX4_init_18 : decode cX4_init 18 = .ok (.iconst 0, 1) := by decide +kernel
theorem dX4_init_19 : decode cX4_init 19 = .ok (.putfield 19, 3) := by decide +kernel
theorem dX4_init_22 : decode cX4_init 22 = .ok (.aload_n 0, 1) := by decide +kernel
theorem dX4_init_23 : decode cX4_init 23 = .ok (.iconst 0, 1) := by decide +kernel
theorem dX4_init_24 : decode cX4_init 24 = .ok (.putfield 22, 3) := by decide +kernel
theorem dX4_init_27 : decode cX4_init 27 = .ok (.aload_n 0, 1) := by decide +kernel
theorem dX4_init_28 : decode cX4_init 28 = .ok (.iconst 0, 1) := by decide +kernel
theorem dX4_init_29 : decode cX4_init 29 = .ok (.putfield 25, 3) := by decide +kernel
theorem dX4_init_32 : decode cX4_init 32 = .ok (.aload_n 0, 1) := by decide +kernel
theorem dX4_init_33 : decode cX4_init 33 = .ok (.sipush 161, 3) := by decide +kernel
theorem dX4_init_36 : decode cX4_init 36 = .ok (.newarray .int, 2) := by decide +kernel
theorem dX4_init_38 : decode cX4_init 38 = .ok (.putfield 28, 3) := by decide +kernel
theorem dX4_init_41 : decode cX4_init 41 = .ok (.aload_n 0, 1) := by decide +kernel
theorem dX4_init_42 : decode cX4_init 42 = .ok (.sipush 161, 3) := by decide +kernel
theorem dX4_init_45 : decode cX4_init 45 = .ok (.newarray .int, 2) := by decide +kernel
theorem dX4_init_47 : decode cX4_init 47 = .ok (.putfield 31, 3) := by decide +kernel
theorem dX4_init_50 : decode cX4_init 50 = .ok (.aload_n 0, 1) := by decide +kernel
theorem dX4_init_51 : decode cX4_init 51 = .ok (.sipush 161, 3) := by decide +kernel
theorem dX4_init_54 : decode cX4_init 54 = .ok (.newarray .int, 2) := by decide +kernel
theorem dX4_init_56 : decode cX4_init 56 = .ok (.putfield 34, 3) := by decide +kernel
theorem dX4_init_59 : decode cX4_init 59 = .ok (.aload_n 0, 1) := by decide +kernel
theorem dX4_init_60 : decode cX4_init 60 = .ok (.bipush 12, 2) := by decide +kernel
theorem dX4_init_62 : decode cX4_init 62 = .ok (.newarray .int, 2) := by decide +kernel
theorem dX4_init_64 : decode cX4_init 64 = .ok (.putfield 37, 3) := by decide +kernel
theorem dX4_init_67 : decode cX4_init 67 = .ok (.aload_n 0, 1) := by decide +kernel
theorem dX4_init_68 : decode cX4_init 68 = .ok (.sipush 161, 3) := by decide +kernel
theorem dX4_init_71 : decode cX4_init 71 = .ok (.newarray .int, 2) := by decide +kernel
theorem dX4_init_73 : decode cX4_init 73 = .ok (.putfield 40, 3) := by decide +kernel
theorem dX4_init_76 : decode cX4_init 76 = .ok (.aload_n 0, 1) := by decide +kernel
theorem dX4_init_77 : decode cX4_init 77 = .ok (.bipush 32, 2) := by decide +kernel
theorem dX4_init_79 : decode cX4_init 79 = .ok (.newarray .int, 2) := by decide +kernel
theorem dX4_init_81 : decode cX4_init 81 = .ok (.putfield 43, 3) := by decide +kernel
theorem dX4_init_84 : decode cX4_init 84 = .ok (.return_, 1) := by decide +kernel
theorem dX4_spread_0 : decode cX4_spread 0 = .ok (.aload_n 0, 1) := by decide +kernel
theorem dX4_spread_1 : decode cX4_spread 1 = .ok (.aload_n 1, 1) := by decide +kernel
theorem dX4_spread_2 : decode cX4_spread 2 = .ok (.iload_n 2, 1) := by decide +kernel
theorem dX4_spread_3 : decode cX4_spread 3 = .ok (.invokevirtual 46, 3) := by decide +kernel
theorem dX4_spread_6 : decode cX4_spread 6 = .ok (.aload_n 0, 1) := by decide +kernel
theorem dX4_spread_7 : decode cX4_spread 7 = .ok (.getfield 43, 3) := by decide +kernel
theorem dX4_spread_10 : decode cX4_spread 10 = .ok (.iconst 0, 1) := by decide +kernel
theorem dX4_spread_11 : decode cX4_spread 11 = .ok (.invokestatic 50, 3) := by decide +kernel
theorem dX4_spread_14 : decode cX4_spread 14 = .ok (.aload_n 0, 1) := by decide +kernel
theorem dX4_spread_15 : decode cX4_spread 15 = .ok (.iconst 0, 1) := by decide +kernel
theorem dX4_spread_16 : decode cX4_spread 16 = .ok (.putfield 19, 3) := by decide +kernel
theorem dX4_spread_19 : decode cX4_spread 19 = .ok (.aload_n 0, 1) := by decide +kernel
theorem dX4_spread_20 : decode cX4_spread 20 = .ok (.iconst 1, 1) := by decide +kernel
theorem dX4_spread_21 : decode cX4_spread 21 = .ok (.iload_n 2, 1) := by decide +kernel
theorem dX4_spread_22 : decode cX4_spread 22 = .ok (.ishl, 1) := by decide +kernel
theorem dX4_spread_23 : decode cX4_spread 23 = .ok (.iconst 0, 1) := by decide +kernel
theorem dX4_spread_24 : decode cX4_spread 24 = .ok (.iload_n 2, 1) := by decide +kernel
theorem dX4_spread_25 : decode cX4_spread 25 = .ok (.iconst (-1), 1) := by decide +kernel
theorem dX4_spread_26 : decode cX4_spread 26 = .ok (.invokevirtual 56, 3) := by decide +kernel
theorem dX4_spread_29 : decode cX4_spread 29 = .ok (.iconst 0, 1) := by decide +kernel
theorem dX4_spread_30 : decode cX4_spread 30 = .ok (.istore_n 3, 1) := by decide +kernel
theorem dX4_spread_31 : decode cX4_spread 31 = .ok (.iload_n 3, 1) := by decide +kernel
theorem dX4_spread_32 : decode cX4_spread 32 = .ok (.aload_n 0, 1) := by decide +kernel
theorem dX4_spread_33 : decode cX4_spread 33 = .ok (.getfield 19, 3) := by decide +kernel
theorem dX4_spread_36 : decode cX4_spread 36 = .ok (.if_icmp .ge 22, 3) := by decide +kernel
theorem dX4_spread_39 : decode cX4_spread 39 = .ok (.iload_n 3, 1) := by decide +kernel
theorem dX4_spread_40 : decode cX4_spread 40 = .ok (.sipush 161, 3) := by decide +kernel
theorem dX4_spread_43 : decode cX4_spread 43 = .ok (.if_icmp .ge 15, 3) := by decide +kernel
theorem dX4_spread_46 : decode cX4_spread 46 = .ok (.aload_n 0, 1) := by decide +kernel
theorem dX4_spread_47 : decode cX4_spread 47 = .ok (.aload_n 1, 1) := by decide +kernel
theorem dX4_spread_48 : decode cX4_spread 48 = .ok (.iload_n 3, 1) := by decide +kernel
theorem dX4_spread_49 : decode cX4_spread 49 = .ok (.invokevirtual 60, 3) := by decide +kernel
theorem dX4_spread_52 : decode cX4_spread 52 = .ok (.iinc 3 1, 3) := by decide +kernel
theorem dX4_spread_55 : decode cX4_spread 55 = .ok (.goto (-24), 3) := by decide +kernel
theorem dX4_spread_58 : decode cX4_spread 58 = .ok (.return_, 1) := by decide +kernel
theorem dX4_numberPairs_0 : decode cX4_numberPairs 0 = .ok (.iconst 1, 1) := by decide +kernel
theorem dX4_numberPairs_1 : decode cX4_numberPairs 1 = .ok (.istore_n 3, 1) := by decide +kernel
theorem dX4_numberPairs_2 : decode cX4_numberPairs 2 = .ok (.iconst 0, 1) := by decide +kernel
theorem dX4_numberPairs_3 : decode cX4_numberPairs 3 = .ok (.istore 4, 2) := by decide +kernel
theorem dX4_numberPairs_5 : decode cX4_numberPairs 5 = .ok (.iload 4, 2) := by decide +kernel
theorem dX4_numberPairs_7 : decode cX4_numberPairs 7 = .ok (.aload_n 1, 1) := by decide +kernel
theorem dX4_numberPairs_8 : decode cX4_numberPairs 8 = .ok (.getfield 63, 3) := by decide +kernel
theorem dX4_numberPairs_11 : decode cX4_numberPairs 11 = .ok (.if_icmp .ge 57, 3) := by decide +kernel
theorem dX4_numberPairs_14 : decode cX4_numberPairs 14 = .ok (.aload_n 1, 1) := by decide +kernel
theorem dX4_numberPairs_15 : decode cX4_numberPairs 15 = .ok (.getfield 68, 3) := by decide +kernel
theorem dX4_numberPairs_18 : decode cX4_numberPairs 18 = .ok (.iload 4, 2) := by decide +kernel
theorem dX4_numberPairs_20 : decode cX4_numberPairs 20 = .ok (.iaload, 1) := by decide +kernel
theorem dX4_numberPairs_21 : decode cX4_numberPairs 21 = .ok (.istore 5, 2) := by decide +kernel
theorem dX4_numberPairs_23 : decode cX4_numberPairs 23 = .ok (.iload 5, 2) := by decide +kernel
theorem dX4_numberPairs_25 : decode cX4_numberPairs 25 = .ok (.iload 4, 2) := by decide +kernel
theorem dX4_numberPairs_27 : decode cX4_numberPairs 27 = .ok (.if_icmp .le 35, 3) := by decide +kernel
theorem dX4_numberPairs_30 : decode cX4_numberPairs 30 = .ok (.iload 4, 2) := by decide +kernel
theorem dX4_numberPairs_32 : decode cX4_numberPairs 32 = .ok (.iload_n 2, 1) := by decide +kernel
theorem dX4_numberPairs_33 : decode cX4_numberPairs 33 = .ok (.if_icmp .eq 29, 3) := by decide +kernel
theorem dX4_numberPairs_36 : decode cX4_numberPairs 36 = .ok (.iload 5, 2) := by decide +kernel
theorem dX4_numberPairs_38 : decode cX4_numberPairs 38 = .ok (.iload_n 2, 1) := by decide +kernel
theorem dX4_numberPairs_39 : decode cX4_numberPairs 39 = .ok (.if_icmp .eq 23, 3) := by decide +kernel
theorem dX4_numberPairs_42 : decode cX4_numberPairs 42 = .ok (.aload_n 0, 1) := by decide +kernel
theorem dX4_numberPairs_43 : decode cX4_numberPairs 43 = .ok (.getfield 37, 3) := by decide +kernel
theorem dX4_numberPairs_46 : decode cX4_numberPairs 46 = .ok (.iload 4, 2) := by decide +kernel
theorem dX4_numberPairs_48 : decode cX4_numberPairs 48 = .ok (.iload_n 3, 1) := by decide +kernel
theorem dX4_numberPairs_49 : decode cX4_numberPairs 49 = .ok (.iastore, 1) := by decide +kernel
theorem dX4_numberPairs_50 : decode cX4_numberPairs 50 = .ok (.aload_n 0, 1) := by decide +kernel
theorem dX4_numberPairs_51 : decode cX4_numberPairs 51 = .ok (.getfield 37, 3) := by decide +kernel
theorem dX4_numberPairs_54 : decode cX4_numberPairs 54 = .ok (.iload 5, 2) := by decide +kernel
theorem dX4_numberPairs_56 : decode cX4_numberPairs 56 = .ok (.iload_n 3, 1) := by decide +kernel
theorem dX4_numberPairs_57 : decode cX4_numberPairs 57 = .ok (.iastore, 1) := by decide +kernel
theorem dX4_numberPairs_58 : decode cX4_numberPairs 58 = .ok (.iload_n 3, 1) := by decide +kernel
theorem dX4_numberPairs_59 : decode cX4_numberPairs 59 = .ok (.iconst 1, 1) := by decide +kernel
theorem dX4_numberPairs_60 : decode cX4_numberPairs 60 = .ok (.ishl, 1) := by decide +kernel
theorem dX4_numberPairs_61 : decode cX4_numberPairs 61 = .ok (.istore_n 3, 1) := by decide +kernel
theorem dX4_numberPairs_62 : decode cX4_numberPairs 62 = .ok (.iinc 4 1, 3) := by decide +kernel
theorem dX4_numberPairs_65 : decode cX4_numberPairs 65 = .ok (.goto (-60), 3) := by decide +kernel
theorem dX4_numberPairs_68 : decode cX4_numberPairs 68 = .ok (.return_, 1) := by decide +kernel
theorem dX4_goOn_0 : decode cX4_goOn 0 = .ok (.aload_n 1, 1) := by decide +kernel
theorem dX4_goOn_1 : decode cX4_goOn 1 = .ok (.getfield 71, 3) := by decide +kernel
theorem dX4_goOn_4 : decode cX4_goOn 4 = .ok (.aload_n 0, 1) := by decide +kernel
theorem dX4_goOn_5 : decode cX4_goOn 5 = .ok (.getfield 31, 3) := by decide +kernel
theorem dX4_goOn_8 : decode cX4_goOn 8 = .ok (.iload_n 2, 1) := by decide +kernel
theorem dX4_goOn_9 : decode cX4_goOn 9 = .ok (.iaload, 1) := by decide +kernel
theorem dX4_goOn_10 : decode cX4_goOn 10 = .ok (.iaload, 1) := by decide +kernel
theorem dX4_goOn_11 : decode cX4_goOn 11 = .ok (.aload_n 0, 1) := by decide +kernel
theorem dX4_goOn_12 : decode cX4_goOn 12 = .ok (.getfield 28, 3) := by decide +kernel
theorem dX4_goOn_15 : decode cX4_goOn 15 = .ok (.iload_n 2, 1) := by decide +kernel
theorem dX4_goOn_16 : decode cX4_goOn 16 = .ok (.iaload, 1) := by decide +kernel
theorem dX4_goOn_17 : decode cX4_goOn 17 = .ok (.iconst (-1), 1) := by decide +kernel
theorem dX4_goOn_18 : decode cX4_goOn 18 = .ok (.ixor, 1) := by decide +kernel
theorem dX4_goOn_19 : decode cX4_goOn 19 = .ok (.iand, 1) := by decide +kernel
theorem dX4_goOn_20 : decode cX4_goOn 20 = .ok (.istore_n 3, 1) := by decide +kernel
theorem dX4_goOn_21 : decode cX4_goOn 21 = .ok (.iconst 0, 1) := by decide +kernel
theorem dX4_goOn_22 : decode cX4_goOn 22 = .ok (.istore 4, 2) := by decide +kernel
theorem dX4_goOn_24 : decode cX4_goOn 24 = .ok (.iload 4, 2) := by decide +kernel
theorem dX4_goOn_26 : decode cX4_goOn 26 = .ok (.aload_n 1, 1) := by decide +kernel
theorem dX4_goOn_27 : decode cX4_goOn 27 = .ok (.getfield 63, 3) := by decide +kernel
theorem dX4_goOn_30 : decode cX4_goOn 30 = .ok (.if_icmp .ge 87, 3) := by decide +kernel
theorem dX4_goOn_33 : decode cX4_goOn 33 = .ok (.iload_n 3, 1) := by decide +kernel
theorem dX4_goOn_34 : decode cX4_goOn 34 = .ok (.iload 4, 2) := by decide +kernel
theorem dX4_goOn_36 : decode cX4_goOn 36 = .ok (.invokestatic 74, 3) := by decide +kernel
theorem dX4_goOn_39 : decode cX4_goOn 39 = .ok (.ifCond .eq 72, 3) := by decide +kernel
theorem dX4_goOn_42 : decode cX4_goOn 42 = .ok (.aload_n 1, 1) := by decide +kernel
theorem dX4_goOn_43 : decode cX4_goOn 43 = .ok (.iload 4, 2) := by decide +kernel
theorem dX4_goOn_45 : decode cX4_goOn 45 = .ok (.invokevirtual 78, 3) := by decide +kernel
theorem dX4_goOn_48 : decode cX4_goOn 48 = .ok (.ifCond .ne 63, 3) := by decide +kernel
theorem dX4_goOn_51 : decode cX4_goOn 51 = .ok (.aload_n 1, 1) := by decide +kernel
theorem dX4_goOn_52 : decode cX4_goOn 52 = .ok (.getfield 68, 3) := by decide +kernel
theorem dX4_goOn_55 : decode cX4_goOn 55 = .ok (.iload 4, 2) := by decide +kernel
theorem dX4_goOn_57 : decode cX4_goOn 57 = .ok (.iaload, 1) := by decide +kernel
theorem dX4_goOn_58 : decode cX4_goOn 58 = .ok (.istore 5, 2) := by decide +kernel
theorem dX4_goOn_60 : decode cX4_goOn 60 = .ok (.aload_n 0, 1) := by decide +kernel
theorem dX4_goOn_61 : decode cX4_goOn 61 = .ok (.getfield 28, 3) := by decide +kernel
theorem dX4_goOn_64 : decode cX4_goOn 64 = .ok (.iload_n 2, 1) := by decide +kernel
theorem dX4_goOn_65 : decode cX4_goOn 65 = .ok (.iaload, 1) := by decide +kernel
theorem dX4_goOn_66 : decode cX4_goOn 66 = .ok (.iload 5, 2) := by decide +kernel
theorem dX4_goOn_68 : decode cX4_goOn 68 = .ok (.invokestatic 74, 3) := by decide +kernel
theorem dX4_goOn_71 : decode cX4_goOn 71 = .ok (.ifCond .ne 40, 3) := by decide +kernel
theorem dX4_goOn_74 : decode cX4_goOn 74 = .ok (.aload_n 0, 1) := by decide +kernel
theorem dX4_goOn_75 : decode cX4_goOn 75 = .ok (.aload_n 0, 1) := by decide +kernel
theorem dX4_goOn_76 : decode cX4_goOn 76 = .ok (.getfield 28, 3) := by decide +kernel
theorem dX4_goOn_79 : decode cX4_goOn 79 = .ok (.iload_n 2, 1) := by decide +kernel
theorem dX4_goOn_80 : decode cX4_goOn 80 = .ok (.iaload, 1) := by decide +kernel
theorem dX4_goOn_81 : decode cX4_goOn 81 = .ok (.iconst 1, 1) := by decide +kernel
theorem dX4_goOn_82 : decode cX4_goOn 82 = .ok (.iload 4, 2) := by decide +kernel
theorem dX4_goOn_84 : decode cX4_goOn 84 = .ok (.ishl, 1) := by decide +kernel
theorem dX4_goOn_85 : decode cX4_goOn 85 = .ok (.ior, 1) := by decide +kernel
theorem dX4_goOn_86 : decode cX4_goOn 86 = .ok (.iconst 1, 1) := by decide +kernel
theorem dX4_goOn_87 : decode cX4_goOn 87 = .ok (.iload 5, 2) := by decide +kernel
theorem dX4_goOn_89 : decode cX4_goOn 89 = .ok (.ishl, 1) := by decide +kernel
theorem dX4_goOn_90 : decode cX4_goOn 90 = .ok (.ior, 1) := by decide +kernel
theorem dX4_goOn_91 : decode cX4_goOn 91 = .ok (.aload_n 0, 1) := by decide +kernel
theorem dX4_goOn_92 : decode cX4_goOn 92 = .ok (.getfield 40, 3) := by decide +kernel
theorem dX4_goOn_95 : decode cX4_goOn 95 = .ok (.iload_n 2, 1) := by decide +kernel
theorem dX4_goOn_96 : decode cX4_goOn 96 = .ok (.iaload, 1) := by decide +kernel
theorem dX4_goOn_97 : decode cX4_goOn 97 = .ok (.aload_n 0, 1) := by decide +kernel
theorem dX4_goOn_98 : decode cX4_goOn 98 = .ok (.getfield 37, 3) := by decide +kernel
theorem dX4_goOn_101 : decode cX4_goOn 101 = .ok (.iload 4, 2) := by decide +kernel
theorem dX4_goOn_103 : decode cX4_goOn 103 = .ok (.iaload, 1) := by decide +kernel
theorem dX4_goOn_104 : decode cX4_goOn 104 = .ok (.ior, 1) := by decide +kernel
theorem dX4_goOn_105 : decode cX4_goOn 105 = .ok (.iload 5, 2) := by decide +kernel
theorem dX4_goOn_107 : decode cX4_goOn 107 = .ok (.iload_n 2, 1) := by decide +kernel
theorem dX4_goOn_108 : decode cX4_goOn 108 = .ok (.invokevirtual 56, 3) := by decide +kernel
theorem dX4_goOn_111 : decode cX4_goOn 111 = .ok (.iinc 4 1, 3) := by decide +kernel
theorem dX4_goOn_114 : decode cX4_goOn 114 = .ok (.goto (-90), 3) := by decide +kernel
theorem dX4_goOn_117 : decode cX4_goOn 117 = .ok (.return_, 1) := by decide +kernel
theorem dX4_add_0 : decode cX4_add 0 = .ok (.aload_n 0, 1) := by decide +kernel
theorem dX4_add_1 : decode cX4_add 1 = .ok (.getfield 19, 3) := by decide +kernel
theorem dX4_add_4 : decode cX4_add 4 = .ok (.sipush 161, 3) := by decide +kernel
theorem dX4_add_7 : decode cX4_add 7 = .ok (.if_icmp .ge 25, 3) := by decide +kernel
theorem dX4_add_10 : decode cX4_add 10 = .ok (.iload_n 2, 1) := by decide +kernel
theorem dX4_add_11 : decode cX4_add 11 = .ok (.aload_n 0, 1) := by decide +kernel
theorem dX4_add_12 : decode cX4_add 12 = .ok (.getfield 43, 3) := by decide +kernel
theorem dX4_add_15 : decode cX4_add 15 = .ok (.arraylength, 1) := by decide +kernel
theorem dX4_add_16 : decode cX4_add 16 = .ok (.if_icmp .ge 16, 3) := by decide +kernel
theorem dX4_add_19 : decode cX4_add 19 = .ok (.aload_n 0, 1) := by decide +kernel
theorem dX4_add_20 : decode cX4_add 20 = .ok (.getfield 43, 3) := by decide +kernel
theorem dX4_add_23 : decode cX4_add 23 = .ok (.iload_n 2, 1) := by decide +kernel
theorem dX4_add_24 : decode cX4_add 24 = .ok (.iaload, 1) := by decide +kernel
theorem dX4_add_25 : decode cX4_add 25 = .ok (.iload_n 3, 1) := by decide +kernel
theorem dX4_add_26 : decode cX4_add 26 = .ok (.invokestatic 74, 3) := by decide +kernel
theorem dX4_add_29 : decode cX4_add 29 = .ok (.ifCond .eq 4, 3) := by decide +kernel
theorem dX4_add_32 : decode cX4_add 32 = .ok (.return_, 1) := by decide +kernel
theorem dX4_add_33 : decode cX4_add 33 = .ok (.aload_n 0, 1) := by decide +kernel
theorem dX4_add_34 : decode cX4_add 34 = .ok (.getfield 43, 3) := by decide +kernel
theorem dX4_add_37 : decode cX4_add 37 = .ok (.iload_n 2, 1) := by decide +kernel
theorem dX4_add_38 : decode cX4_add 38 = .ok (.dup2, 1) := by decide +kernel
theorem dX4_add_39 : decode cX4_add 39 = .ok (.iaload, 1) := by decide +kernel
theorem dX4_add_40 : decode cX4_add 40 = .ok (.iconst 1, 1) := by decide +kernel
theorem dX4_add_41 : decode cX4_add 41 = .ok (.iload_n 3, 1) := by decide +kernel
theorem dX4_add_42 : decode cX4_add 42 = .ok (.ishl, 1) := by decide +kernel
theorem dX4_add_43 : decode cX4_add 43 = .ok (.ior, 1) := by decide +kernel
theorem dX4_add_44 : decode cX4_add 44 = .ok (.iastore, 1) := by decide +kernel
theorem dX4_add_45 : decode cX4_add 45 = .ok (.aload_n 0, 1) := by decide +kernel
theorem dX4_add_46 : decode cX4_add 46 = .ok (.getfield 28, 3) := by decide +kernel
theorem dX4_add_49 : decode cX4_add 49 = .ok (.aload_n 0, 1) := by decide +kernel
theorem dX4_add_50 : decode cX4_add 50 = .ok (.getfield 19, 3) := by decide +kernel
theorem dX4_add_53 : decode cX4_add 53 = .ok (.iload_n 1, 1) := by decide +kernel
theorem dX4_add_54 : decode cX4_add 54 = .ok (.iastore, 1) := by decide +kernel
theorem dX4_add_55 : decode cX4_add 55 = .ok (.aload_n 0, 1) := by decide +kernel
theorem dX4_add_56 : decode cX4_add 56 = .ok (.getfield 40, 3) := by decide +kernel
theorem dX4_add_59 : decode cX4_add 59 = .ok (.aload_n 0, 1) := by decide +kernel
theorem dX4_add_60 : decode cX4_add 60 = .ok (.getfield 19, 3) := by decide +kernel
theorem dX4_add_63 : decode cX4_add 63 = .ok (.iload_n 2, 1) := by decide +kernel
theorem dX4_add_64 : decode cX4_add 64 = .ok (.iastore, 1) := by decide +kernel
theorem dX4_add_65 : decode cX4_add 65 = .ok (.aload_n 0, 1) := by decide +kernel
theorem dX4_add_66 : decode cX4_add 66 = .ok (.getfield 31, 3) := by decide +kernel
theorem dX4_add_69 : decode cX4_add 69 = .ok (.aload_n 0, 1) := by decide +kernel
theorem dX4_add_70 : decode cX4_add 70 = .ok (.getfield 19, 3) := by decide +kernel
theorem dX4_add_73 : decode cX4_add 73 = .ok (.iload_n 3, 1) := by decide +kernel
theorem dX4_add_74 : decode cX4_add 74 = .ok (.iastore, 1) := by decide +kernel
theorem dX4_add_75 : decode cX4_add 75 = .ok (.aload_n 0, 1) := by decide +kernel
theorem dX4_add_76 : decode cX4_add 76 = .ok (.getfield 34, 3) := by decide +kernel
theorem dX4_add_79 : decode cX4_add 79 = .ok (.aload_n 0, 1) := by decide +kernel
theorem dX4_add_80 : decode cX4_add 80 = .ok (.getfield 19, 3) := by decide +kernel
theorem dX4_add_83 : decode cX4_add 83 = .ok (.iload 4, 2) := by decide +kernel
theorem dX4_add_85 : decode cX4_add 85 = .ok (.iastore, 1) := by decide +kernel
theorem dX4_add_86 : decode cX4_add 86 = .ok (.aload_n 0, 1) := by decide +kernel
theorem dX4_add_87 : decode cX4_add 87 = .ok (.dup, 1) := by decide +kernel
theorem dX4_add_88 : decode cX4_add 88 = .ok (.getfield 19, 3) := by decide +kernel
theorem dX4_add_91 : decode cX4_add 91 = .ok (.iconst 1, 1) := by decide +kernel
theorem dX4_add_92 : decode cX4_add 92 = .ok (.iadd, 1) := by decide +kernel
theorem dX4_add_93 : decode cX4_add 93 = .ok (.putfield 19, 3) := by decide +kernel
theorem dX4_add_96 : decode cX4_add 96 = .ok (.return_, 1) := by decide +kernel
theorem dX4_findBetterPath_0 : decode cX4_findBetterPath 0 = .ok (.aload_n 1, 1) := by decide +kernel
theorem dX4_findBetterPath_1 : decode cX4_findBetterPath 1 = .ok (.iload_n 2, 1) := by decide +kernel
theorem dX4_findBetterPath_2 : decode cX4_findBetterPath 2 = .ok (.invokevirtual 78, 3) := by decide +kernel
theorem dX4_findBetterPath_5 : decode cX4_findBetterPath 5 = .ok (.ifCond .ne 5, 3) := by decide +kernel
theorem dX4_findBetterPath_8 : decode cX4_findBetterPath 8 = .ok (.iconst 0, 1) := by decide +kernel
theorem dX4_findBetterPath_9 : decode cX4_findBetterPath 9 = .ok (.ireturn, 1) := by decide +kernel
theorem dX4_findBetterPath_10 : decode cX4_findBetterPath 10 = .ok (.aload_n 0, 1) := by decide +kernel
theorem dX4_findBetterPath_11 : decode cX4_findBetterPath 11 = .ok (.aload_n 1, 1) := by decide +kernel
theorem dX4_findBetterPath_12 : decode cX4_findBetterPath 12 = .ok (.iload_n 2, 1) := by decide +kernel
theorem dX4_findBetterPath_13 : decode cX4_findBetterPath 13 = .ok (.invokevirtual 82, 3) := by decide +kernel
theorem dX4_findBetterPath_16 : decode cX4_findBetterPath 16 = .ok (.iconst 0, 1) := by decide +kernel
theorem dX4_findBetterPath_17 : decode cX4_findBetterPath 17 = .ok (.istore_n 3, 1) := by decide +kernel
theorem dX4_findBetterPath_18 : decode cX4_findBetterPath 18 = .ok (.iload_n 3, 1) := by decide +kernel
theorem dX4_findBetterPath_19 : decode cX4_findBetterPath 19 = .ok (.aload_n 0, 1) := by decide +kernel
theorem dX4_findBetterPath_20 : decode cX4_findBetterPath 20 = .ok (.getfield 19, 3) := by decide +kernel
theorem dX4_findBetterPath_23 : decode cX4_findBetterPath 23 = .ok (.if_icmp .ge 43, 3) := by decide +kernel
theorem dX4_findBetterPath_26 : decode cX4_findBetterPath 26 = .ok (.aload_n 0, 1) := by decide +kernel
theorem dX4_findBetterPath_27 : decode cX4_findBetterPath 27 = .ok (.aload_n 1, 1) := by decide +kernel
theorem dX4_findBetterPath_28 : decode cX4_findBetterPath 28 = .ok (.aload_n 0, 1) := by decide +kernel
theorem dX4_findBetterPath_29 : decode cX4_findBetterPath 29 = .ok (.getfield 31, 3) := by decide +kernel
theorem dX4_findBetterPath_32 : decode cX4_findBetterPath 32 = .ok (.iload_n 3, 1) := by decide +kernel
theorem dX4_findBetterPath_33 : decode cX4_findBetterPath 33 = .ok (.iaload, 1) := by decide +kernel
theorem dX4_findBetterPath_34 : decode cX4_findBetterPath 34 = .ok (.iload_n 2, 1) := by decide +kernel
theorem dX4_findBetterPath_35 : decode cX4_findBetterPath 35 = .ok (.invokevirtual 85, 3) := by decide +kernel
theorem dX4_findBetterPath_38 : decode cX4_findBetterPath 38 = .ok (.istore 4, 2) := by decide +kernel
theorem dX4_findBetterPath_40 : decode cX4_findBetterPath 40 = .ok (.iload 4, 2) := by decide +kernel
theorem dX4_findBetterPath_42 : decode cX4_findBetterPath 42 = .ok (.iconst (-1), 1) := by decide +kernel
theorem dX4_findBetterPath_43 : decode cX4_findBetterPath 43 = .ok (.if_icmp .eq 17, 3) := by decide +kernel
theorem dX4_findBetterPath_46 : decode cX4_findBetterPath 46 = .ok (.aload_n 0, 1) := by decide +kernel
theorem dX4_findBetterPath_47 : decode cX4_findBetterPath 47 = .ok (.aload_n 1, 1) := by decide +kernel
theorem dX4_findBetterPath_48 : decode cX4_findBetterPath 48 = .ok (.iload_n 3, 1) := by decide +kernel
theorem dX4_findBetterPath_49 : decode cX4_findBetterPath 49 = .ok (.invokevirtual 89, 3) := by decide +kernel
theorem dX4_findBetterPath_52 : decode cX4_findBetterPath 52 = .ok (.aload_n 0, 1) := by decide +kernel
theorem dX4_findBetterPath_53 : decode cX4_findBetterPath 53 = .ok (.iload 4, 2) := by decide +kernel
theorem dX4_findBetterPath_55 : decode cX4_findBetterPath 55 = .ok (.invokevirtual 92, 3) := by decide +kernel
theorem dX4_findBetterPath_58 : decode cX4_findBetterPath 58 = .ok (.iconst 1, 1) := by decide +kernel
theorem dX4_findBetterPath_59 : decode cX4_findBetterPath 59 = .ok (.ireturn, 1) := by decide +kernel
theorem dX4_findBetterPath_60 : decode cX4_findBetterPath 60 = .ok (.iinc 3 1, 3) := by decide +kernel
theorem dX4_findBetterPath_63 : decode cX4_findBetterPath 63 = .ok (.goto (-45), 3) := by decide +kernel
theorem dX4_findBetterPath_66 : decode cX4_findBetterPath 66 = .ok (.iconst 0, 1) := by decide +kernel
theorem dX4_findBetterPath_67 : decode cX4_findBetterPath 67 = .ok (.ireturn, 1) := by decide +kernel
theorem dX4_freeBeside_0 : decode cX4_freeBeside 0 = .ok (.iconst 0, 1) := by decide +kernel
theorem dX4_freeBeside_1 : decode cX4_freeBeside 1 = .ok (.istore 4, 2) := by decide +kernel
theorem dX4_freeBeside_3 : decode cX4_freeBeside 3 = .ok (.iload 4, 2) := by decide +kernel
theorem dX4_freeBeside_5 : decode cX4_freeBeside 5 = .ok (.aload_n 1, 1) := by decide +kernel
theorem dX4_freeBeside_6 : decode cX4_freeBeside 6 = .ok (.getfield 63, 3) := by decide +kernel
theorem dX4_freeBeside_9 : decode cX4_freeBeside 9 = .ok (.if_icmp .ge 37, 3) := by decide +kernel
theorem dX4_freeBeside_12 : decode cX4_freeBeside 12 = .ok (.iload 4, 2) := by decide +kernel
theorem dX4_freeBeside_14 : decode cX4_freeBeside 14 = .ok (.iload_n 3, 1) := by decide +kernel
theorem dX4_freeBeside_15 : decode cX4_freeBeside 15 = .ok (.if_icmp .eq 25, 3) := by decide +kernel
theorem dX4_freeBeside_18 : decode cX4_freeBeside 18 = .ok (.aload_n 1, 1) := by decide +kernel
theorem dX4_freeBeside_19 : decode cX4_freeBeside 19 = .ok (.iload_n 2, 1) := by decide +kernel
theorem dX4_freeBeside_20 : decode cX4_freeBeside 20 = .ok (.iload 4, 2) := by decide +kernel
theorem dX4_freeBeside_22 : decode cX4_freeBeside 22 = .ok (.invokevirtual 96, 3) := by decide +kernel
theorem dX4_freeBeside_25 : decode cX4_freeBeside 25 = .ok (.ifCond .eq 15, 3) := by decide +kernel
theorem dX4_freeBeside_28 : decode cX4_freeBeside 28 = .ok (.aload_n 1, 1) := by decide +kernel
theorem dX4_freeBeside_29 : decode cX4_freeBeside 29 = .ok (.iload 4, 2) := by decide +kernel
theorem dX4_freeBeside_31 : decode cX4_freeBeside 31 = .ok (.invokevirtual 78, 3) := by decide +kernel
theorem dX4_freeBeside_34 : decode cX4_freeBeside 34 = .ok (.ifCond .eq 6, 3) := by decide +kernel
theorem dX4_freeBeside_37 : decode cX4_freeBeside 37 = .ok (.iload 4, 2) := by decide +kernel
theorem dX4_freeBeside_39 : decode cX4_freeBeside 39 = .ok (.ireturn, 1) := by decide +kernel
theorem dX4_freeBeside_40 : decode cX4_freeBeside 40 = .ok (.iinc 4 1, 3) := by decide +kernel
theorem dX4_freeBeside_43 : decode cX4_freeBeside 43 = .ok (.goto (-40), 3) := by decide +kernel
theorem dX4_freeBeside_46 : decode cX4_freeBeside 46 = .ok (.iconst (-1), 1) := by decide +kernel
theorem dX4_freeBeside_47 : decode cX4_freeBeside 47 = .ok (.ireturn, 1) := by decide +kernel
theorem dX4_findFlower_0 : decode cX4_findFlower 0 = .ok (.aload_n 0, 1) := by decide +kernel
theorem dX4_findFlower_1 : decode cX4_findFlower 1 = .ok (.aload_n 1, 1) := by decide +kernel
theorem dX4_findFlower_2 : decode cX4_findFlower 2 = .ok (.iload_n 2, 1) := by decide +kernel
theorem dX4_findFlower_3 : decode cX4_findFlower 3 = .ok (.invokevirtual 82, 3) := by decide +kernel
theorem dX4_findFlower_6 : decode cX4_findFlower 6 = .ok (.iconst 1, 1) := by decide +kernel
theorem dX4_findFlower_7 : decode cX4_findFlower 7 = .ok (.istore_n 3, 1) := by decide +kernel
theorem dX4_findFlower_8 : decode cX4_findFlower 8 = .ok (.iload_n 3, 1) := by decide +kernel
theorem dX4_findFlower_9 : decode cX4_findFlower 9 = .ok (.aload_n 0, 1) := by decide +kernel
theorem dX4_findFlower_10 : decode cX4_findFlower 10 = .ok (.getfield 19, 3) := by decide +kernel
theorem dX4_findFlower_13 : decode cX4_findFlower 13 = .ok (.if_icmp .ge 31, 3) := by decide +kernel
theorem dX4_findFlower_16 : decode cX4_findFlower 16 = .ok (.aload_n 1, 1) := by decide +kernel
theorem dX4_findFlower_17 : decode cX4_findFlower 17 = .ok (.aload_n 0, 1) := by decide +kernel
theorem dX4_findFlower_18 : decode cX4_findFlower 18 = .ok (.getfield 31, 3) := by decide +kernel
theorem dX4_findFlower_21 : decode cX4_findFlower 21 = .ok (.iload_n 3, 1) := by decide +kernel
theorem dX4_findFlower_22 : decode cX4_findFlower 22 = .ok (.iaload, 1) := by decide +kernel
theorem dX4_findFlower_23 : decode cX4_findFlower 23 = .ok (.iload_n 2, 1) := by decide +kernel
theorem dX4_findFlower_24 : decode cX4_findFlower 24 = .ok (.invokevirtual 96, 3) := by decide +kernel
theorem dX4_findFlower_27 : decode cX4_findFlower 27 = .ok (.ifCond .eq 11, 3) := by decide +kernel
theorem dX4_findFlower_30 : decode cX4_findFlower 30 = .ok (.aload_n 0, 1) := by decide +kernel
theorem dX4_findFlower_31 : decode cX4_findFlower 31 = .ok (.aload_n 1, 1) := by decide +kernel
theorem dX4_findFlower_32 : decode cX4_findFlower 32 = .ok (.iload_n 3, 1) := by decide +kernel
theorem dX4_findFlower_33 : decode cX4_findFlower 33 = .ok (.invokevirtual 89, 3) := by decide +kernel
theorem dX4_findFlower_36 : decode cX4_findFlower 36 = .ok (.iconst 1, 1) := by decide +kernel
theorem dX4_findFlower_37 : decode cX4_findFlower 37 = .ok (.ireturn, 1) := by decide +kernel
theorem dX4_findFlower_38 : decode cX4_findFlower 38 = .ok (.iinc 3 1, 3) := by decide +kernel
theorem dX4_findFlower_41 : decode cX4_findFlower 41 = .ok (.goto (-33), 3) := by decide +kernel
theorem dX4_findFlower_44 : decode cX4_findFlower 44 = .ok (.iconst 0, 1) := by decide +kernel
theorem dX4_findFlower_45 : decode cX4_findFlower 45 = .ok (.ireturn, 1) := by decide +kernel
theorem dX4_fillRow_0 : decode cX4_fillRow 0 = .ok (.aload_n 0, 1) := by decide +kernel
theorem dX4_fillRow_1 : decode cX4_fillRow 1 = .ok (.aload_n 0, 1) := by decide +kernel
theorem dX4_fillRow_2 : decode cX4_fillRow 2 = .ok (.getfield 28, 3) := by decide +kernel
theorem dX4_fillRow_5 : decode cX4_fillRow 5 = .ok (.iload_n 2, 1) := by decide +kernel
theorem dX4_fillRow_6 : decode cX4_fillRow 6 = .ok (.iaload, 1) := by decide +kernel
theorem dX4_fillRow_7 : decode cX4_fillRow 7 = .ok (.invokestatic 99, 3) := by decide +kernel
theorem dX4_fillRow_10 : decode cX4_fillRow 10 = .ok (.putfield 15, 3) := by decide +kernel
theorem dX4_fillRow_13 : decode cX4_fillRow 13 = .ok (.iload_n 2, 1) := by decide +kernel
theorem dX4_fillRow_14 : decode cX4_fillRow 14 = .ok (.istore_n 3, 1) := by decide +kernel
theorem dX4_fillRow_15 : decode cX4_fillRow 15 = .ok (.aload_n 0, 1) := by decide +kernel
theorem dX4_fillRow_16 : decode cX4_fillRow 16 = .ok (.getfield 15, 3) := by decide +kernel
theorem dX4_fillRow_19 : decode cX4_fillRow 19 = .ok (.iconst 1, 1) := by decide +kernel
theorem dX4_fillRow_20 : decode cX4_fillRow 20 = .ok (.isub, 1) := by decide +kernel
theorem dX4_fillRow_21 : decode cX4_fillRow 21 = .ok (.istore 4, 2) := by decide +kernel
theorem dX4_fillRow_23 : decode cX4_fillRow 23 = .ok (.iload 4, 2) := by decide +kernel
theorem dX4_fillRow_25 : decode cX4_fillRow 25 = .ok (.ifCond .le 53, 3) := by decide +kernel
theorem dX4_fillRow_28 : decode cX4_fillRow 28 = .ok (.iload_n 3, 1) := by decide +kernel
theorem dX4_fillRow_29 : decode cX4_fillRow 29 = .ok (.ifCond .le 49, 3) := by decide +kernel
theorem dX4_fillRow_32 : decode cX4_fillRow 32 = .ok (.aload_n 0, 1) := by decide +kernel
theorem dX4_fillRow_33 : decode cX4_fillRow 33 = .ok (.getfield 9, 3) := by decide +kernel
theorem dX4_fillRow_36 : decode cX4_fillRow 36 = .ok (.iload 4, 2) := by decide +kernel
theorem dX4_fillRow_38 : decode cX4_fillRow 38 = .ok (.aload_n 0, 1) := by decide +kernel
theorem dX4_fillRow_39 : decode cX4_fillRow 39 = .ok (.getfield 31, 3) := by decide +kernel
theorem dX4_fillRow_42 : decode cX4_fillRow 42 = .ok (.iload_n 3, 1) := by decide +kernel
theorem dX4_fillRow_43 : decode cX4_fillRow 43 = .ok (.iaload, 1) := by decide +kernel
theorem dX4_fillRow_44 : decode cX4_fillRow 44 = .ok (.iastore, 1) := by decide +kernel
theorem dX4_fillRow_45 : decode cX4_fillRow 45 = .ok (.aload_n 0, 1) := by decide +kernel
theorem dX4_fillRow_46 : decode cX4_fillRow 46 = .ok (.getfield 9, 3) := by decide +kernel
theorem dX4_fillRow_49 : decode cX4_fillRow 49 = .ok (.iload 4, 2) := by decide +kernel
theorem dX4_fillRow_51 : decode cX4_fillRow 51 = .ok (.iconst 1, 1) := by decide +kernel
theorem dX4_fillRow_52 : decode cX4_fillRow 52 = .ok (.isub, 1) := by decide +kernel
theorem dX4_fillRow_53 : decode cX4_fillRow 53 = .ok (.aload_n 1, 1) := by decide +kernel
theorem dX4_fillRow_54 : decode cX4_fillRow 54 = .ok (.getfield 68, 3) := by decide +kernel
theorem dX4_fillRow_57 : decode cX4_fillRow 57 = .ok (.aload_n 0, 1) := by decide +kernel
theorem dX4_fillRow_58 : decode cX4_fillRow 58 = .ok (.getfield 31, 3) := by decide +kernel
theorem dX4_fillRow_61 : decode cX4_fillRow 61 = .ok (.iload_n 3, 1) := by decide +kernel
theorem dX4_fillRow_62 : decode cX4_fillRow 62 = .ok (.iaload, 1) := by decide +kernel
theorem dX4_fillRow_63 : decode cX4_fillRow 63 = .ok (.iaload, 1) := by decide +kernel
theorem dX4_fillRow_64 : decode cX4_fillRow 64 = .ok (.iastore, 1) := by decide +kernel
theorem dX4_fillRow_65 : decode cX4_fillRow 65 = .ok (.aload_n 0, 1) := by decide +kernel
theorem dX4_fillRow_66 : decode cX4_fillRow 66 = .ok (.getfield 34, 3) := by decide +kernel
theorem dX4_fillRow_69 : decode cX4_fillRow 69 = .ok (.iload_n 3, 1) := by decide +kernel
theorem dX4_fillRow_70 : decode cX4_fillRow 70 = .ok (.iaload, 1) := by decide +kernel
theorem dX4_fillRow_71 : decode cX4_fillRow 71 = .ok (.istore_n 3, 1) := by decide +kernel
theorem dX4_fillRow_72 : decode cX4_fillRow 72 = .ok (.iinc 4 (-2), 3) := by decide +kernel
theorem dX4_fillRow_75 : decode cX4_fillRow 75 = .ok (.goto (-52), 3) := by decide +kernel
theorem dX4_fillRow_78 : decode cX4_fillRow 78 = .ok (.aload_n 0, 1) := by decide +kernel
theorem dX4_fillRow_79 : decode cX4_fillRow 79 = .ok (.getfield 9, 3) := by decide +kernel
theorem dX4_fillRow_82 : decode cX4_fillRow 82 = .ok (.iconst 0, 1) := by decide +kernel
theorem dX4_fillRow_83 : decode cX4_fillRow 83 = .ok (.aload_n 0, 1) := by decide +kernel
theorem dX4_fillRow_84 : decode cX4_fillRow 84 = .ok (.getfield 31, 3) := by decide +kernel
theorem dX4_fillRow_87 : decode cX4_fillRow 87 = .ok (.iconst 0, 1) := by decide +kernel
theorem dX4_fillRow_88 : decode cX4_fillRow 88 = .ok (.iaload, 1) := by decide +kernel
theorem dX4_fillRow_89 : decode cX4_fillRow 89 = .ok (.iastore, 1) := by decide +kernel
theorem dX4_fillRow_90 : decode cX4_fillRow 90 = .ok (.return_, 1) := by decide +kernel
theorem dX4_addToRow_0 : decode cX4_addToRow 0 = .ok (.aload_n 0, 1) := by decide +kernel
theorem dX4_addToRow_1 : decode cX4_addToRow 1 = .ok (.getfield 15, 3) := by decide +kernel
theorem dX4_addToRow_4 : decode cX4_addToRow 4 = .ok (.bipush 12, 2) := by decide +kernel
theorem dX4_addToRow_6 : decode cX4_addToRow 6 = .ok (.if_icmp .ge 23, 3) := by decide +kernel
theorem dX4_addToRow_9 : decode cX4_addToRow 9 = .ok (.aload_n 0, 1) := by decide +kernel
theorem dX4_addToRow_10 : decode cX4_addToRow 10 = .ok (.getfield 9, 3) := by decide +kernel
theorem dX4_addToRow_13 : decode cX4_addToRow 13 = .ok (.aload_n 0, 1) := by decide +kernel
theorem dX4_addToRow_14 : decode cX4_addToRow 14 = .ok (.getfield 15, 3) := by decide +kernel
theorem dX4_addToRow_17 : decode cX4_addToRow 17 = .ok (.iload_n 1, 1) := by decide +kernel
theorem dX4_addToRow_18 : decode cX4_addToRow 18 = .ok (.iastore, 1) := by decide +kernel
theorem dX4_addToRow_19 : decode cX4_addToRow 19 = .ok (.aload_n 0, 1) := by decide +kernel
theorem dX4_addToRow_20 : decode cX4_addToRow 20 = .ok (.dup, 1) := by decide +kernel
theorem dX4_addToRow_21 : decode cX4_addToRow 21 = .ok (.getfield 15, 3) := by decide +kernel
theorem dX4_addToRow_24 : decode cX4_addToRow 24 = .ok (.iconst 1, 1) := by decide +kernel
theorem dX4_addToRow_25 : decode cX4_addToRow 25 = .ok (.iadd, 1) := by decide +kernel
theorem dX4_addToRow_26 : decode cX4_addToRow 26 = .ok (.putfield 15, 3) := by decide +kernel
theorem dX4_addToRow_29 : decode cX4_addToRow 29 = .ok (.return_, 1) := by decide +kernel
theorem dX4_betterPairs_0 : decode cX4_betterPairs 0 = .ok (.iconst 0, 1) := by decide +kernel
theorem dX4_betterPairs_1 : decode cX4_betterPairs 1 = .ok (.istore_n 2, 1) := by decide +kernel
theorem dX4_betterPairs_2 : decode cX4_betterPairs 2 = .ok (.iload_n 2, 1) := by decide +kernel
theorem dX4_betterPairs_3 : decode cX4_betterPairs 3 = .ok (.iconst 1, 1) := by decide +kernel
theorem dX4_betterPairs_4 : decode cX4_betterPairs 4 = .ok (.iadd, 1) := by decide +kernel
theorem dX4_betterPairs_5 : decode cX4_betterPairs 5 = .ok (.aload_n 0, 1) := by decide +kernel
theorem dX4_betterPairs_6 : decode cX4_betterPairs 6 = .ok (.getfield 15, 3) := by decide +kernel
theorem dX4_betterPairs_9 : decode cX4_betterPairs 9 = .ok (.if_icmp .ge 27, 3) := by decide +kernel
theorem dX4_betterPairs_12 : decode cX4_betterPairs 12 = .ok (.aload_n 1, 1) := by decide +kernel
theorem dX4_betterPairs_13 : decode cX4_betterPairs 13 = .ok (.aload_n 0, 1) := by decide +kernel
theorem dX4_betterPairs_14 : decode cX4_betterPairs 14 = .ok (.getfield 9, 3) := by decide +kernel
theorem dX4_betterPairs_17 : decode cX4_betterPairs 17 = .ok (.iload_n 2, 1) := by decide +kernel
theorem dX4_betterPairs_18 : decode cX4_betterPairs 18 = .ok (.iaload, 1) := by decide +kernel
theorem dX4_betterPairs_19 : decode cX4_betterPairs 19 = .ok (.aload_n 0, 1) := by decide +kernel
theorem dX4_betterPairs_20 : decode cX4_betterPairs 20 = .ok (.getfield 9, 3) := by decide +kernel
theorem dX4_betterPairs_23 : decode cX4_betterPairs 23 = .ok (.iload_n 2, 1) := by decide +kernel
theorem dX4_betterPairs_24 : decode cX4_betterPairs 24 = .ok (.iconst 1, 1) := by decide +kernel
theorem dX4_betterPairs_25 : decode cX4_betterPairs 25 = .ok (.iadd, 1) := by decide +kernel
theorem dX4_betterPairs_26 : decode cX4_betterPairs 26 = .ok (.iaload, 1) := by decide +kernel
theorem dX4_betterPairs_27 : decode cX4_betterPairs 27 = .ok (.invokevirtual 105, 3) := by decide +kernel
theorem dX4_betterPairs_30 : decode cX4_betterPairs 30 = .ok (.iinc 2 2, 3) := by decide +kernel
theorem dX4_betterPairs_33 : decode cX4_betterPairs 33 = .ok (.goto (-31), 3) := by decide +kernel
theorem dX4_betterPairs_36 : decode cX4_betterPairs 36 = .ok (.return_, 1) := by decide +kernel
theorem dX4_shrinkInto_0 : decode cX4_shrinkInto 0 = .ok (.iconst 0, 1) := by decide +kernel
theorem dX4_shrinkInto_1 : decode cX4_shrinkInto 1 = .ok (.istore_n 3, 1) := by decide +kernel
theorem dX4_shrinkInto_2 : decode cX4_shrinkInto 2 = .ok (.iconst 1, 1) := by decide +kernel
theorem dX4_shrinkInto_3 : decode cX4_shrinkInto 3 = .ok (.istore 4, 2) := by decide +kernel
theorem dX4_shrinkInto_5 : decode cX4_shrinkInto 5 = .ok (.iload 4, 2) := by decide +kernel
theorem dX4_shrinkInto_7 : decode cX4_shrinkInto 7 = .ok (.aload_n 0, 1) := by decide +kernel
theorem dX4_shrinkInto_8 : decode cX4_shrinkInto 8 = .ok (.getfield 15, 3) := by decide +kernel
theorem dX4_shrinkInto_11 : decode cX4_shrinkInto 11 = .ok (.if_icmp .ge 21, 3) := by decide +kernel
theorem dX4_shrinkInto_14 : decode cX4_shrinkInto 14 = .ok (.iload_n 3, 1) := by decide +kernel
theorem dX4_shrinkInto_15 : decode cX4_shrinkInto 15 = .ok (.iconst 1, 1) := by decide +kernel
theorem dX4_shrinkInto_16 : decode cX4_shrinkInto 16 = .ok (.aload_n 0, 1) := by decide +kernel
theorem dX4_shrinkInto_17 : decode cX4_shrinkInto 17 = .ok (.getfield 9, 3) := by decide +kernel
theorem dX4_shrinkInto_20 : decode cX4_shrinkInto 20 = .ok (.iload 4, 2) := by decide +kernel
theorem dX4_shrinkInto_22 : decode cX4_shrinkInto 22 = .ok (.iaload, 1) := by decide +kernel
theorem dX4_shrinkInto_23 : decode cX4_shrinkInto 23 = .ok (.ishl, 1) := by decide +kernel
theorem dX4_shrinkInto_24 : decode cX4_shrinkInto 24 = .ok (.ior, 1) := by decide +kernel
theorem dX4_shrinkInto_25 : decode cX4_shrinkInto 25 = .ok (.istore_n 3, 1) := by decide +kernel
theorem dX4_shrinkInto_26 : decode cX4_shrinkInto 26 = .ok (.iinc 4 1, 3) := by decide +kernel
theorem dX4_shrinkInto_29 : decode cX4_shrinkInto 29 = .ok (.goto (-24), 3) := by decide +kernel
theorem dX4_shrinkInto_32 : decode cX4_shrinkInto 32 = .ok (.aload_n 2, 1) := by decide +kernel
theorem dX4_shrinkInto_33 : decode cX4_shrinkInto 33 = .ok (.aload_n 1, 1) := by decide +kernel
theorem dX4_shrinkInto_34 : decode cX4_shrinkInto 34 = .ok (.getfield 63, 3) := by decide +kernel
theorem dX4_shrinkInto_37 : decode cX4_shrinkInto 37 = .ok (.aload_n 0, 1) := by decide +kernel
theorem dX4_shrinkInto_38 : decode cX4_shrinkInto 38 = .ok (.getfield 15, 3) := by decide +kernel
theorem dX4_shrinkInto_41 : decode cX4_shrinkInto 41 = .ok (.isub, 1) := by decide +kernel
theorem dX4_shrinkInto_42 : decode cX4_shrinkInto 42 = .ok (.iconst 1, 1) := by decide +kernel
theorem dX4_shrinkInto_43 : decode cX4_shrinkInto 43 = .ok (.iadd, 1) := by decide +kernel
theorem dX4_shrinkInto_44 : decode cX4_shrinkInto 44 = .ok (.invokevirtual 109, 3) := by decide +kernel
theorem dX4_shrinkInto_47 : decode cX4_shrinkInto 47 = .ok (.iconst 0, 1) := by decide +kernel
theorem dX4_shrinkInto_48 : decode cX4_shrinkInto 48 = .ok (.istore 4, 2) := by decide +kernel
theorem dX4_shrinkInto_50 : decode cX4_shrinkInto 50 = .ok (.iload 4, 2) := by decide +kernel
theorem dX4_shrinkInto_52 : decode cX4_shrinkInto 52 = .ok (.aload_n 1, 1) := by decide +kernel
theorem dX4_shrinkInto_53 : decode cX4_shrinkInto 53 = .ok (.getfield 63, 3) := by decide +kernel
theorem dX4_shrinkInto_56 : decode cX4_shrinkInto 56 = .ok (.if_icmp .ge 120, 3) := by decide +kernel
theorem dX4_shrinkInto_59 : decode cX4_shrinkInto 59 = .ok (.aload_n 0, 1) := by decide +kernel
theorem dX4_shrinkInto_60 : decode cX4_shrinkInto 60 = .ok (.iload 4, 2) := by decide +kernel
theorem dX4_shrinkInto_62 : decode cX4_shrinkInto 62 = .ok (.iload_n 3, 1) := by decide +kernel
theorem dX4_shrinkInto_63 : decode cX4_shrinkInto 63 = .ok (.invokevirtual 112, 3) := by decide +kernel
theorem dX4_shrinkInto_66 : decode cX4_shrinkInto 66 = .ok (.istore 5, 2) := by decide +kernel
theorem dX4_shrinkInto_68 : decode cX4_shrinkInto 68 = .ok (.iload 4, 2) := by decide +kernel
theorem dX4_shrinkInto_70 : decode cX4_shrinkInto 70 = .ok (.iconst 1, 1) := by decide +kernel
theorem dX4_shrinkInto_71 : decode cX4_shrinkInto 71 = .ok (.iadd, 1) := by decide +kernel
theorem dX4_shrinkInto_72 : decode cX4_shrinkInto 72 = .ok (.istore 6, 2) := by decide +kernel
theorem dX4_shrinkInto_74 : decode cX4_shrinkInto 74 = .ok (.iload 6, 2) := by decide +kernel
theorem dX4_shrinkInto_76 : decode cX4_shrinkInto 76 = .ok (.aload_n 1, 1) := by decide +kernel
theorem dX4_shrinkInto_77 : decode cX4_shrinkInto 77 = .ok (.getfield 63, 3) := by decide +kernel
theorem dX4_shrinkInto_80 : decode cX4_shrinkInto 80 = .ok (.if_icmp .ge 90, 3) := by decide +kernel
theorem dX4_shrinkInto_83 : decode cX4_shrinkInto 83 = .ok (.aload_n 0, 1) := by decide +kernel
theorem dX4_shrinkInto_84 : decode cX4_shrinkInto 84 = .ok (.iload 6, 2) := by decide +kernel
theorem dX4_shrinkInto_86 : decode cX4_shrinkInto 86 = .ok (.iload_n 3, 1) := by decide +kernel
theorem dX4_shrinkInto_87 : decode cX4_shrinkInto 87 = .ok (.invokevirtual 112, 3) := by decide +kernel
theorem dX4_shrinkInto_90 : decode cX4_shrinkInto 90 = .ok (.istore 7, 2) := by decide +kernel
theorem dX4_shrinkInto_92 : decode cX4_shrinkInto 92 = .ok (.iload 5, 2) := by decide +kernel
theorem dX4_shrinkInto_94 : decode cX4_shrinkInto 94 = .ok (.iload 7, 2) := by decide +kernel
theorem dX4_shrinkInto_96 : decode cX4_shrinkInto 96 = .ok (.if_icmp .eq 41, 3) := by decide +kernel
theorem dX4_shrinkInto_99 : decode cX4_shrinkInto 99 = .ok (.aload_n 1, 1) := by decide +kernel
theorem dX4_shrinkInto_100 : decode cX4_shrinkInto 100 = .ok (.iload 4, 2) := by decide +kernel
theorem dX4_shrinkInto_102 : decode cX4_shrinkInto 102 = .ok (.iload 6, 2) := by decide +kernel
theorem dX4_shrinkInto_104 : decode cX4_shrinkInto 104 = .ok (.invokevirtual 96, 3) := by decide +kernel
theorem dX4_shrinkInto_107 : decode cX4_shrinkInto 107 = .ok (.ifCond .eq 30, 3) := by decide +kernel
theorem dX4_shrinkInto_110 : decode cX4_shrinkInto 110 = .ok (.aload_n 2, 1) := by decide +kernel
theorem dX4_shrinkInto_111 : decode cX4_shrinkInto 111 = .ok (.iload 5, 2) := by decide +kernel
theorem dX4_shrinkInto_113 : decode cX4_shrinkInto 113 = .ok (.iload 7, 2) := by decide +kernel
theorem dX4_shrinkInto_115 : decode cX4_shrinkInto 115 = .ok (.aload_n 2, 1) := by decide +kernel
theorem dX4_shrinkInto_116 : decode cX4_shrinkInto 116 = .ok (.iload 5, 2) := by decide +kernel
theorem dX4_shrinkInto_118 : decode cX4_shrinkInto 118 = .ok (.iload 7, 2) := by decide +kernel
theorem dX4_shrinkInto_120 : decode cX4_shrinkInto 120 = .ok (.invokevirtual 116, 3) := by decide +kernel
theorem dX4_shrinkInto_123 : decode cX4_shrinkInto 123 = .ok (.aload_n 1, 1) := by decide +kernel
theorem dX4_shrinkInto_124 : decode cX4_shrinkInto 124 = .ok (.iload 4, 2) := by decide +kernel
theorem dX4_shrinkInto_126 : decode cX4_shrinkInto 126 = .ok (.iload 6, 2) := by decide +kernel
theorem dX4_shrinkInto_128 : decode cX4_shrinkInto 128 = .ok (.invokevirtual 116, 3) := by decide +kernel
theorem dX4_shrinkInto_131 : decode cX4_shrinkInto 131 = .ok (.invokestatic 119, 3) := by decide +kernel
theorem dX4_shrinkInto_134 : decode cX4_shrinkInto 134 = .ok (.invokevirtual 124, 3) := by decide +kernel
theorem dX4_shrinkInto_137 : decode cX4_shrinkInto 137 = .ok (.iload 5, 2) := by decide +kernel
theorem dX4_shrinkInto_139 : decode cX4_shrinkInto 139 = .ok (.iload 7, 2) := by decide +kernel
theorem dX4_shrinkInto_141 : decode cX4_shrinkInto 141 = .ok (.if_icmp .eq 23, 3) := by decide +kernel
theorem dX4_shrinkInto_144 : decode cX4_shrinkInto 144 = .ok (.aload_n 1, 1) := by decide +kernel
theorem dX4_shrinkInto_145 : decode cX4_shrinkInto 145 = .ok (.getfield 68, 3) := by decide +kernel
theorem dX4_shrinkInto_148 : decode cX4_shrinkInto 148 = .ok (.iload 4, 2) := by decide +kernel
theorem dX4_shrinkInto_150 : decode cX4_shrinkInto 150 = .ok (.iaload, 1) := by decide +kernel
theorem dX4_shrinkInto_151 : decode cX4_shrinkInto 151 = .ok (.iload 6, 2) := by decide +kernel
theorem dX4_shrinkInto_153 : decode cX4_shrinkInto 153 = .ok (.if_icmp .ne 11, 3) := by decide +kernel
theorem dX4_shrinkInto_156 : decode cX4_shrinkInto 156 = .ok (.aload_n 2, 1) := by decide +kernel
theorem dX4_shrinkInto_157 : decode cX4_shrinkInto 157 = .ok (.iload 5, 2) := by decide +kernel
theorem dX4_shrinkInto_159 : decode cX4_shrinkInto 159 = .ok (.iload 7, 2) := by decide +kernel
theorem dX4_shrinkInto_161 : decode cX4_shrinkInto 161 = .ok (.invokevirtual 105, 3) := by decide +kernel
theorem dX4_shrinkInto_164 : decode cX4_shrinkInto 164 = .ok (.iinc 6 1, 3) := by decide +kernel
theorem dX4_shrinkInto_167 : decode cX4_shrinkInto 167 = .ok (.goto (-93), 3) := by decide +kernel
theorem dX4_shrinkInto_170 : decode cX4_shrinkInto 170 = .ok (.iinc 4 1, 3) := by decide +kernel
theorem dX4_shrinkInto_173 : decode cX4_shrinkInto 173 = .ok (.goto (-123), 3) := by decide +kernel
theorem dX4_shrinkInto_176 : decode cX4_shrinkInto 176 = .ok (.return_, 1) := by decide +kernel
theorem dX4_numberAnew_0 : decode cX4_numberAnew 0 = .ok (.iload_n 2, 1) := by decide +kernel
theorem dX4_numberAnew_1 : decode cX4_numberAnew 1 = .ok (.iload_n 1, 1) := by decide +kernel
theorem dX4_numberAnew_2 : decode cX4_numberAnew 2 = .ok (.invokestatic 74, 3) := by decide +kernel
theorem dX4_numberAnew_5 : decode cX4_numberAnew 5 = .ok (.ifCond .eq 12, 3) := by decide +kernel
theorem dX4_numberAnew_8 : decode cX4_numberAnew 8 = .ok (.aload_n 0, 1) := by decide +kernel
theorem dX4_numberAnew_9 : decode cX4_numberAnew 9 = .ok (.getfield 9, 3) := by decide +kernel
theorem dX4_numberAnew_12 : decode cX4_numberAnew 12 = .ok (.iconst 0, 1) := by decide +kernel
theorem dX4_numberAnew_13 : decode cX4_numberAnew 13 = .ok (.iaload, 1) := by decide +kernel
theorem dX4_numberAnew_14 : decode cX4_numberAnew 14 = .ok (.goto 4, 3) := by decide +kernel
theorem dX4_numberAnew_17 : decode cX4_numberAnew 17 = .ok (.iload_n 1, 1) := by decide +kernel
theorem dX4_numberAnew_18 : decode cX4_numberAnew 18 = .ok (.istore_n 3, 1) := by decide +kernel
theorem dX4_numberAnew_19 : decode cX4_numberAnew 19 = .ok (.iload_n 3, 1) := by decide +kernel
theorem dX4_numberAnew_20 : decode cX4_numberAnew 20 = .ok (.iload_n 2, 1) := by decide +kernel
theorem dX4_numberAnew_21 : decode cX4_numberAnew 21 = .ok (.iconst 1, 1) := by decide +kernel
theorem dX4_numberAnew_22 : decode cX4_numberAnew 22 = .ok (.iload_n 3, 1) := by decide +kernel
theorem dX4_numberAnew_23 : decode cX4_numberAnew 23 = .ok (.ishl, 1) := by decide +kernel
theorem dX4_numberAnew_24 : decode cX4_numberAnew 24 = .ok (.iconst 1, 1) := by decide +kernel
theorem dX4_numberAnew_25 : decode cX4_numberAnew 25 = .ok (.isub, 1) := by decide +kernel
theorem dX4_numberAnew_26 : decode cX4_numberAnew 26 = .ok (.iand, 1) := by decide +kernel
theorem dX4_numberAnew_27 : decode cX4_numberAnew 27 = .ok (.invokestatic 99, 3) := by decide +kernel
theorem dX4_numberAnew_30 : decode cX4_numberAnew 30 = .ok (.isub, 1) := by decide +kernel
theorem dX4_numberAnew_31 : decode cX4_numberAnew 31 = .ok (.ireturn, 1) := by decide +kernel
theorem dX4_label_0 : decode cX4_label 0 = .ok (.aload_n 0, 1) := by decide +kernel
theorem dX4_label_1 : decode cX4_label 1 = .ok (.iconst 0, 1) := by decide +kernel
theorem dX4_label_2 : decode cX4_label 2 = .ok (.putfield 22, 3) := by decide +kernel
theorem dX4_label_5 : decode cX4_label 5 = .ok (.aload_n 0, 1) := by decide +kernel
theorem dX4_label_6 : decode cX4_label 6 = .ok (.iconst 0, 1) := by decide +kernel
theorem dX4_label_7 : decode cX4_label 7 = .ok (.putfield 25, 3) := by decide +kernel
theorem dX4_label_10 : decode cX4_label 10 = .ok (.iconst 0, 1) := by decide +kernel
theorem dX4_label_11 : decode cX4_label 11 = .ok (.istore_n 2, 1) := by decide +kernel
theorem dX4_label_12 : decode cX4_label 12 = .ok (.iload_n 2, 1) := by decide +kernel
theorem dX4_label_13 : decode cX4_label 13 = .ok (.aload_n 1, 1) := by decide +kernel
theorem dX4_label_14 : decode cX4_label 14 = .ok (.getfield 63, 3) := by decide +kernel
theorem dX4_label_17 : decode cX4_label 17 = .ok (.if_icmp .ge 28, 3) := by decide +kernel
theorem dX4_label_20 : decode cX4_label 20 = .ok (.aload_n 1, 1) := by decide +kernel
theorem dX4_label_21 : decode cX4_label 21 = .ok (.iload_n 2, 1) := by decide +kernel
theorem dX4_label_22 : decode cX4_label 22 = .ok (.invokevirtual 78, 3) := by decide +kernel
theorem dX4_label_25 : decode cX4_label 25 = .ok (.ifCond .eq 14, 3) := by decide +kernel
theorem dX4_label_28 : decode cX4_label 28 = .ok (.aload_n 0, 1) := by decide +kernel
theorem dX4_label_29 : decode cX4_label 29 = .ok (.aload_n 1, 1) := by decide +kernel
theorem dX4_label_30 : decode cX4_label 30 = .ok (.iload_n 2, 1) := by decide +kernel
theorem dX4_label_31 : decode cX4_label 31 = .ok (.invokevirtual 82, 3) := by decide +kernel
theorem dX4_label_34 : decode cX4_label 34 = .ok (.aload_n 0, 1) := by decide +kernel
theorem dX4_label_35 : decode cX4_label 35 = .ok (.aload_n 1, 1) := by decide +kernel
theorem dX4_label_36 : decode cX4_label 36 = .ok (.invokevirtual 128, 3) := by decide +kernel
theorem dX4_label_39 : decode cX4_label 39 = .ok (.iinc 2 1, 3) := by decide +kernel
theorem dX4_label_42 : decode cX4_label 42 = .ok (.goto (-30), 3) := by decide +kernel
theorem dX4_label_45 : decode cX4_label 45 = .ok (.return_, 1) := by decide +kernel
theorem dX4_markEnds_0 : decode cX4_markEnds 0 = .ok (.iconst 0, 1) := by decide +kernel
theorem dX4_markEnds_1 : decode cX4_markEnds 1 = .ok (.istore_n 2, 1) := by decide +kernel
theorem dX4_markEnds_2 : decode cX4_markEnds 2 = .ok (.iload_n 2, 1) := by decide +kernel
theorem dX4_markEnds_3 : decode cX4_markEnds 3 = .ok (.aload_n 0, 1) := by decide +kernel
theorem dX4_markEnds_4 : decode cX4_markEnds 4 = .ok (.getfield 19, 3) := by decide +kernel
theorem dX4_markEnds_7 : decode cX4_markEnds 7 = .ok (.if_icmp .ge 55, 3) := by decide +kernel
theorem dX4_markEnds_10 : decode cX4_markEnds 10 = .ok (.aload_n 0, 1) := by decide +kernel
theorem dX4_markEnds_11 : decode cX4_markEnds 11 = .ok (.dup, 1) := by decide +kernel
theorem dX4_markEnds_12 : decode cX4_markEnds 12 = .ok (.getfield 22, 3) := by decide +kernel
theorem dX4_markEnds_15 : decode cX4_markEnds 15 = .ok (.iconst 1, 1) := by decide +kernel
theorem dX4_markEnds_16 : decode cX4_markEnds 16 = .ok (.aload_n 0, 1) := by decide +kernel
theorem dX4_markEnds_17 : decode cX4_markEnds 17 = .ok (.getfield 31, 3) := by decide +kernel
theorem dX4_markEnds_20 : decode cX4_markEnds 20 = .ok (.iload_n 2, 1) := by decide +kernel
theorem dX4_markEnds_21 : decode cX4_markEnds 21 = .ok (.iaload, 1) := by decide +kernel
theorem dX4_markEnds_22 : decode cX4_markEnds 22 = .ok (.ishl, 1) := by decide +kernel
theorem dX4_markEnds_23 : decode cX4_markEnds 23 = .ok (.ior, 1) := by decide +kernel
theorem dX4_markEnds_24 : decode cX4_markEnds 24 = .ok (.putfield 22, 3) := by decide +kernel
theorem dX4_markEnds_27 : decode cX4_markEnds 27 = .ok (.aload_n 0, 1) := by decide +kernel
theorem dX4_markEnds_28 : decode cX4_markEnds 28 = .ok (.dup, 1) := by decide +kernel
theorem dX4_markEnds_29 : decode cX4_markEnds 29 = .ok (.getfield 25, 3) := by decide +kernel
theorem dX4_markEnds_32 : decode cX4_markEnds 32 = .ok (.aload_n 1, 1) := by decide +kernel
theorem dX4_markEnds_33 : decode cX4_markEnds 33 = .ok (.getfield 71, 3) := by decide +kernel
theorem dX4_markEnds_36 : decode cX4_markEnds 36 = .ok (.aload_n 0, 1) := by decide +kernel
theorem dX4_markEnds_37 : decode cX4_markEnds 37 = .ok (.getfield 31, 3) := by decide +kernel
theorem dX4_markEnds_40 : decode cX4_markEnds 40 = .ok (.iload_n 2, 1) := by decide +kernel
theorem dX4_markEnds_41 : decode cX4_markEnds 41 = .ok (.iaload, 1) := by decide +kernel
theorem dX4_markEnds_42 : decode cX4_markEnds 42 = .ok (.iaload, 1) := by decide +kernel
theorem dX4_markEnds_43 : decode cX4_markEnds 43 = .ok (.aload_n 0, 1) := by decide +kernel
theorem dX4_markEnds_44 : decode cX4_markEnds 44 = .ok (.getfield 28, 3) := by decide +kernel
theorem dX4_markEnds_47 : decode cX4_markEnds 47 = .ok (.iload_n 2, 1) := by decide +kernel
theorem dX4_markEnds_48 : decode cX4_markEnds 48 = .ok (.iaload, 1) := by decide +kernel
theorem dX4_markEnds_49 : decode cX4_markEnds 49 = .ok (.iconst (-1), 1) := by decide +kernel
theorem dX4_markEnds_50 : decode cX4_markEnds 50 = .ok (.ixor, 1) := by decide +kernel
theorem dX4_markEnds_51 : decode cX4_markEnds 51 = .ok (.iand, 1) := by decide +kernel
theorem dX4_markEnds_52 : decode cX4_markEnds 52 = .ok (.ior, 1) := by decide +kernel
theorem dX4_markEnds_53 : decode cX4_markEnds 53 = .ok (.putfield 25, 3) := by decide +kernel
theorem dX4_markEnds_56 : decode cX4_markEnds 56 = .ok (.iinc 2 1, 3) := by decide +kernel
theorem dX4_markEnds_59 : decode cX4_markEnds 59 = .ok (.goto (-57), 3) := by decide +kernel
theorem dX4_markEnds_62 : decode cX4_markEnds 62 = .ok (.return_, 1) := by decide +kernel
theorem dX4_bitsOfLabel_0 : decode cX4_bitsOfLabel 0 = .ok (.iload_n 2, 1) := by decide +kernel
theorem dX4_bitsOfLabel_1 : decode cX4_bitsOfLabel 1 = .ok (.ifCond .ne 8, 3) := by decide +kernel
theorem dX4_bitsOfLabel_4 : decode cX4_bitsOfLabel 4 = .ok (.aload_n 0, 1) := by decide +kernel
theorem dX4_bitsOfLabel_5 : decode cX4_bitsOfLabel 5 = .ok (.getfield 22, 3) := by decide +kernel
theorem dX4_bitsOfLabel_8 : decode cX4_bitsOfLabel 8 = .ok (.ireturn, 1) := by decide +kernel
theorem dX4_bitsOfLabel_9 : decode cX4_bitsOfLabel 9 = .ok (.iload_n 2, 1) := by decide +kernel
theorem dX4_bitsOfLabel_10 : decode cX4_bitsOfLabel 10 = .ok (.iconst 1, 1) := by decide +kernel
theorem dX4_bitsOfLabel_11 : decode cX4_bitsOfLabel 11 = .ok (.if_icmp .ne 17, 3) := by decide +kernel
theorem dX4_bitsOfLabel_14 : decode cX4_bitsOfLabel 14 = .ok (.aload_n 0, 1) := by decide +kernel
theorem dX4_bitsOfLabel_15 : decode cX4_bitsOfLabel 15 = .ok (.getfield 25, 3) := by decide +kernel
theorem dX4_bitsOfLabel_18 : decode cX4_bitsOfLabel 18 = .ok (.aload_n 0, 1) := by decide +kernel
theorem dX4_bitsOfLabel_19 : decode cX4_bitsOfLabel 19 = .ok (.getfield 22, 3) := by decide +kernel
theorem dX4_bitsOfLabel_22 : decode cX4_bitsOfLabel 22 = .ok (.iconst (-1), 1) := by decide +kernel
theorem dX4_bitsOfLabel_23 : decode cX4_bitsOfLabel 23 = .ok (.ixor, 1) := by decide +kernel
theorem dX4_bitsOfLabel_24 : decode cX4_bitsOfLabel 24 = .ok (.iand, 1) := by decide +kernel
theorem dX4_bitsOfLabel_25 : decode cX4_bitsOfLabel 25 = .ok (.goto 21, 3) := by decide +kernel
theorem dX4_bitsOfLabel_28 : decode cX4_bitsOfLabel 28 = .ok (.aload_n 1, 1) := by decide +kernel
theorem dX4_bitsOfLabel_29 : decode cX4_bitsOfLabel 29 = .ok (.invokevirtual 132, 3) := by decide +kernel
theorem dX4_bitsOfLabel_32 : decode cX4_bitsOfLabel 32 = .ok (.aload_n 0, 1) := by decide +kernel
theorem dX4_bitsOfLabel_33 : decode cX4_bitsOfLabel 33 = .ok (.getfield 25, 3) := by decide +kernel
theorem dX4_bitsOfLabel_36 : decode cX4_bitsOfLabel 36 = .ok (.iconst (-1), 1) := by decide +kernel
theorem dX4_bitsOfLabel_37 : decode cX4_bitsOfLabel 37 = .ok (.ixor, 1) := by decide +kernel
theorem dX4_bitsOfLabel_38 : decode cX4_bitsOfLabel 38 = .ok (.iand, 1) := by decide +kernel
theorem dX4_bitsOfLabel_39 : decode cX4_bitsOfLabel 39 = .ok (.aload_n 0, 1) := by decide +kernel
theorem dX4_bitsOfLabel_40 : decode cX4_bitsOfLabel 40 = .ok (.getfield 22, 3) := by decide +kernel
theorem dX4_bitsOfLabel_43 : decode cX4_bitsOfLabel 43 = .ok (.iconst (-1), 1) := by decide +kernel
theorem dX4_bitsOfLabel_44 : decode cX4_bitsOfLabel 44 = .ok (.ixor, 1) := by decide +kernel
theorem dX4_bitsOfLabel_45 : decode cX4_bitsOfLabel 45 = .ok (.iand, 1) := by decide +kernel
theorem dX4_bitsOfLabel_46 : decode cX4_bitsOfLabel 46 = .ok (.ireturn, 1) := by decide +kernel
