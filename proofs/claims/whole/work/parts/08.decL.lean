theorem dL_text_0 : decode cL_text 0 = .ok (.aload_n 2, 1) := by decide +kernel
theorem dL_text_1 : decode cL_text 1 = .ok (.iconst 0, 1) := by decide +kernel
theorem dL_text_2 : decode cL_text 2 = .ok (.aload_n 0, 1) := by decide +kernel
theorem dL_text_3 : decode cL_text 3 = .ok (.iload_n 1, 1) := by decide +kernel
theorem dL_text_4 : decode cL_text 4 = .ok (.invokevirtual 7, 3) := by decide +kernel
theorem dL_text_7 : decode cL_text 7 = .ok (.i2l, 1) := by decide +kernel
theorem dL_text_8 : decode cL_text 8 = .ok (.lastore, 1) := by decide +kernel
theorem dL_text_9 : decode cL_text 9 = .ok (.goto 6, 3) := by decide +kernel
theorem dL_text_12 : decode cL_text 12 = .ok (.astore_n 3, 1) := by decide +kernel
theorem dL_text_13 : decode cL_text 13 = .ok (.iconst 1, 1) := by decide +kernel
theorem dL_text_14 : decode cL_text 14 = .ok (.ireturn, 1) := by decide +kernel
theorem dL_text_15 : decode cL_text 15 = .ok (.iconst 0, 1) := by decide +kernel
theorem dL_text_16 : decode cL_text 16 = .ok (.ireturn, 1) := by decide +kernel
theorem dL_join_0 : decode cL_join 0 = .ok (.aload 4, 2) := by decide +kernel
theorem dL_join_2 : decode cL_join 2 = .ok (.iconst 0, 1) := by decide +kernel
theorem dL_join_3 : decode cL_join 3 = .ok (.aload_n 0, 1) := by decide +kernel
theorem dL_join_4 : decode cL_join 4 = .ok (.iload_n 1, 1) := by decide +kernel
theorem dL_join_5 : decode cL_join 5 = .ok (.iload_n 2, 1) := by decide +kernel
theorem dL_join_6 : decode cL_join 6 = .ok (.iload_n 3, 1) := by decide +kernel
theorem dL_join_7 : decode cL_join 7 = .ok (.invokevirtual 15, 3) := by decide +kernel
theorem dL_join_10 : decode cL_join 10 = .ok (.i2l, 1) := by decide +kernel
theorem dL_join_11 : decode cL_join 11 = .ok (.lastore, 1) := by decide +kernel
theorem dL_join_12 : decode cL_join 12 = .ok (.goto 11, 3) := by decide +kernel
theorem dL_join_15 : decode cL_join 15 = .ok (.astore 5, 2) := by decide +kernel
theorem dL_join_17 : decode cL_join 17 = .ok (.iconst 1, 1) := by decide +kernel
theorem dL_join_18 : decode cL_join 18 = .ok (.ireturn, 1) := by decide +kernel
theorem dL_join_19 : decode cL_join 19 = .ok (.astore 5, 2) := by decide +kernel
theorem dL_join_21 : decode cL_join 21 = .ok (.iconst 2, 1) := by decide +kernel
theorem dL_join_22 : decode cL_join 22 = .ok (.ireturn, 1) := by decide +kernel
theorem dL_join_23 : decode cL_join 23 = .ok (.iconst 0, 1) := by decide +kernel
theorem dL_join_24 : decode cL_join 24 = .ok (.ireturn, 1) := by decide +kernel
theorem dL_cut_0 : decode cL_cut 0 = .ok (.aload_n 3, 1) := by decide +kernel
theorem dL_cut_1 : decode cL_cut 1 = .ok (.iconst 0, 1) := by decide +kernel
theorem dL_cut_2 : decode cL_cut 2 = .ok (.aload_n 0, 1) := by decide +kernel
theorem dL_cut_3 : decode cL_cut 3 = .ok (.iload_n 1, 1) := by decide +kernel
theorem dL_cut_4 : decode cL_cut 4 = .ok (.iload_n 2, 1) := by decide +kernel
theorem dL_cut_5 : decode cL_cut 5 = .ok (.invokevirtual 21, 3) := by decide +kernel
theorem dL_cut_8 : decode cL_cut 8 = .ok (.i2l, 1) := by decide +kernel
theorem dL_cut_9 : decode cL_cut 9 = .ok (.lastore, 1) := by decide +kernel
theorem dL_cut_10 : decode cL_cut 10 = .ok (.goto 15, 3) := by decide +kernel
theorem dL_cut_13 : decode cL_cut 13 = .ok (.astore 4, 2) := by decide +kernel
theorem dL_cut_15 : decode cL_cut 15 = .ok (.iconst 1, 1) := by decide +kernel
theorem dL_cut_16 : decode cL_cut 16 = .ok (.ireturn, 1) := by decide +kernel
theorem dL_cut_17 : decode cL_cut 17 = .ok (.astore 4, 2) := by decide +kernel
theorem dL_cut_19 : decode cL_cut 19 = .ok (.iconst 2, 1) := by decide +kernel
theorem dL_cut_20 : decode cL_cut 20 = .ok (.ireturn, 1) := by decide +kernel
theorem dL_cut_21 : decode cL_cut 21 = .ok (.astore 4, 2) := by decide +kernel
theorem dL_cut_23 : decode cL_cut 23 = .ok (.iconst 3, 1) := by decide +kernel
theorem dL_cut_24 : decode cL_cut 24 = .ok (.ireturn, 1) := by decide +kernel
theorem dL_cut_25 : decode cL_cut 25 = .ok (.iconst 0, 1) := by decide +kernel
theorem dL_cut_26 : decode cL_cut 26 = .ok (.ireturn, 1) := by decide +kernel
theorem dL_pair_0 : decode cL_pair 0 = .ok (.aload_n 3, 1) := by decide +kernel
theorem dL_pair_1 : decode cL_pair 1 = .ok (.iconst 0, 1) := by decide +kernel
theorem dL_pair_2 : decode cL_pair 2 = .ok (.aload_n 0, 1) := by decide +kernel
theorem dL_pair_3 : decode cL_pair 3 = .ok (.iload_n 1, 1) := by decide +kernel
theorem dL_pair_4 : decode cL_pair 4 = .ok (.iload_n 2, 1) := by decide +kernel
theorem dL_pair_5 : decode cL_pair 5 = .ok (.invokevirtual 27, 3) := by decide +kernel
theorem dL_pair_8 : decode cL_pair 8 = .ok (.i2l, 1) := by decide +kernel
theorem dL_pair_9 : decode cL_pair 9 = .ok (.lastore, 1) := by decide +kernel
theorem dL_pair_10 : decode cL_pair 10 = .ok (.goto 15, 3) := by decide +kernel
theorem dL_pair_13 : decode cL_pair 13 = .ok (.astore 4, 2) := by decide +kernel
theorem dL_pair_15 : decode cL_pair 15 = .ok (.iconst 1, 1) := by decide +kernel
theorem dL_pair_16 : decode cL_pair 16 = .ok (.ireturn, 1) := by decide +kernel
theorem dL_pair_17 : decode cL_pair 17 = .ok (.astore 4, 2) := by decide +kernel
theorem dL_pair_19 : decode cL_pair 19 = .ok (.iconst 2, 1) := by decide +kernel
theorem dL_pair_20 : decode cL_pair 20 = .ok (.ireturn, 1) := by decide +kernel
theorem dL_pair_21 : decode cL_pair 21 = .ok (.astore 4, 2) := by decide +kernel
theorem dL_pair_23 : decode cL_pair 23 = .ok (.iconst 3, 1) := by decide +kernel
theorem dL_pair_24 : decode cL_pair 24 = .ok (.ireturn, 1) := by decide +kernel
theorem dL_pair_25 : decode cL_pair 25 = .ok (.iconst 0, 1) := by decide +kernel
theorem dL_pair_26 : decode cL_pair 26 = .ok (.ireturn, 1) := by decide +kernel
theorem dL_part_0 : decode cL_part 0 = .ok (.aload_n 2, 1) := by decide +kernel
theorem dL_part_1 : decode cL_part 1 = .ok (.iconst 0, 1) := by decide +kernel
theorem dL_part_2 : decode cL_part 2 = .ok (.aload_n 0, 1) := by decide +kernel
theorem dL_part_3 : decode cL_part 3 = .ok (.iload_n 1, 1) := by decide +kernel
theorem dL_part_4 : decode cL_part 4 = .ok (.invokevirtual 30, 3) := by decide +kernel
theorem dL_part_7 : decode cL_part 7 = .ok (.i2l, 1) := by decide +kernel
theorem dL_part_8 : decode cL_part 8 = .ok (.lastore, 1) := by decide +kernel
theorem dL_part_9 : decode cL_part 9 = .ok (.goto 9, 3) := by decide +kernel
theorem dL_part_12 : decode cL_part 12 = .ok (.astore_n 3, 1) := by decide +kernel
theorem dL_part_13 : decode cL_part 13 = .ok (.iconst 1, 1) := by decide +kernel
theorem dL_part_14 : decode cL_part 14 = .ok (.ireturn, 1) := by decide +kernel
theorem dL_part_15 : decode cL_part 15 = .ok (.astore_n 3, 1) := by decide +kernel
theorem dL_part_16 : decode cL_part 16 = .ok (.iconst 2, 1) := by decide +kernel
theorem dL_part_17 : decode cL_part 17 = .ok (.ireturn, 1) := by decide +kernel
theorem dL_part_18 : decode cL_part 18 = .ok (.iconst 0, 1) := by decide +kernel
theorem dL_part_19 : decode cL_part 19 = .ok (.ireturn, 1) := by decide +kernel
theorem dL_better_0 : decode cL_better 0 = .ok (.aload_n 2, 1) := by decide +kernel
theorem dL_better_1 : decode cL_better 1 = .ok (.iconst 0, 1) := by decide +kernel
theorem dL_better_2 : decode cL_better 2 = .ok (.aload_n 0, 1) := by decide +kernel
theorem dL_better_3 : decode cL_better 3 = .ok (.iload_n 1, 1) := by decide +kernel
theorem dL_better_4 : decode cL_better 4 = .ok (.invokevirtual 33, 3) := by decide +kernel
theorem dL_better_7 : decode cL_better 7 = .ok (.i2l, 1) := by decide +kernel
theorem dL_better_8 : decode cL_better 8 = .ok (.lastore, 1) := by decide +kernel
theorem dL_better_9 : decode cL_better 9 = .ok (.goto 9, 3) := by decide +kernel
theorem dL_better_12 : decode cL_better 12 = .ok (.astore_n 3, 1) := by decide +kernel
theorem dL_better_13 : decode cL_better 13 = .ok (.iconst 1, 1) := by decide +kernel
theorem dL_better_14 : decode cL_better 14 = .ok (.ireturn, 1) := by decide +kernel
theorem dL_better_15 : decode cL_better 15 = .ok (.astore_n 3, 1) := by decide +kernel
theorem dL_better_16 : decode cL_better 16 = .ok (.iconst 2, 1) := by decide +kernel
theorem dL_better_17 : decode cL_better 17 = .ok (.ireturn, 1) := by decide +kernel
theorem dL_better_18 : decode cL_better 18 = .ok (.iconst 0, 1) := by decide +kernel
theorem dL_better_19 : decode cL_better 19 = .ok (.ireturn, 1) := by decide +kernel
theorem dL_shrink_0 : decode cL_shrink 0 = .ok (.aload_n 2, 1) := by decide +kernel
theorem dL_shrink_1 : decode cL_shrink 1 = .ok (.iconst 0, 1) := by decide +kernel
theorem dL_shrink_2 : decode cL_shrink 2 = .ok (.aload_n 0, 1) := by decide +kernel
theorem dL_shrink_3 : decode cL_shrink 3 = .ok (.iload_n 1, 1) := by decide +kernel
theorem dL_shrink_4 : decode cL_shrink 4 = .ok (.invokevirtual 36, 3) := by decide +kernel
theorem dL_shrink_7 : decode cL_shrink 7 = .ok (.i2l, 1) := by decide +kernel
theorem dL_shrink_8 : decode cL_shrink 8 = .ok (.lastore, 1) := by decide +kernel
theorem dL_shrink_9 : decode cL_shrink 9 = .ok (.goto 9, 3) := by decide +kernel
theorem dL_shrink_12 : decode cL_shrink 12 = .ok (.astore_n 3, 1) := by decide +kernel
theorem dL_shrink_13 : decode cL_shrink 13 = .ok (.iconst 1, 1) := by decide +kernel
theorem dL_shrink_14 : decode cL_shrink 14 = .ok (.ireturn, 1) := by decide +kernel
theorem dL_shrink_15 : decode cL_shrink 15 = .ok (.astore_n 3, 1) := by decide +kernel
theorem dL_shrink_16 : decode cL_shrink 16 = .ok (.iconst 2, 1) := by decide +kernel
theorem dL_shrink_17 : decode cL_shrink 17 = .ok (.ireturn, 1) := by decide +kernel
theorem dL_shrink_18 : decode cL_shrink 18 = .ok (.iconst 0, 1) := by decide +kernel
theorem dL_shrink_19 : decode cL_shrink 19 = .ok (.ireturn, 1) := by decide +kernel
theorem dL_told_0 : decode cL_told 0 = .ok (.aload_n 2, 1) := by decide +kernel
theorem dL_told_1 : decode cL_told 1 = .ok (.iconst 0, 1) := by decide +kernel
theorem dL_told_2 : decode cL_told 2 = .ok (.aload_n 0, 1) := by decide +kernel
theorem dL_told_3 : decode cL_told 3 = .ok (.iload_n 1, 1) := by decide +kernel
theorem dL_told_4 : decode cL_told 4 = .ok (.invokevirtual 39, 3) := by decide +kernel
theorem dL_told_7 : decode cL_told 7 = .ok (.i2l, 1) := by decide +kernel
theorem dL_told_8 : decode cL_told 8 = .ok (.lastore, 1) := by decide +kernel
theorem dL_told_9 : decode cL_told 9 = .ok (.goto 6, 3) := by decide +kernel
theorem dL_told_12 : decode cL_told 12 = .ok (.astore_n 3, 1) := by decide +kernel
theorem dL_told_13 : decode cL_told 13 = .ok (.iconst 1, 1) := by decide +kernel
theorem dL_told_14 : decode cL_told 14 = .ok (.ireturn, 1) := by decide +kernel
theorem dL_told_15 : decode cL_told 15 = .ok (.iconst 0, 1) := by decide +kernel
theorem dL_told_16 : decode cL_told 16 = .ok (.ireturn, 1) := by decide +kernel
theorem dL_line_0 : decode cL_line 0 = .ok (.aload 4, 2) := by decide +kernel
theorem dL_line_2 : decode cL_line 2 = .ok (.iconst 0, 1) := by decide +kernel
theorem dL_line_3 : decode cL_line 3 = .ok (.aload_n 0, 1) := by decide +kernel
theorem dL_line_4 : decode cL_line 4 = .ok (.iload_n 1, 1) := by decide +kernel
theorem dL_line_5 : decode cL_line 5 = .ok (.iload_n 2, 1) := by decide +kernel
theorem dL_line_6 : decode cL_line 6 = .ok (.iload_n 3, 1) := by decide +kernel
theorem dL_line_7 : decode cL_line 7 = .ok (.invokevirtual 42, 3) := by decide +kernel
theorem dL_line_10 : decode cL_line 10 = .ok (.i2l, 1) := by decide +kernel
theorem dL_line_11 : decode cL_line 11 = .ok (.lastore, 1) := by decide +kernel
theorem dL_line_12 : decode cL_line 12 = .ok (.goto 11, 3) := by decide +kernel
theorem dL_line_15 : decode cL_line 15 = .ok (.astore 5, 2) := by decide +kernel
theorem dL_line_17 : decode cL_line 17 = .ok (.iconst 1, 1) := by decide +kernel
theorem dL_line_18 : decode cL_line 18 = .ok (.ireturn, 1) := by decide +kernel
theorem dL_line_19 : decode cL_line 19 = .ok (.astore 5, 2) := by decide +kernel
theorem dL_line_21 : decode cL_line 21 = .ok (.iconst 2, 1) := by decide +kernel
theorem dL_line_22 : decode cL_line 22 = .ok (.ireturn, 1) := by decide +kernel
theorem dL_line_23 : decode cL_line 23 = .ok (.iconst 0, 1) := by decide +kernel
theorem dL_line_24 : decode cL_line 24 = .ok (.ireturn, 1) := by decide +kernel
theorem dL_node_0 : decode cL_node 0 = .ok (.aload_n 3, 1) := by decide +kernel
theorem dL_node_1 : decode cL_node 1 = .ok (.iconst 0, 1) := by decide +kernel
theorem dL_node_2 : decode cL_node 2 = .ok (.aload_n 0, 1) := by decide +kernel
theorem dL_node_3 : decode cL_node 3 = .ok (.iload_n 1, 1) := by decide +kernel
theorem dL_node_4 : decode cL_node 4 = .ok (.iload_n 2, 1) := by decide +kernel
theorem dL_node_5 : decode cL_node 5 = .ok (.invokevirtual 45, 3) := by decide +kernel
theorem dL_node_8 : decode cL_node 8 = .ok (.i2l, 1) := by decide +kernel
theorem dL_node_9 : decode cL_node 9 = .ok (.lastore, 1) := by decide +kernel
theorem dL_node_10 : decode cL_node 10 = .ok (.goto 11, 3) := by decide +kernel
theorem dL_node_13 : decode cL_node 13 = .ok (.astore 4, 2) := by decide +kernel
theorem dL_node_15 : decode cL_node 15 = .ok (.iconst 1, 1) := by decide +kernel
theorem dL_node_16 : decode cL_node 16 = .ok (.ireturn, 1) := by decide +kernel
theorem dL_node_17 : decode cL_node 17 = .ok (.astore 4, 2) := by decide +kernel
theorem dL_node_19 : decode cL_node 19 = .ok (.iconst 2, 1) := by decide +kernel
theorem dL_node_20 : decode cL_node 20 = .ok (.ireturn, 1) := by decide +kernel
theorem dL_node_21 : decode cL_node 21 = .ok (.iconst 0, 1) := by decide +kernel
theorem dL_node_22 : decode cL_node 22 = .ok (.ireturn, 1) := by decide +kernel
theorem dL_sets_0 : decode cL_sets 0 = .ok (.aload_n 2, 1) := by decide +kernel
theorem dL_sets_1 : decode cL_sets 1 = .ok (.iconst 0, 1) := by decide +kernel
theorem dL_sets_2 : decode cL_sets 2 = .ok (.aload_n 0, 1) := by decide +kernel
theorem dL_sets_3 : decode cL_sets 3 = .ok (.iload_n 1, 1) := by decide +kernel
theorem dL_sets_4 : decode cL_sets 4 = .ok (.invokevirtual 48, 3) := by decide +kernel
theorem dL_sets_7 : decode cL_sets 7 = .ok (.i2l, 1) := by decide +kernel
theorem dL_sets_8 : decode cL_sets 8 = .ok (.lastore, 1) := by decide +kernel
theorem dL_sets_9 : decode cL_sets 9 = .ok (.goto 6, 3) := by decide +kernel
theorem dL_sets_12 : decode cL_sets 12 = .ok (.astore_n 3, 1) := by decide +kernel
theorem dL_sets_13 : decode cL_sets 13 = .ok (.iconst 1, 1) := by decide +kernel
theorem dL_sets_14 : decode cL_sets 14 = .ok (.ireturn, 1) := by decide +kernel
theorem dL_sets_15 : decode cL_sets 15 = .ok (.iconst 0, 1) := by decide +kernel
theorem dL_sets_16 : decode cL_sets 16 = .ok (.ireturn, 1) := by decide +kernel
theorem dL_odd_0 : decode cL_odd 0 = .ok (.aload_n 2, 1) := by decide +kernel
theorem dL_odd_1 : decode cL_odd 1 = .ok (.iconst 0, 1) := by decide +kernel
theorem dL_odd_2 : decode cL_odd 2 = .ok (.aload_n 0, 1) := by decide +kernel
theorem dL_odd_3 : decode cL_odd 3 = .ok (.iload_n 1, 1) := by decide +kernel
theorem dL_odd_4 : decode cL_odd 4 = .ok (.invokevirtual 51, 3) := by decide +kernel
theorem dL_odd_7 : decode cL_odd 7 = .ok (.i2l, 1) := by decide +kernel
theorem dL_odd_8 : decode cL_odd 8 = .ok (.lastore, 1) := by decide +kernel
theorem dL_odd_9 : decode cL_odd 9 = .ok (.goto 6, 3) := by decide +kernel
theorem dL_odd_12 : decode cL_odd 12 = .ok (.astore_n 3, 1) := by decide +kernel
theorem dL_odd_13 : decode cL_odd 13 = .ok (.iconst 1, 1) := by decide +kernel
theorem dL_odd_14 : decode cL_odd 14 = .ok (.ireturn, 1) := by decide +kernel
theorem dL_odd_15 : decode cL_odd 15 = .ok (.iconst 0, 1) := by decide +kernel
theorem dL_odd_16 : decode cL_odd 16 = .ok (.ireturn, 1) := by decide +kernel
theorem dL_barrier_0 : decode cL_barrier 0 = .ok (.aload_n 2, 1) := by decide +kernel
theorem dL_barrier_1 : decode cL_barrier 1 = .ok (.iconst 0, 1) := by decide +kernel
theorem dL_barrier_2 : decode cL_barrier 2 = .ok (.aload_n 0, 1) := by decide +kernel
theorem dL_barrier_3 : decode cL_barrier 3 = .ok (.iload_n 1, 1) := by decide +kernel
theorem dL_barrier_4 : decode cL_barrier 4 = .ok (.invokevirtual 54, 3) := by decide +kernel
theorem dL_barrier_7 : decode cL_barrier 7 = .ok (.i2l, 1) := by decide +kernel
theorem dL_barrier_8 : decode cL_barrier 8 = .ok (.lastore, 1) := by decide +kernel
theorem dL_barrier_9 : decode cL_barrier 9 = .ok (.goto 6, 3) := by decide +kernel
theorem dL_barrier_12 : decode cL_barrier 12 = .ok (.astore_n 3, 1) := by decide +kernel
theorem dL_barrier_13 : decode cL_barrier 13 = .ok (.iconst 1, 1) := by decide +kernel
theorem dL_barrier_14 : decode cL_barrier 14 = .ok (.ireturn, 1) := by decide +kernel
theorem dL_barrier_15 : decode cL_barrier 15 = .ok (.iconst 0, 1) := by decide +kernel
theorem dL_barrier_16 : decode cL_barrier 16 = .ok (.ireturn, 1) := by decide +kernel
theorem dL_heavy_0 : decode cL_heavy 0 = .ok (.aload_n 2, 1) := by decide +kernel
theorem dL_heavy_1 : decode cL_heavy 1 = .ok (.iconst 0, 1) := by decide +kernel
theorem dL_heavy_2 : decode cL_heavy 2 = .ok (.aload_n 0, 1) := by decide +kernel
theorem dL_heavy_3 : decode cL_heavy 3 = .ok (.iload_n 1, 1) := by decide +kernel
theorem dL_heavy_4 : decode cL_heavy 4 = .ok (.invokevirtual 57, 3) := by decide +kernel
theorem dL_heavy_7 : decode cL_heavy 7 = .ok (.i2l, 1) := by decide +kernel
theorem dL_heavy_8 : decode cL_heavy 8 = .ok (.lastore, 1) := by decide +kernel
theorem dL_heavy_9 : decode cL_heavy 9 = .ok (.goto 6, 3) := by decide +kernel
theorem dL_heavy_12 : decode cL_heavy 12 = .ok (.astore_n 3, 1) := by decide +kernel
theorem dL_heavy_13 : decode cL_heavy 13 = .ok (.iconst 1, 1) := by decide +kernel
theorem dL_heavy_14 : decode cL_heavy 14 = .ok (.ireturn, 1) := by decide +kernel
theorem dL_heavy_15 : decode cL_heavy 15 = .ok (.iconst 0, 1) := by decide +kernel
theorem dL_heavy_16 : decode cL_heavy 16 = .ok (.ireturn, 1) := by decide +kernel
theorem dL_path_0 : decode cL_path 0 = .ok (.aload_n 3, 1) := by decide +kernel
theorem dL_path_1 : decode cL_path 1 = .ok (.iconst 0, 1) := by decide +kernel
theorem dL_path_2 : decode cL_path 2 = .ok (.aload_n 0, 1) := by decide +kernel
theorem dL_path_3 : decode cL_path 3 = .ok (.iload_n 1, 1) := by decide +kernel
theorem dL_path_4 : decode cL_path 4 = .ok (.iload_n 2, 1) := by decide +kernel
theorem dL_path_5 : decode cL_path 5 = .ok (.invokevirtual 60, 3) := by decide +kernel
theorem dL_path_8 : decode cL_path 8 = .ok (.i2l, 1) := by decide +kernel
theorem dL_path_9 : decode cL_path 9 = .ok (.lastore, 1) := by decide +kernel
theorem dL_path_10 : decode cL_path 10 = .ok (.goto 7, 3) := by decide +kernel
theorem dL_path_13 : decode cL_path 13 = .ok (.astore 4, 2) := by decide +kernel
theorem dL_path_15 : decode cL_path 15 = .ok (.iconst 1, 1) := by decide +kernel
theorem dL_path_16 : decode cL_path 16 = .ok (.ireturn, 1) := by decide +kernel
theorem dL_path_17 : decode cL_path 17 = .ok (.iconst 0, 1) := by decide +kernel
theorem dL_path_18 : decode cL_path 18 = .ok (.ireturn, 1) := by decide +kernel
theorem dL_flower_0 : decode cL_flower 0 = .ok (.aload_n 3, 1) := by decide +kernel
theorem dL_flower_1 : decode cL_flower 1 = .ok (.iconst 0, 1) := by decide +kernel
theorem dL_flower_2 : decode cL_flower 2 = .ok (.aload_n 0, 1) := by decide +kernel
theorem dL_flower_3 : decode cL_flower 3 = .ok (.iload_n 1, 1) := by decide +kernel
theorem dL_flower_4 : decode cL_flower 4 = .ok (.iload_n 2, 1) := by decide +kernel
theorem dL_flower_5 : decode cL_flower 5 = .ok (.invokevirtual 63, 3) := by decide +kernel
theorem dL_flower_8 : decode cL_flower 8 = .ok (.i2l, 1) := by decide +kernel
theorem dL_flower_9 : decode cL_flower 9 = .ok (.lastore, 1) := by decide +kernel
theorem dL_flower_10 : decode cL_flower 10 = .ok (.goto 7, 3) := by decide +kernel
theorem dL_flower_13 : decode cL_flower 13 = .ok (.astore 4, 2) := by decide +kernel
theorem dL_flower_15 : decode cL_flower 15 = .ok (.iconst 1, 1) := by decide +kernel
theorem dL_flower_16 : decode cL_flower 16 = .ok (.ireturn, 1) := by decide +kernel
theorem dL_flower_17 : decode cL_flower 17 = .ok (.iconst 0, 1) := by decide +kernel
theorem dL_flower_18 : decode cL_flower 18 = .ok (.ireturn, 1) := by decide +kernel
theorem dL_law_0 : decode cL_law 0 = .ok (.new 8, 3) := by decide +kernel
theorem dL_law_3 : decode cL_law 3 = .ok (.dup, 1) := by decide +kernel
theorem dL_law_4 : decode cL_law 4 = .ok (.invokespecial 66, 3) := by decide +kernel
theorem dL_law_7 : decode cL_law 7 = .ok (.astore_n 1, 1) := by decide +kernel
theorem dL_law_8 : decode cL_law 8 = .ok (.new 67, 3) := by decide +kernel
theorem dL_law_11 : decode cL_law 11 = .ok (.dup, 1) := by decide +kernel
theorem dL_law_12 : decode cL_law 12 = .ok (.invokespecial 69, 3) := by decide +kernel
theorem dL_law_15 : decode cL_law 15 = .ok (.astore_n 2, 1) := by decide +kernel
theorem dL_law_16 : decode cL_law 16 = .ok (.iconst 1, 1) := by decide +kernel
theorem dL_law_17 : decode cL_law 17 = .ok (.newarray .long, 2) := by decide +kernel
theorem dL_law_19 : decode cL_law 19 = .ok (.astore_n 3, 1) := by decide +kernel
theorem dL_law_20 : decode cL_law 20 = .ok (.iconst 0, 1) := by decide +kernel
theorem dL_law_21 : decode cL_law 21 = .ok (.istore 4, 2) := by decide +kernel
theorem dL_law_23 : decode cL_law 23 = .ok (.iload 4, 2) := by decide +kernel
theorem dL_law_25 : decode cL_law 25 = .ok (.aload_n 0, 1) := by decide +kernel
theorem dL_law_26 : decode cL_law 26 = .ok (.arraylength, 1) := by decide +kernel
theorem dL_law_27 : decode cL_law 27 = .ok (.bipush 6, 2) := by decide +kernel
theorem dL_law_29 : decode cL_law 29 = .ok (.isub, 1) := by decide +kernel
theorem dL_law_30 : decode cL_law 30 = .ok (.if_icmp .gt 1292, 3) := by decide +kernel
theorem dL_law_33 : decode cL_law 33 = .ok (.aload_n 0, 1) := by decide +kernel
theorem dL_law_34 : decode cL_law 34 = .ok (.iload 4, 2) := by decide +kernel
theorem dL_law_36 : decode cL_law 36 = .ok (.iaload, 1) := by decide +kernel
theorem dL_law_37 : decode cL_law 37 = .ok (.bipush 31, 2) := by decide +kernel
theorem dL_law_39 : decode cL_law 39 = .ok (.iand, 1) := by decide +kernel
theorem dL_law_40 : decode cL_law 40 = .ok (.tableswitch 1276 0 22 #[108, 181, 237, 250, 330, 398, 466, 522, 578, 591, 647, 660, 716, 796, 864, 920, 976, 1032, 1045, 1101, 1169, 1237, 1251], 108) := by decide +kernel
theorem dL_law_148 : decode cL_law 148 = .ok (.aload_n 1, 1) := by decide +kernel
theorem dL_law_149 : decode cL_law 149 = .ok (.aload_n 0, 1) := by decide +kernel
theorem dL_law_150 : decode cL_law 150 = .ok (.iload 4, 2) := by decide +kernel
theorem dL_law_152 : decode cL_law 152 = .ok (.iconst 1, 1) := by decide +kernel
theorem dL_law_153 : decode cL_law 153 = .ok (.iadd, 1) := by decide +kernel
theorem dL_law_154 : decode cL_law 154 = .ok (.iaload, 1) := by decide +kernel
theorem dL_law_155 : decode cL_law 155 = .ok (.aload_n 0, 1) := by decide +kernel
theorem dL_law_156 : decode cL_law 156 = .ok (.iload 4, 2) := by decide +kernel
theorem dL_law_158 : decode cL_law 158 = .ok (.iconst 2, 1) := by decide +kernel
theorem dL_law_159 : decode cL_law 159 = .ok (.iadd, 1) := by decide +kernel
theorem dL_law_160 : decode cL_law 160 = .ok (.iaload, 1) := by decide +kernel
theorem dL_law_161 : decode cL_law 161 = .ok (.aload_n 0, 1) := by decide +kernel
theorem dL_law_162 : decode cL_law 162 = .ok (.iload 4, 2) := by decide +kernel
theorem dL_law_164 : decode cL_law 164 = .ok (.iconst 3, 1) := by decide +kernel
theorem dL_law_165 : decode cL_law 165 = .ok (.iadd, 1) := by decide +kernel
theorem dL_law_166 : decode cL_law 166 = .ok (.iaload, 1) := by decide +kernel
theorem dL_law_167 : decode cL_law 167 = .ok (.aload_n 0, 1) := by decide +kernel
theorem dL_law_168 : decode cL_law 168 = .ok (.iload 4, 2) := by decide +kernel
theorem dL_law_170 : decode cL_law 170 = .ok (.iconst 4, 1) := by decide +kernel
theorem dL_law_171 : decode cL_law 171 = .ok (.iadd, 1) := by decide +kernel
theorem dL_law_172 : decode cL_law 172 = .ok (.iaload, 1) := by decide +kernel
theorem dL_law_173 : decode cL_law 173 = .ok (.aload_n 0, 1) := by decide +kernel
theorem dL_law_174 : decode cL_law 174 = .ok (.iload 4, 2) := by decide +kernel
theorem dL_law_176 : decode cL_law 176 = .ok (.iconst 5, 1) := by decide +kernel
theorem dL_law_177 : decode cL_law 177 = .ok (.iadd, 1) := by decide +kernel
theorem dL_law_178 : decode cL_law 178 = .ok (.iaload, 1) := by decide +kernel
theorem dL_law_179 : decode cL_law 179 = .ok (.invokevirtual 70, 3) := by decide +kernel
theorem dL_law_182 : decode cL_law 182 = .ok (.aload_n 2, 1) := by decide +kernel
theorem dL_law_183 : decode cL_law 183 = .ok (.aload_n 0, 1) := by decide +kernel
theorem dL_law_184 : decode cL_law 184 = .ok (.iload 4, 2) := by decide +kernel
theorem dL_law_186 : decode cL_law 186 = .ok (.iconst 1, 1) := by decide +kernel
theorem dL_law_187 : decode cL_law 187 = .ok (.iadd, 1) := by decide +kernel
theorem dL_law_188 : decode cL_law 188 = .ok (.iaload, 1) := by decide +kernel
theorem dL_law_189 : decode cL_law 189 = .ok (.aload_n 0, 1) := by decide +kernel
theorem dL_law_190 : decode cL_law 190 = .ok (.iload 4, 2) := by decide +kernel
theorem dL_law_192 : decode cL_law 192 = .ok (.iconst 2, 1) := by decide +kernel
theorem dL_law_193 : decode cL_law 193 = .ok (.iadd, 1) := by decide +kernel
theorem dL_law_194 : decode cL_law 194 = .ok (.iaload, 1) := by decide +kernel
theorem dL_law_195 : decode cL_law 195 = .ok (.aload_n 0, 1) := by decide +kernel
theorem dL_law_196 : decode cL_law 196 = .ok (.iload 4, 2) := by decide +kernel
theorem dL_law_198 : decode cL_law 198 = .ok (.iconst 3, 1) := by decide +kernel
theorem dL_law_199 : decode cL_law 199 = .ok (.iadd, 1) := by decide +kernel
theorem dL_law_200 : decode cL_law 200 = .ok (.iaload, 1) := by decide +kernel
theorem dL_law_201 : decode cL_law 201 = .ok (.aload_n 0, 1) := by decide +kernel
theorem dL_law_202 : decode cL_law 202 = .ok (.iload 4, 2) := by decide +kernel
theorem dL_law_204 : decode cL_law 204 = .ok (.iconst 4, 1) := by decide +kernel
theorem dL_law_205 : decode cL_law 205 = .ok (.iadd, 1) := by decide +kernel
theorem dL_law_206 : decode cL_law 206 = .ok (.iaload, 1) := by decide +kernel
theorem dL_law_207 : decode cL_law 207 = .ok (.aload_n 0, 1) := by decide +kernel
theorem dL_law_208 : decode cL_law 208 = .ok (.iload 4, 2) := by decide +kernel
theorem dL_law_210 : decode cL_law 210 = .ok (.iconst 5, 1) := by decide +kernel
theorem dL_law_211 : decode cL_law 211 = .ok (.iadd, 1) := by decide +kernel
theorem dL_law_212 : decode cL_law 212 = .ok (.iaload, 1) := by decide +kernel
theorem dL_law_213 : decode cL_law 213 = .ok (.invokevirtual 74, 3) := by decide +kernel
theorem dL_law_216 : decode cL_law 216 = .ok (.if_icmp .eq 1100, 3) := by decide +kernel
theorem dL_law_219 : decode cL_law 219 = .ok (.iconst 0, 1) := by decide +kernel
theorem dL_law_220 : decode cL_law 220 = .ok (.ireturn, 1) := by decide +kernel
theorem dL_law_221 : decode cL_law 221 = .ok (.aload_n 1, 1) := by decide +kernel
theorem dL_law_222 : decode cL_law 222 = .ok (.aload_n 0, 1) := by decide +kernel
theorem dL_law_223 : decode cL_law 223 = .ok (.iload 4, 2) := by decide +kernel
theorem dL_law_225 : decode cL_law 225 = .ok (.iconst 1, 1) := by decide +kernel
theorem dL_law_226 : decode cL_law 226 = .ok (.iadd, 1) := by decide +kernel
theorem dL_law_227 : decode cL_law 227 = .ok (.iaload, 1) := by decide +kernel
theorem dL_law_228 : decode cL_law 228 = .ok (.aload_n 3, 1) := by decide +kernel
theorem dL_law_229 : decode cL_law 229 = .ok (.invokestatic 75, 3) := by decide +kernel
theorem dL_law_232 : decode cL_law 232 = .ok (.istore 5, 2) := by decide +kernel
theorem dL_law_234 : decode cL_law 234 = .ok (.aload_n 2, 1) := by decide +kernel
theorem dL_law_235 : decode cL_law 235 = .ok (.aload_n 0, 1) := by decide +kernel
theorem dL_law_236 : decode cL_law 236 = .ok (.iload 4, 2) := by decide +kernel
theorem dL_law_238 : decode cL_law 238 = .ok (.iconst 1, 1) := by decide +kernel
theorem dL_law_239 : decode cL_law 239 = .ok (.iadd, 1) := by decide +kernel
theorem dL_law_240 : decode cL_law 240 = .ok (.iaload, 1) := by decide +kernel
theorem dL_law_241 : decode cL_law 241 = .ok (.invokevirtual 80, 3) := by decide +kernel
theorem dL_law_244 : decode cL_law 244 = .ok (.istore 6, 2) := by decide +kernel
theorem dL_law_246 : decode cL_law 246 = .ok (.aload_n 2, 1) := by decide +kernel
theorem dL_law_247 : decode cL_law 247 = .ok (.invokevirtual 81, 3) := by decide +kernel
theorem dL_law_250 : decode cL_law 250 = .ok (.iload 5, 2) := by decide +kernel
theorem dL_law_252 : decode cL_law 252 = .ok (.if_icmp .eq 5, 3) := by decide +kernel
theorem dL_law_255 : decode cL_law 255 = .ok (.iconst 0, 1) := by decide +kernel
theorem dL_law_256 : decode cL_law 256 = .ok (.ireturn, 1) := by decide +kernel
theorem dL_law_257 : decode cL_law 257 = .ok (.iload 5, 2) := by decide +kernel
theorem dL_law_259 : decode cL_law 259 = .ok (.ifCond .ne 15, 3) := by decide +kernel
theorem dL_law_262 : decode cL_law 262 = .ok (.aload_n 3, 1) := by decide +kernel
theorem dL_law_263 : decode cL_law 263 = .ok (.iconst 0, 1) := by decide +kernel
theorem dL_law_264 : decode cL_law 264 = .ok (.laload, 1) := by decide +kernel
theorem dL_law_265 : decode cL_law 265 = .ok (.iload 6, 2) := by decide +kernel
theorem dL_law_267 : decode cL_law 267 = .ok (.i2l, 1) := by decide +kernel
theorem dL_law_268 : decode cL_law 268 = .ok (.lcmp, 1) := by decide +kernel
theorem dL_law_269 : decode cL_law 269 = .ok (.ifCond .eq 5, 3) := by decide +kernel
theorem dL_law_272 : decode cL_law 272 = .ok (.iconst 0, 1) := by decide +kernel
theorem dL_law_273 : decode cL_law 273 = .ok (.ireturn, 1) := by decide +kernel
theorem dL_law_274 : decode cL_law 274 = .ok (.goto 1042, 3) := by decide +kernel
theorem dL_law_277 : decode cL_law 277 = .ok (.aload_n 1, 1) := by decide +kernel
theorem dL_law_278 : decode cL_law 278 = .ok (.invokevirtual 85, 3) := by decide +kernel
theorem dL_law_281 : decode cL_law 281 = .ok (.aload_n 2, 1) := by decide +kernel
theorem dL_law_282 : decode cL_law 282 = .ok (.invokevirtual 88, 3) := by decide +kernel
theorem dL_law_285 : decode cL_law 285 = .ok (.if_icmp .eq 1031, 3) := by decide +kernel
theorem dL_law_288 : decode cL_law 288 = .ok (.iconst 0, 1) := by decide +kernel
theorem dL_law_289 : decode cL_law 289 = .ok (.ireturn, 1) := by decide +kernel
theorem dL_law_290 : decode cL_law 290 = .ok (.aload_n 1, 1) := by decide +kernel
theorem dL_law_291 : decode cL_law 291 = .ok (.aload_n 0, 1) := by decide +kernel
theorem dL_law_292 : decode cL_law 292 = .ok (.iload 4, 2) := by decide +kernel
theorem dL_law_294 : decode cL_law 294 = .ok (.iconst 1, 1) := by decide +kernel
theorem dL_law_295 : decode cL_law 295 = .ok (.iadd, 1) := by decide +kernel
theorem dL_law_296 : decode cL_law 296 = .ok (.iaload, 1) := by decide +kernel
theorem dL_law_297 : decode cL_law 297 = .ok (.aload_n 0, 1) := by decide +kernel
theorem dL_law_298 : decode cL_law 298 = .ok (.iload 4, 2) := by decide +kernel
theorem dL_law_300 : decode cL_law 300 = .ok (.iconst 2, 1) := by decide +kernel
theorem dL_law_301 : decode cL_law 301 = .ok (.iadd, 1) := by decide +kernel
theorem dL_law_302 : decode cL_law 302 = .ok (.iaload, 1) := by decide +kernel
theorem dL_law_303 : decode cL_law 303 = .ok (.aload_n 0, 1) := by decide +kernel
theorem dL_law_304 : decode cL_law 304 = .ok (.iload 4, 2) := by decide +kernel
theorem dL_law_306 : decode cL_law 306 = .ok (.iconst 3, 1) := by decide +kernel
theorem dL_law_307 : decode cL_law 307 = .ok (.iadd, 1) := by decide +kernel
theorem dL_law_308 : decode cL_law 308 = .ok (.iaload, 1) := by decide +kernel
theorem dL_law_309 : decode cL_law 309 = .ok (.aload_n 3, 1) := by decide +kernel
theorem dL_law_310 : decode cL_law 310 = .ok (.invokestatic 89, 3) := by decide +kernel
theorem dL_law_313 : decode cL_law 313 = .ok (.istore 5, 2) := by decide +kernel
theorem dL_law_315 : decode cL_law 315 = .ok (.aload_n 2, 1) := by decide +kernel
theorem dL_law_316 : decode cL_law 316 = .ok (.aload_n 0, 1) := by decide +kernel
theorem dL_law_317 : decode cL_law 317 = .ok (.iload 4, 2) := by decide +kernel
theorem dL_law_319 : decode cL_law 319 = .ok (.iconst 1, 1) := by decide +kernel
theorem dL_law_320 : decode cL_law 320 = .ok (.iadd, 1) := by decide +kernel
theorem dL_law_321 : decode cL_law 321 = .ok (.iaload, 1) := by decide +kernel
theorem dL_law_322 : decode cL_law 322 = .ok (.aload_n 0, 1) := by decide +kernel
theorem dL_law_323 : decode cL_law 323 = .ok (.iload 4, 2) := by decide +kernel
theorem dL_law_325 : decode cL_law 325 = .ok (.iconst 2, 1) := by decide +kernel
theorem dL_law_326 : decode cL_law 326 = .ok (.iadd, 1) := by decide +kernel
theorem dL_law_327 : decode cL_law 327 = .ok (.iaload, 1) := by decide +kernel
theorem dL_law_328 : decode cL_law 328 = .ok (.aload_n 0, 1) := by decide +kernel
theorem dL_law_329 : decode cL_law 329 = .ok (.iload 4, 2) := by decide +kernel
theorem dL_law_331 : decode cL_law 331 = .ok (.iconst 3, 1) := by decide +kernel
theorem dL_law_332 : decode cL_law 332 = .ok (.iadd, 1) := by decide +kernel
theorem dL_law_333 : decode cL_law 333 = .ok (.iaload, 1) := by decide +kernel
theorem dL_law_334 : decode cL_law 334 = .ok (.invokevirtual 92, 3) := by decide +kernel
theorem dL_law_337 : decode cL_law 337 = .ok (.istore 6, 2) := by decide +kernel
theorem dL_law_339 : decode cL_law 339 = .ok (.aload_n 2, 1) := by decide +kernel
theorem dL_law_340 : decode cL_law 340 = .ok (.invokevirtual 81, 3) := by decide +kernel
theorem dL_law_343 : decode cL_law 343 = .ok (.iload 5, 2) := by decide +kernel
theorem dL_law_345 : decode cL_law 345 = .ok (.if_icmp .eq 5, 3) := by decide +kernel
theorem dL_law_348 : decode cL_law 348 = .ok (.iconst 0, 1) := by decide +kernel
theorem dL_law_349 : decode cL_law 349 = .ok (.ireturn, 1) := by decide +kernel
theorem dL_law_350 : decode cL_law 350 = .ok (.iload 5, 2) := by decide +kernel
theorem dL_law_352 : decode cL_law 352 = .ok (.ifCond .ne 15, 3) := by decide +kernel
theorem dL_law_355 : decode cL_law 355 = .ok (.aload_n 3, 1) := by decide +kernel
theorem dL_law_356 : decode cL_law 356 = .ok (.iconst 0, 1) := by decide +kernel
theorem dL_law_357 : decode cL_law 357 = .ok (.laload, 1) := by decide +kernel
theorem dL_law_358 : decode cL_law 358 = .ok (.iload 6, 2) := by decide +kernel
theorem dL_law_360 : decode cL_law 360 = .ok (.i2l, 1) := by decide +kernel
theorem dL_law_361 : decode cL_law 361 = .ok (.lcmp, 1) := by decide +kernel
theorem dL_law_362 : decode cL_law 362 = .ok (.ifCond .eq 5, 3) := by decide +kernel
theorem dL_law_365 : decode cL_law 365 = .ok (.iconst 0, 1) := by decide +kernel
theorem dL_law_366 : decode cL_law 366 = .ok (.ireturn, 1) := by decide +kernel
theorem dL_law_367 : decode cL_law 367 = .ok (.goto 949, 3) := by decide +kernel
theorem dL_law_370 : decode cL_law 370 = .ok (.aload_n 1, 1) := by decide +kernel
theorem dL_law_371 : decode cL_law 371 = .ok (.aload_n 0, 1) := by decide +kernel
theorem dL_law_372 : decode cL_law 372 = .ok (.iload 4, 2) := by decide +kernel
theorem dL_law_374 : decode cL_law 374 = .ok (.iconst 1, 1) := by decide +kernel
theorem dL_law_375 : decode cL_law 375 = .ok (.iadd, 1) := by decide +kernel
theorem dL_law_376 : decode cL_law 376 = .ok (.iaload, 1) := by decide +kernel
theorem dL_law_377 : decode cL_law 377 = .ok (.aload_n 0, 1) := by decide +kernel
theorem dL_law_378 : decode cL_law 378 = .ok (.iload 4, 2) := by decide +kernel
theorem dL_law_380 : decode cL_law 380 = .ok (.iconst 2, 1) := by decide +kernel
theorem dL_law_381 : decode cL_law 381 = .ok (.iadd, 1) := by decide +kernel
theorem dL_law_382 : decode cL_law 382 = .ok (.iaload, 1) := by decide +kernel
theorem dL_law_383 : decode cL_law 383 = .ok (.aload_n 3, 1) := by decide +kernel
theorem dL_law_384 : decode cL_law 384 = .ok (.invokestatic 93, 3) := by decide +kernel
theorem dL_law_387 : decode cL_law 387 = .ok (.istore 5, 2) := by decide +kernel
theorem dL_law_389 : decode cL_law 389 = .ok (.aload_n 2, 1) := by decide +kernel
theorem dL_law_390 : decode cL_law 390 = .ok (.aload_n 0, 1) := by decide +kernel
theorem dL_law_391 : decode cL_law 391 = .ok (.iload 4, 2) := by decide +kernel
theorem dL_law_393 : decode cL_law 393 = .ok (.iconst 1, 1) := by decide +kernel
theorem dL_law_394 : decode cL_law 394 = .ok (.iadd, 1) := by decide +kernel
theorem dL_law_395 : decode cL_law 395 = .ok (.iaload, 1) := by decide +kernel
theorem dL_law_396 : decode cL_law 396 = .ok (.aload_n 0, 1) := by decide +kernel
theorem dL_law_397 : decode cL_law 397 = .ok (.iload 4, 2) := by decide +kernel
theorem dL_law_399 : decode cL_law 399 = .ok (.iconst 2, 1) := by decide +kernel
theorem dL_law_400 : decode cL_law 400 = .ok (.iadd, 1) := by decide +kernel
theorem dL_law_401 : decode cL_law 401 = .ok (.iaload, 1) := by decide +kernel
theorem dL_law_402 : decode cL_law 402 = .ok (.invokevirtual 96, 3) := by decide +kernel
theorem dL_law_405 : decode cL_law 405 = .ok (.istore 6, 2) := by decide +kernel
theorem dL_law_407 : decode cL_law 407 = .ok (.aload_n 2, 1) := by decide +kernel
theorem dL_law_408 : decode cL_law 408 = .ok (.invokevirtual 81, 3) := by decide +kernel
theorem dL_law_411 : decode cL_law 411 = .ok (.iload 5, 2) := by decide +kernel
theorem dL_law_413 : decode cL_law 413 = .ok (.if_icmp .eq 5, 3) := by decide +kernel
theorem dL_law_416 : decode cL_law 416 = .ok (.iconst 0, 1) := by decide +kernel
theorem dL_law_417 : decode cL_law 417 = .ok (.ireturn, 1) := by decide +kernel
theorem dL_law_418 : decode cL_law 418 = .ok (.iload 5, 2) := by decide +kernel
theorem dL_law_420 : decode cL_law 420 = .ok (.ifCond .ne 15, 3) := by decide +kernel
theorem dL_law_423 : decode cL_law 423 = .ok (.aload_n 3, 1) := by decide +kernel
theorem dL_law_424 : decode cL_law 424 = .ok (.iconst 0, 1) := by decide +kernel
theorem dL_law_425 : decode cL_law 425 = .ok (.laload, 1) := by decide +kernel
theorem dL_law_426 : decode cL_law 426 = .ok (.iload 6, 2) := by decide +kernel
theorem dL_law_428 : decode cL_law 428 = .ok (.i2l, 1) := by decide +kernel
theorem dL_law_429 : decode cL_law 429 = .ok (.lcmp, 1) := by decide +kernel
theorem dL_law_430 : decode cL_law 430 = .ok (.ifCond .eq 5, 3) := by decide +kernel
theorem dL_law_433 : decode cL_law 433 = .ok (.iconst 0, 1) := by decide +kernel
theorem dL_law_434 : decode cL_law 434 = .ok (.ireturn, 1) := by decide +kernel
theorem dL_law_435 : decode cL_law 435 = .ok (.goto 881, 3) := by decide +kernel
theorem dL_law_438 : decode cL_law 438 = .ok (.aload_n 1, 1) := by decide +kernel
theorem dL_law_439 : decode cL_law 439 = .ok (.aload_n 0, 1) := by decide +kernel
theorem dL_law_440 : decode cL_law 440 = .ok (.iload 4, 2) := by decide +kernel
theorem dL_law_442 : decode cL_law 442 = .ok (.iconst 1, 1) := by decide +kernel
theorem dL_law_443 : decode cL_law 443 = .ok (.iadd, 1) := by decide +kernel
theorem dL_law_444 : decode cL_law 444 = .ok (.iaload, 1) := by decide +kernel
theorem dL_law_445 : decode cL_law 445 = .ok (.aload_n 0, 1) := by decide +kernel
theorem dL_law_446 : decode cL_law 446 = .ok (.iload 4, 2) := by decide +kernel
theorem dL_law_448 : decode cL_law 448 = .ok (.iconst 2, 1) := by decide +kernel
theorem dL_law_449 : decode cL_law 449 = .ok (.iadd, 1) := by decide +kernel
theorem dL_law_450 : decode cL_law 450 = .ok (.iaload, 1) := by decide +kernel
theorem dL_law_451 : decode cL_law 451 = .ok (.aload_n 3, 1) := by decide +kernel
theorem dL_law_452 : decode cL_law 452 = .ok (.invokestatic 97, 3) := by decide +kernel
theorem dL_law_455 : decode cL_law 455 = .ok (.istore 5, 2) := by decide +kernel
theorem dL_law_457 : decode cL_law 457 = .ok (.aload_n 2, 1) := by decide +kernel
theorem dL_law_458 : decode cL_law 458 = .ok (.aload_n 0, 1) := by decide +kernel
theorem dL_law_459 : decode cL_law 459 = .ok (.iload 4, 2) := by decide +kernel
theorem dL_law_461 : decode cL_law 461 = .ok (.iconst 1, 1) := by decide +kernel
theorem dL_law_462 : decode cL_law 462 = .ok (.iadd, 1) := by decide +kernel
theorem dL_law_463 : decode cL_law 463 = .ok (.iaload, 1) := by decide +kernel
theorem dL_law_464 : decode cL_law 464 = .ok (.aload_n 0, 1) := by decide +kernel
theorem dL_law_465 : decode cL_law 465 = .ok (.iload 4, 2) := by decide +kernel
theorem dL_law_467 : decode cL_law 467 = .ok (.iconst 2, 1) := by decide +kernel
theorem dL_law_468 : decode cL_law 468 = .ok (.iadd, 1) := by decide +kernel
theorem dL_law_469 : decode cL_law 469 = .ok (.iaload, 1) := by decide +kernel
theorem dL_law_470 : decode cL_law 470 = .ok (.invokevirtual 99, 3) := by decide +kernel
theorem dL_law_473 : decode cL_law 473 = .ok (.istore 6, 2) := by decide +kernel
theorem dL_law_475 : decode cL_law 475 = .ok (.aload_n 2, 1) := by decide +kernel
theorem dL_law_476 : decode cL_law 476 = .ok (.invokevirtual 81, 3) := by decide +kernel
theorem dL_law_479 : decode cL_law 479 = .ok (.iload 5, 2) := by decide +kernel
theorem dL_law_481 : decode cL_law 481 = .ok (.if_icmp .eq 5, 3) := by decide +kernel
theorem dL_law_484 : decode cL_law 484 = .ok (.iconst 0, 1) := by decide +kernel
theorem dL_law_485 : decode cL_law 485 = .ok (.ireturn, 1) := by decide +kernel
theorem dL_law_486 : decode cL_law 486 = .ok (.iload 5, 2) := by decide +kernel
theorem dL_law_488 : decode cL_law 488 = .ok (.ifCond .ne 15, 3) := by decide +kernel
theorem dL_law_491 : decode cL_law 491 = .ok (.aload_n 3, 1) := by decide +kernel
theorem dL_law_492 : decode cL_law 492 = .ok (.iconst 0, 1) := by decide +kernel
theorem dL_law_493 : decode cL_law 493 = .ok (.laload, 1) := by decide +kernel
theorem dL_law_494 : decode cL_law 494 = .ok (.iload 6, 2) := by decide +kernel
theorem dL_law_496 : decode cL_law 496 = .ok (.i2l, 1) := by decide +kernel
theorem dL_law_497 : decode cL_law 497 = .ok (.lcmp, 1) := by decide +kernel
theorem dL_law_498 : decode cL_law 498 = .ok (.ifCond .eq 5, 3) := by decide +kernel
theorem dL_law_501 : decode cL_law 501 = .ok (.iconst 0, 1) := by decide +kernel
theorem dL_law_502 : decode cL_law 502 = .ok (.ireturn, 1) := by decide +kernel
theorem dL_law_503 : decode cL_law 503 = .ok (.goto 813, 3) := by decide +kernel
theorem dL_law_506 : decode cL_law 506 = .ok (.aload_n 1, 1) := by decide +kernel
theorem dL_law_507 : decode cL_law 507 = .ok (.aload_n 0, 1) := by decide +kernel
theorem dL_law_508 : decode cL_law 508 = .ok (.iload 4, 2) := by decide +kernel
theorem dL_law_510 : decode cL_law 510 = .ok (.iconst 1, 1) := by decide +kernel
theorem dL_law_511 : decode cL_law 511 = .ok (.iadd, 1) := by decide +kernel
theorem dL_law_512 : decode cL_law 512 = .ok (.iaload, 1) := by decide +kernel
theorem dL_law_513 : decode cL_law 513 = .ok (.aload_n 3, 1) := by decide +kernel
theorem dL_law_514 : decode cL_law 514 = .ok (.invokestatic 100, 3) := by decide +kernel
theorem dL_law_517 : decode cL_law 517 = .ok (.istore 5, 2) := by decide +kernel
theorem dL_law_519 : decode cL_law 519 = .ok (.aload_n 2, 1) := by decide +kernel
theorem dL_law_520 : decode cL_law 520 = .ok (.aload_n 0, 1) := by decide +kernel
theorem dL_law_521 : decode cL_law 521 = .ok (.iload 4, 2) := by decide +kernel
theorem dL_law_523 : decode cL_law 523 = .ok (.iconst 1, 1) := by decide +kernel
theorem dL_law_524 : decode cL_law 524 = .ok (.iadd, 1) := by decide +kernel
theorem dL_law_525 : decode cL_law 525 = .ok (.iaload, 1) := by decide +kernel
theorem dL_law_526 : decode cL_law 526 = .ok (.invokevirtual 102, 3) := by decide +kernel
theorem dL_law_529 : decode cL_law 529 = .ok (.istore 6, 2) := by decide +kernel
theorem dL_law_531 : decode cL_law 531 = .ok (.aload_n 2, 1) := by decide +kernel
theorem dL_law_532 : decode cL_law 532 = .ok (.invokevirtual 81, 3) := by decide +kernel
theorem dL_law_535 : decode cL_law 535 = .ok (.iload 5, 2) := by decide +kernel
theorem dL_law_537 : decode cL_law 537 = .ok (.if_icmp .eq 5, 3) := by decide +kernel
theorem dL_law_540 : decode cL_law 540 = .ok (.iconst 0, 1) := by decide +kernel
theorem dL_law_541 : decode cL_law 541 = .ok (.ireturn, 1) := by decide +kernel
theorem dL_law_542 : decode cL_law 542 = .ok (.iload 5, 2) := by decide +kernel
theorem dL_law_544 : decode cL_law 544 = .ok (.ifCond .ne 15, 3) := by decide +kernel
theorem dL_law_547 : decode cL_law 547 = .ok (.aload_n 3, 1) := by decide +kernel
theorem dL_law_548 : decode cL_law 548 = .ok (.iconst 0, 1) := by decide +kernel
theorem dL_law_549 : decode cL_law 549 = .ok (.laload, 1) := by decide +kernel
theorem dL_law_550 : decode cL_law 550 = .ok (.iload 6, 2) := by decide +kernel
theorem dL_law_552 : decode cL_law 552 = .ok (.i2l, 1) := by decide +kernel
theorem dL_law_553 : decode cL_law 553 = .ok (.lcmp, 1) := by decide +kernel
theorem dL_law_554 : decode cL_law 554 = .ok (.ifCond .eq 5, 3) := by decide +kernel
theorem dL_law_557 : decode cL_law 557 = .ok (.iconst 0, 1) := by decide +kernel
theorem dL_law_558 : decode cL_law 558 = .ok (.ireturn, 1) := by decide +kernel
theorem dL_law_559 : decode cL_law 559 = .ok (.goto 757, 3) := by decide +kernel
theorem dL_law_562 : decode cL_law 562 = .ok (.aload_n 1, 1) := by decide +kernel
theorem dL_law_563 : decode cL_law 563 = .ok (.aload_n 0, 1) := by decide +kernel
theorem dL_law_564 : decode cL_law 564 = .ok (.iload 4, 2) := by decide +kernel
theorem dL_law_566 : decode cL_law 566 = .ok (.iconst 1, 1) := by decide +kernel
theorem dL_law_567 : decode cL_law 567 = .ok (.iadd, 1) := by decide +kernel
theorem dL_law_568 : decode cL_law 568 = .ok (.iaload, 1) := by decide +kernel
theorem dL_law_569 : decode cL_law 569 = .ok (.aload_n 3, 1) := by decide +kernel
theorem dL_law_570 : decode cL_law 570 = .ok (.invokestatic 103, 3) := by decide +kernel
theorem dL_law_573 : decode cL_law 573 = .ok (.istore 5, 2) := by decide +kernel
theorem dL_law_575 : decode cL_law 575 = .ok (.aload_n 2, 1) := by decide +kernel
theorem dL_law_576 : decode cL_law 576 = .ok (.aload_n 0, 1) := by decide +kernel
theorem dL_law_577 : decode cL_law 577 = .ok (.iload 4, 2) := by decide +kernel
theorem dL_law_579 : decode cL_law 579 = .ok (.iconst 1, 1) := by decide +kernel
theorem dL_law_580 : decode cL_law 580 = .ok (.iadd, 1) := by decide +kernel
theorem dL_law_581 : decode cL_law 581 = .ok (.iaload, 1) := by decide +kernel
theorem dL_law_582 : decode cL_law 582 = .ok (.invokevirtual 105, 3) := by decide +kernel
theorem dL_law_585 : decode cL_law 585 = .ok (.istore 6, 2) := by decide +kernel
theorem dL_law_587 : decode cL_law 587 = .ok (.aload_n 2, 1) := by decide +kernel
theorem dL_law_588 : decode cL_law 588 = .ok (.invokevirtual 81, 3) := by decide +kernel
theorem dL_law_591 : decode cL_law 591 = .ok (.iload 5, 2) := by decide +kernel
theorem dL_law_593 : decode cL_law 593 = .ok (.if_icmp .eq 5, 3) := by decide +kernel
theorem dL_law_596 : decode cL_law 596 = .ok (.iconst 0, 1) := by decide +kernel
theorem dL_law_597 : decode cL_law 597 = .ok (.ireturn, 1) := by decide +kernel
theorem dL_law_598 : decode cL_law 598 = .ok (.iload 5, 2) := by decide +kernel
theorem dL_law_600 : decode cL_law 600 = .ok (.ifCond .ne 15, 3) := by decide +kernel
theorem dL_law_603 : decode cL_law 603 = .ok (.aload_n 3, 1) := by decide +kernel
theorem dL_law_604 : decode cL_law 604 = .ok (.iconst 0, 1) := by decide +kernel
theorem dL_law_605 : decode cL_law 605 = .ok (.laload, 1) := by decide +kernel
theorem dL_law_606 : decode cL_law 606 = .ok (.iload 6, 2) := by decide +kernel
theorem dL_law_608 : decode cL_law 608 = .ok (.i2l, 1) := by decide +kernel
theorem dL_law_609 : decode cL_law 609 = .ok (.lcmp, 1) := by decide +kernel
theorem dL_law_610 : decode cL_law 610 = .ok (.ifCond .eq 5, 3) := by decide +kernel
theorem dL_law_613 : decode cL_law 613 = .ok (.iconst 0, 1) := by decide +kernel
theorem dL_law_614 : decode cL_law 614 = .ok (.ireturn, 1) := by decide +kernel
theorem dL_law_615 : decode cL_law 615 = .ok (.goto 701, 3) := by decide +kernel
theorem dL_law_618 : decode cL_law 618 = .ok (.aload_n 1, 1) := by decide +kernel
theorem dL_law_619 : decode cL_law 619 = .ok (.invokevirtual 106, 3) := by decide +kernel
theorem dL_law_622 : decode cL_law 622 = .ok (.aload_n 2, 1) := by decide +kernel
theorem dL_law_623 : decode cL_law 623 = .ok (.invokevirtual 109, 3) := by decide +kernel
theorem dL_law_626 : decode cL_law 626 = .ok (.if_icmp .eq 690, 3) := by decide +kernel
theorem dL_law_629 : decode cL_law 629 = .ok (.iconst 0, 1) := by decide +kernel
theorem dL_law_630 : decode cL_law 630 = .ok (.ireturn, 1) := by decide +kernel
theorem dL_law_631 : decode cL_law 631 = .ok (.aload_n 1, 1) := by decide +kernel
theorem dL_law_632 : decode cL_law 632 = .ok (.aload_n 0, 1) := by decide +kernel
theorem dL_law_633 : decode cL_law 633 = .ok (.iload 4, 2) := by decide +kernel
theorem dL_law_635 : decode cL_law 635 = .ok (.iconst 1, 1) := by decide +kernel
theorem dL_law_636 : decode cL_law 636 = .ok (.iadd, 1) := by decide +kernel
theorem dL_law_637 : decode cL_law 637 = .ok (.iaload, 1) := by decide +kernel
theorem dL_law_638 : decode cL_law 638 = .ok (.aload_n 3, 1) := by decide +kernel
theorem dL_law_639 : decode cL_law 639 = .ok (.invokestatic 110, 3) := by decide +kernel
theorem dL_law_642 : decode cL_law 642 = .ok (.istore 5, 2) := by decide +kernel
theorem dL_law_644 : decode cL_law 644 = .ok (.aload_n 2, 1) := by decide +kernel
theorem dL_law_645 : decode cL_law 645 = .ok (.aload_n 0, 1) := by decide +kernel
theorem dL_law_646 : decode cL_law 646 = .ok (.iload 4, 2) := by decide +kernel
theorem dL_law_648 : decode cL_law 648 = .ok (.iconst 1, 1) := by decide +kernel
theorem dL_law_649 : decode cL_law 649 = .ok (.iadd, 1) := by decide +kernel
theorem dL_law_650 : decode cL_law 650 = .ok (.iaload, 1) := by decide +kernel
theorem dL_law_651 : decode cL_law 651 = .ok (.invokevirtual 112, 3) := by decide +kernel
theorem dL_law_654 : decode cL_law 654 = .ok (.istore 6, 2) := by decide +kernel
theorem dL_law_656 : decode cL_law 656 = .ok (.aload_n 2, 1) := by decide +kernel
theorem dL_law_657 : decode cL_law 657 = .ok (.invokevirtual 81, 3) := by decide +kernel
theorem dL_law_660 : decode cL_law 660 = .ok (.iload 5, 2) := by decide +kernel
theorem dL_law_662 : decode cL_law 662 = .ok (.if_icmp .eq 5, 3) := by decide +kernel
theorem dL_law_665 : decode cL_law 665 = .ok (.iconst 0, 1) := by decide +kernel
theorem dL_law_666 : decode cL_law 666 = .ok (.ireturn, 1) := by decide +kernel
theorem dL_law_667 : decode cL_law 667 = .ok (.iload 5, 2) := by decide +kernel
theorem dL_law_669 : decode cL_law 669 = .ok (.ifCond .ne 15, 3) := by decide +kernel
theorem dL_law_672 : decode cL_law 672 = .ok (.aload_n 3, 1) := by decide +kernel
theorem dL_law_673 : decode cL_law 673 = .ok (.iconst 0, 1) := by decide +kernel
theorem dL_law_674 : decode cL_law 674 = .ok (.laload, 1) := by decide +kernel
theorem dL_law_675 : decode cL_law 675 = .ok (.iload 6, 2) := by decide +kernel
theorem dL_law_677 : decode cL_law 677 = .ok (.i2l, 1) := by decide +kernel
theorem dL_law_678 : decode cL_law 678 = .ok (.lcmp, 1) := by decide +kernel
theorem dL_law_679 : decode cL_law 679 = .ok (.ifCond .eq 5, 3) := by decide +kernel
theorem dL_law_682 : decode cL_law 682 = .ok (.iconst 0, 1) := by decide +kernel
theorem dL_law_683 : decode cL_law 683 = .ok (.ireturn, 1) := by decide +kernel
theorem dL_law_684 : decode cL_law 684 = .ok (.goto 632, 3) := by decide +kernel
theorem dL_law_687 : decode cL_law 687 = .ok (.aload_n 1, 1) := by decide +kernel
theorem dL_law_688 : decode cL_law 688 = .ok (.invokevirtual 113, 3) := by decide +kernel
theorem dL_law_691 : decode cL_law 691 = .ok (.aload_n 2, 1) := by decide +kernel
theorem dL_law_692 : decode cL_law 692 = .ok (.invokevirtual 116, 3) := by decide +kernel
theorem dL_law_695 : decode cL_law 695 = .ok (.if_icmp .eq 621, 3) := by decide +kernel
theorem dL_law_698 : decode cL_law 698 = .ok (.iconst 0, 1) := by decide +kernel
theorem dL_law_699 : decode cL_law 699 = .ok (.ireturn, 1) := by decide +kernel
theorem dL_law_700 : decode cL_law 700 = .ok (.aload_n 1, 1) := by decide +kernel
theorem dL_law_701 : decode cL_law 701 = .ok (.aload_n 0, 1) := by decide +kernel
theorem dL_law_702 : decode cL_law 702 = .ok (.iload 4, 2) := by decide +kernel
theorem dL_law_704 : decode cL_law 704 = .ok (.iconst 1, 1) := by decide +kernel
theorem dL_law_705 : decode cL_law 705 = .ok (.iadd, 1) := by decide +kernel
theorem dL_law_706 : decode cL_law 706 = .ok (.iaload, 1) := by decide +kernel
theorem dL_law_707 : decode cL_law 707 = .ok (.aload_n 3, 1) := by decide +kernel
theorem dL_law_708 : decode cL_law 708 = .ok (.invokestatic 117, 3) := by decide +kernel
theorem dL_law_711 : decode cL_law 711 = .ok (.istore 5, 2) := by decide +kernel
theorem dL_law_713 : decode cL_law 713 = .ok (.aload_n 2, 1) := by decide +kernel
theorem dL_law_714 : decode cL_law 714 = .ok (.aload_n 0, 1) := by decide +kernel
theorem dL_law_715 : decode cL_law 715 = .ok (.iload 4, 2) := by decide +kernel
theorem dL_law_717 : decode cL_law 717 = .ok (.iconst 1, 1) := by decide +kernel
theorem dL_law_718 : decode cL_law 718 = .ok (.iadd, 1) := by decide +kernel
theorem dL_law_719 : decode cL_law 719 = .ok (.iaload, 1) := by decide +kernel
theorem dL_law_720 : decode cL_law 720 = .ok (.invokevirtual 119, 3) := by decide +kernel
theorem dL_law_723 : decode cL_law 723 = .ok (.istore 6, 2) := by decide +kernel
theorem dL_law_725 : decode cL_law 725 = .ok (.aload_n 2, 1) := by decide +kernel
theorem dL_law_726 : decode cL_law 726 = .ok (.invokevirtual 81, 3) := by decide +kernel
theorem dL_law_729 : decode cL_law 729 = .ok (.iload 5, 2) := by decide +kernel
theorem dL_law_731 : decode cL_law 731 = .ok (.if_icmp .eq 5, 3) := by decide +kernel
theorem dL_law_734 : decode cL_law 734 = .ok (.iconst 0, 1) := by decide +kernel
theorem dL_law_735 : decode cL_law 735 = .ok (.ireturn, 1) := by decide +kernel
theorem dL_law_736 : decode cL_law 736 = .ok (.iload 5, 2) := by decide +kernel
theorem dL_law_738 : decode cL_law 738 = .ok (.ifCond .ne 15, 3) := by decide +kernel
theorem dL_law_741 : decode cL_law 741 = .ok (.aload_n 3, 1) := by decide +kernel
theorem dL_law_742 : decode cL_law 742 = .ok (.iconst 0, 1) := by decide +kernel
theorem dL_law_743 : decode cL_law 743 = .ok (.laload, 1) := by decide +kernel
theorem dL_law_744 : decode cL_law 744 = .ok (.iload 6, 2) := by decide +kernel
theorem dL_law_746 : decode cL_law 746 = .ok (.i2l, 1) := by decide +kernel
theorem dL_law_747 : decode cL_law 747 = .ok (.lcmp, 1) := by decide +kernel
theorem dL_law_748 : decode cL_law 748 = .ok (.ifCond .eq 5, 3) := by decide +kernel
theorem dL_law_751 : decode cL_law 751 = .ok (.iconst 0, 1) := by decide +kernel
theorem dL_law_752 : decode cL_law 752 = .ok (.ireturn, 1) := by decide +kernel
theorem dL_law_753 : decode cL_law 753 = .ok (.goto 563, 3) := by decide +kernel
theorem dL_law_756 : decode cL_law 756 = .ok (.aload_n 1, 1) := by decide +kernel
theorem dL_law_757 : decode cL_law 757 = .ok (.aload_n 0, 1) := by decide +kernel
theorem dL_law_758 : decode cL_law 758 = .ok (.iload 4, 2) := by decide +kernel
theorem dL_law_760 : decode cL_law 760 = .ok (.iconst 1, 1) := by decide +kernel
theorem dL_law_761 : decode cL_law 761 = .ok (.iadd, 1) := by decide +kernel
theorem dL_law_762 : decode cL_law 762 = .ok (.iaload, 1) := by decide +kernel
theorem dL_law_763 : decode cL_law 763 = .ok (.aload_n 0, 1) := by decide +kernel
theorem dL_law_764 : decode cL_law 764 = .ok (.iload 4, 2) := by decide +kernel
theorem dL_law_766 : decode cL_law 766 = .ok (.iconst 2, 1) := by decide +kernel
theorem dL_law_767 : decode cL_law 767 = .ok (.iadd, 1) := by decide +kernel
theorem dL_law_768 : decode cL_law 768 = .ok (.iaload, 1) := by decide +kernel
theorem dL_law_769 : decode cL_law 769 = .ok (.aload_n 0, 1) := by decide +kernel
theorem dL_law_770 : decode cL_law 770 = .ok (.iload 4, 2) := by decide +kernel
theorem dL_law_772 : decode cL_law 772 = .ok (.iconst 3, 1) := by decide +kernel
theorem dL_law_773 : decode cL_law 773 = .ok (.iadd, 1) := by decide +kernel
theorem dL_law_774 : decode cL_law 774 = .ok (.iaload, 1) := by decide +kernel
theorem dL_law_775 : decode cL_law 775 = .ok (.aload_n 3, 1) := by decide +kernel
theorem dL_law_776 : decode cL_law 776 = .ok (.invokestatic 120, 3) := by decide +kernel
theorem dL_law_779 : decode cL_law 779 = .ok (.istore 5, 2) := by decide +kernel
theorem dL_law_781 : decode cL_law 781 = .ok (.aload_n 2, 1) := by decide +kernel
theorem dL_law_782 : decode cL_law 782 = .ok (.aload_n 0, 1) := by decide +kernel
theorem dL_law_783 : decode cL_law 783 = .ok (.iload 4, 2) := by decide +kernel
theorem dL_law_785 : decode cL_law 785 = .ok (.iconst 1, 1) := by decide +kernel
theorem dL_law_786 : decode cL_law 786 = .ok (.iadd, 1) := by decide +kernel
theorem dL_law_787 : decode cL_law 787 = .ok (.iaload, 1) := by decide +kernel
theorem dL_law_788 : decode cL_law 788 = .ok (.aload_n 0, 1) := by decide +kernel
theorem dL_law_789 : decode cL_law 789 = .ok (.iload 4, 2) := by decide +kernel
theorem dL_law_791 : decode cL_law 791 = .ok (.iconst 2, 1) := by decide +kernel
theorem dL_law_792 : decode cL_law 792 = .ok (.iadd, 1) := by decide +kernel
theorem dL_law_793 : decode cL_law 793 = .ok (.iaload, 1) := by decide +kernel
theorem dL_law_794 : decode cL_law 794 = .ok (.aload_n 0, 1) := by decide +kernel
theorem dL_law_795 : decode cL_law 795 = .ok (.iload 4, 2) := by decide +kernel
theorem dL_law_797 : decode cL_law 797 = .ok (.iconst 3, 1) := by decide +kernel
theorem dL_law_798 : decode cL_law 798 = .ok (.iadd, 1) := by decide +kernel
theorem dL_law_799 : decode cL_law 799 = .ok (.iaload, 1) := by decide +kernel
theorem dL_law_800 : decode cL_law 800 = .ok (.invokevirtual 122, 3) := by decide +kernel
theorem dL_law_803 : decode cL_law 803 = .ok (.istore 6, 2) := by decide +kernel
theorem dL_law_805 : decode cL_law 805 = .ok (.aload_n 2, 1) := by decide +kernel
theorem dL_law_806 : decode cL_law 806 = .ok (.invokevirtual 81, 3) := by decide +kernel
theorem dL_law_809 : decode cL_law 809 = .ok (.iload 5, 2) := by decide +kernel
theorem dL_law_811 : decode cL_law 811 = .ok (.if_icmp .eq 5, 3) := by decide +kernel
theorem dL_law_814 : decode cL_law 814 = .ok (.iconst 0, 1) := by decide +kernel
theorem dL_law_815 : decode cL_law 815 = .ok (.ireturn, 1) := by decide +kernel
theorem dL_law_816 : decode cL_law 816 = .ok (.iload 5, 2) := by decide +kernel
theorem dL_law_818 : decode cL_law 818 = .ok (.ifCond .ne 15, 3) := by decide +kernel
theorem dL_law_821 : decode cL_law 821 = .ok (.aload_n 3, 1) := by decide +kernel
theorem dL_law_822 : decode cL_law 822 = .ok (.iconst 0, 1) := by decide +kernel
theorem dL_law_823 : decode cL_law 823 = .ok (.laload, 1) := by decide +kernel
theorem dL_law_824 : decode cL_law 824 = .ok (.iload 6, 2) := by decide +kernel
theorem dL_law_826 : decode cL_law 826 = .ok (.i2l, 1) := by decide +kernel
theorem dL_law_827 : decode cL_law 827 = .ok (.lcmp, 1) := by decide +kernel
theorem dL_law_828 : decode cL_law 828 = .ok (.ifCond .eq 5, 3) := by decide +kernel
theorem dL_law_831 : decode cL_law 831 = .ok (.iconst 0, 1) := by decide +kernel
theorem dL_law_832 : decode cL_law 832 = .ok (.ireturn, 1) := by decide +kernel
theorem dL_law_833 : decode cL_law 833 = .ok (.goto 483, 3) := by decide +kernel
theorem dL_law_836 : decode cL_law 836 = .ok (.aload_n 1, 1) := by decide +kernel
theorem dL_law_837 : decode cL_law 837 = .ok (.aload_n 0, 1) := by decide +kernel
theorem dL_law_838 : decode cL_law 838 = .ok (.iload 4, 2) := by decide +kernel
theorem dL_law_840 : decode cL_law 840 = .ok (.iconst 1, 1) := by decide +kernel
theorem dL_law_841 : decode cL_law 841 = .ok (.iadd, 1) := by decide +kernel
theorem dL_law_842 : decode cL_law 842 = .ok (.iaload, 1) := by decide +kernel
theorem dL_law_843 : decode cL_law 843 = .ok (.aload_n 0, 1) := by decide +kernel
theorem dL_law_844 : decode cL_law 844 = .ok (.iload 4, 2) := by decide +kernel
theorem dL_law_846 : decode cL_law 846 = .ok (.iconst 2, 1) := by decide +kernel
theorem dL_law_847 : decode cL_law 847 = .ok (.iadd, 1) := by decide +kernel
theorem dL_law_848 : decode cL_law 848 = .ok (.iaload, 1) := by decide +kernel
theorem dL_law_849 : decode cL_law 849 = .ok (.aload_n 3, 1) := by decide +kernel
theorem dL_law_850 : decode cL_law 850 = .ok (.invokestatic 123, 3) := by decide +kernel
theorem dL_law_853 : decode cL_law 853 = .ok (.istore 5, 2) := by decide +kernel
theorem dL_law_855 : decode cL_law 855 = .ok (.aload_n 2, 1) := by decide +kernel
theorem dL_law_856 : decode cL_law 856 = .ok (.aload_n 0, 1) := by decide +kernel
theorem dL_law_857 : decode cL_law 857 = .ok (.iload 4, 2) := by decide +kernel
theorem dL_law_859 : decode cL_law 859 = .ok (.iconst 1, 1) := by decide +kernel
theorem dL_law_860 : decode cL_law 860 = .ok (.iadd, 1) := by decide +kernel
theorem dL_law_861 : decode cL_law 861 = .ok (.iaload, 1) := by decide +kernel
theorem dL_law_862 : decode cL_law 862 = .ok (.aload_n 0, 1) := by decide +kernel
theorem dL_law_863 : decode cL_law 863 = .ok (.iload 4, 2) := by decide +kernel
theorem dL_law_865 : decode cL_law 865 = .ok (.iconst 2, 1) := by decide +kernel
theorem dL_law_866 : decode cL_law 866 = .ok (.iadd, 1) := by decide +kernel
theorem dL_law_867 : decode cL_law 867 = .ok (.iaload, 1) := by decide +kernel
theorem dL_law_868 : decode cL_law 868 = .ok (.invokevirtual 125, 3) := by decide +kernel
theorem dL_law_871 : decode cL_law 871 = .ok (.istore 6, 2) := by decide +kernel
theorem dL_law_873 : decode cL_law 873 = .ok (.aload_n 2, 1) := by decide +kernel
theorem dL_law_874 : decode cL_law 874 = .ok (.invokevirtual 81, 3) := by decide +kernel
theorem dL_law_877 : decode cL_law 877 = .ok (.iload 5, 2) := by decide +kernel
theorem dL_law_879 : decode cL_law 879 = .ok (.if_icmp .eq 5, 3) := by decide +kernel
theorem dL_law_882 : decode cL_law 882 = .ok (.iconst 0, 1) := by decide +kernel
theorem dL_law_883 : decode cL_law 883 = .ok (.ireturn, 1) := by decide +kernel
theorem dL_law_884 : decode cL_law 884 = .ok (.iload 5, 2) := by decide +kernel
theorem dL_law_886 : decode cL_law 886 = .ok (.ifCond .ne 15, 3) := by decide +kernel
theorem dL_law_889 : decode cL_law 889 = .ok (.aload_n 3, 1) := by decide +kernel
theorem dL_law_890 : decode cL_law 890 = .ok (.iconst 0, 1) := by decide +kernel
theorem dL_law_891 : decode cL_law 891 = .ok (.laload, 1) := by decide +kernel
theorem dL_law_892 : decode cL_law 892 = .ok (.iload 6, 2) := by decide +kernel
theorem dL_law_894 : decode cL_law 894 = .ok (.i2l, 1) := by decide +kernel
theorem dL_law_895 : decode cL_law 895 = .ok (.lcmp, 1) := by decide +kernel
theorem dL_law_896 : decode cL_law 896 = .ok (.ifCond .eq 5, 3) := by decide +kernel
theorem dL_law_899 : decode cL_law 899 = .ok (.iconst 0, 1) := by decide +kernel
theorem dL_law_900 : decode cL_law 900 = .ok (.ireturn, 1) := by decide +kernel
theorem dL_law_901 : decode cL_law 901 = .ok (.goto 415, 3) := by decide +kernel
theorem dL_law_904 : decode cL_law 904 = .ok (.aload_n 1, 1) := by decide +kernel
theorem dL_law_905 : decode cL_law 905 = .ok (.aload_n 0, 1) := by decide +kernel
theorem dL_law_906 : decode cL_law 906 = .ok (.iload 4, 2) := by decide +kernel
theorem dL_law_908 : decode cL_law 908 = .ok (.iconst 1, 1) := by decide +kernel
theorem dL_law_909 : decode cL_law 909 = .ok (.iadd, 1) := by decide +kernel
theorem dL_law_910 : decode cL_law 910 = .ok (.iaload, 1) := by decide +kernel
theorem dL_law_911 : decode cL_law 911 = .ok (.aload_n 3, 1) := by decide +kernel
theorem dL_law_912 : decode cL_law 912 = .ok (.invokestatic 126, 3) := by decide +kernel
theorem dL_law_915 : decode cL_law 915 = .ok (.istore 5, 2) := by decide +kernel
theorem dL_law_917 : decode cL_law 917 = .ok (.aload_n 2, 1) := by decide +kernel
theorem dL_law_918 : decode cL_law 918 = .ok (.aload_n 0, 1) := by decide +kernel
theorem dL_law_919 : decode cL_law 919 = .ok (.iload 4, 2) := by decide +kernel
theorem dL_law_921 : decode cL_law 921 = .ok (.iconst 1, 1) := by decide +kernel
theorem dL_law_922 : decode cL_law 922 = .ok (.iadd, 1) := by decide +kernel
theorem dL_law_923 : decode cL_law 923 = .ok (.iaload, 1) := by decide +kernel
theorem dL_law_924 : decode cL_law 924 = .ok (.invokevirtual 128, 3) := by decide +kernel
theorem dL_law_927 : decode cL_law 927 = .ok (.istore 6, 2) := by decide +kernel
theorem dL_law_929 : decode cL_law 929 = .ok (.aload_n 2, 1) := by decide +kernel
theorem dL_law_930 : decode cL_law 930 = .ok (.invokevirtual 81, 3) := by decide +kernel
theorem dL_law_933 : decode cL_law 933 = .ok (.iload 5, 2) := by decide +kernel
theorem dL_law_935 : decode cL_law 935 = .ok (.if_icmp .eq 5, 3) := by decide +kernel
theorem dL_law_938 : decode cL_law 938 = .ok (.iconst 0, 1) := by decide +kernel
theorem dL_law_939 : decode cL_law 939 = .ok (.ireturn, 1) := by decide +kernel
theorem dL_law_940 : decode cL_law 940 = .ok (.iload 5, 2) := by decide +kernel
theorem dL_law_942 : decode cL_law 942 = .ok (.ifCond .ne 15, 3) := by decide +kernel
theorem dL_law_945 : decode cL_law 945 = .ok (.aload_n 3, 1) := by decide +kernel
theorem dL_law_946 : decode cL_law 946 = .ok (.iconst 0, 1) := by decide +kernel
theorem dL_law_947 : decode cL_law 947 = .ok (.laload, 1) := by decide +kernel
theorem dL_law_948 : decode cL_law 948 = .ok (.iload 6, 2) := by decide +kernel
theorem dL_law_950 : decode cL_law 950 = .ok (.i2l, 1) := by decide +kernel
theorem dL_law_951 : decode cL_law 951 = .ok (.lcmp, 1) := by decide +kernel
theorem dL_law_952 : decode cL_law 952 = .ok (.ifCond .eq 5, 3) := by decide +kernel
theorem dL_law_955 : decode cL_law 955 = .ok (.iconst 0, 1) := by decide +kernel
theorem dL_law_956 : decode cL_law 956 = .ok (.ireturn, 1) := by decide +kernel
theorem dL_law_957 : decode cL_law 957 = .ok (.goto 359, 3) := by decide +kernel
theorem dL_law_960 : decode cL_law 960 = .ok (.aload_n 1, 1) := by decide +kernel
theorem dL_law_961 : decode cL_law 961 = .ok (.aload_n 0, 1) := by decide +kernel
theorem dL_law_962 : decode cL_law 962 = .ok (.iload 4, 2) := by decide +kernel
theorem dL_law_964 : decode cL_law 964 = .ok (.iconst 1, 1) := by decide +kernel
theorem dL_law_965 : decode cL_law 965 = .ok (.iadd, 1) := by decide +kernel
theorem dL_law_966 : decode cL_law 966 = .ok (.iaload, 1) := by decide +kernel
theorem dL_law_967 : decode cL_law 967 = .ok (.aload_n 3, 1) := by decide +kernel
theorem dL_law_968 : decode cL_law 968 = .ok (.invokestatic 129, 3) := by decide +kernel
theorem dL_law_971 : decode cL_law 971 = .ok (.istore 5, 2) := by decide +kernel
theorem dL_law_973 : decode cL_law 973 = .ok (.aload_n 2, 1) := by decide +kernel
theorem dL_law_974 : decode cL_law 974 = .ok (.aload_n 0, 1) := by decide +kernel
theorem dL_law_975 : decode cL_law 975 = .ok (.iload 4, 2) := by decide +kernel
theorem dL_law_977 : decode cL_law 977 = .ok (.iconst 1, 1) := by decide +kernel
theorem dL_law_978 : decode cL_law 978 = .ok (.iadd, 1) := by decide +kernel
theorem dL_law_979 : decode cL_law 979 = .ok (.iaload, 1) := by decide +kernel
theorem dL_law_980 : decode cL_law 980 = .ok (.invokevirtual 131, 3) := by decide +kernel
theorem dL_law_983 : decode cL_law 983 = .ok (.istore 6, 2) := by decide +kernel
theorem dL_law_985 : decode cL_law 985 = .ok (.aload_n 2, 1) := by decide +kernel
theorem dL_law_986 : decode cL_law 986 = .ok (.invokevirtual 81, 3) := by decide +kernel
theorem dL_law_989 : decode cL_law 989 = .ok (.iload 5, 2) := by decide +kernel
theorem dL_law_991 : decode cL_law 991 = .ok (.if_icmp .eq 5, 3) := by decide +kernel
theorem dL_law_994 : decode cL_law 994 = .ok (.iconst 0, 1) := by decide +kernel
theorem dL_law_995 : decode cL_law 995 = .ok (.ireturn, 1) := by decide +kernel
theorem dL_law_996 : decode cL_law 996 = .ok (.iload 5, 2) := by decide +kernel
theorem dL_law_998 : decode cL_law 998 = .ok (.ifCond .ne 15, 3) := by decide +kernel
theorem dL_law_1001 : decode cL_law 1001 = .ok (.aload_n 3, 1) := by decide +kernel
theorem dL_law_1002 : decode cL_law 1002 = .ok (.iconst 0, 1) := by decide +kernel
theorem dL_law_1003 : decode cL_law 1003 = .ok (.laload, 1) := by decide +kernel
theorem dL_law_1004 : decode cL_law 1004 = .ok (.iload 6, 2) := by decide +kernel
theorem dL_law_1006 : decode cL_law 1006 = .ok (.i2l, 1) := by decide +kernel
theorem dL_law_1007 : decode cL_law 1007 = .ok (.lcmp, 1) := by decide +kernel
theorem dL_law_1008 : decode cL_law 1008 = .ok (.ifCond .eq 5, 3) := by decide +kernel
theorem dL_law_1011 : decode cL_law 1011 = .ok (.iconst 0, 1) := by decide +kernel
theorem dL_law_1012 : decode cL_law 1012 = .ok (.ireturn, 1) := by decide +kernel
theorem dL_law_1013 : decode cL_law 1013 = .ok (.goto 303, 3) := by decide +kernel
theorem dL_law_1016 : decode cL_law 1016 = .ok (.aload_n 1, 1) := by decide +kernel
theorem dL_law_1017 : decode cL_law 1017 = .ok (.aload_n 0, 1) := by decide +kernel
theorem dL_law_1018 : decode cL_law 1018 = .ok (.iload 4, 2) := by decide +kernel
theorem dL_law_1020 : decode cL_law 1020 = .ok (.iconst 1, 1) := by decide +kernel
theorem dL_law_1021 : decode cL_law 1021 = .ok (.iadd, 1) := by decide +kernel
theorem dL_law_1022 : decode cL_law 1022 = .ok (.iaload, 1) := by decide +kernel
theorem dL_law_1023 : decode cL_law 1023 = .ok (.aload_n 3, 1) := by decide +kernel
theorem dL_law_1024 : decode cL_law 1024 = .ok (.invokestatic 132, 3) := by decide +kernel
theorem dL_law_1027 : decode cL_law 1027 = .ok (.istore 5, 2) := by decide +kernel
theorem dL_law_1029 : decode cL_law 1029 = .ok (.aload_n 2, 1) := by decide +kernel
theorem dL_law_1030 : decode cL_law 1030 = .ok (.aload_n 0, 1) := by decide +kernel
theorem dL_law_1031 : decode cL_law 1031 = .ok (.iload 4, 2) := by decide +kernel
theorem dL_law_1033 : decode cL_law 1033 = .ok (.iconst 1, 1) := by decide +kernel
theorem dL_law_1034 : decode cL_law 1034 = .ok (.iadd, 1) := by decide +kernel
theorem dL_law_1035 : decode cL_law 1035 = .ok (.iaload, 1) := by decide +kernel
theorem dL_law_1036 : decode cL_law 1036 = .ok (.invokevirtual 134, 3) := by decide +kernel
theorem dL_law_1039 : decode cL_law 1039 = .ok (.istore 6, 2) := by decide +kernel
theorem dL_law_1041 : decode cL_law 1041 = .ok (.aload_n 2, 1) := by decide +kernel
theorem dL_law_1042 : decode cL_law 1042 = .ok (.invokevirtual 81, 3) := by decide +kernel
theorem dL_law_1045 : decode cL_law 1045 = .ok (.iload 5, 2) := by decide +kernel
theorem dL_law_1047 : decode cL_law 1047 = .ok (.if_icmp .eq 5, 3) := by decide +kernel
theorem dL_law_1050 : decode cL_law 1050 = .ok (.iconst 0, 1) := by decide +kernel
theorem dL_law_1051 : decode cL_law 1051 = .ok (.ireturn, 1) := by decide +kernel
theorem dL_law_1052 : decode cL_law 1052 = .ok (.iload 5, 2) := by decide +kernel
theorem dL_law_1054 : decode cL_law 1054 = .ok (.ifCond .ne 15, 3) := by decide +kernel
theorem dL_law_1057 : decode cL_law 1057 = .ok (.aload_n 3, 1) := by decide +kernel
theorem dL_law_1058 : decode cL_law 1058 = .ok (.iconst 0, 1) := by decide +kernel
theorem dL_law_1059 : decode cL_law 1059 = .ok (.laload, 1) := by decide +kernel
theorem dL_law_1060 : decode cL_law 1060 = .ok (.iload 6, 2) := by decide +kernel
theorem dL_law_1062 : decode cL_law 1062 = .ok (.i2l, 1) := by decide +kernel
theorem dL_law_1063 : decode cL_law 1063 = .ok (.lcmp, 1) := by decide +kernel
theorem dL_law_1064 : decode cL_law 1064 = .ok (.ifCond .eq 5, 3) := by decide +kernel
theorem dL_law_1067 : decode cL_law 1067 = .ok (.iconst 0, 1) := by decide +kernel
theorem dL_law_1068 : decode cL_law 1068 = .ok (.ireturn, 1) := by decide +kernel
theorem dL_law_1069 : decode cL_law 1069 = .ok (.goto 247, 3) := by decide +kernel
theorem dL_law_1072 : decode cL_law 1072 = .ok (.aload_n 1, 1) := by decide +kernel
theorem dL_law_1073 : decode cL_law 1073 = .ok (.invokevirtual 135, 3) := by decide +kernel
theorem dL_law_1076 : decode cL_law 1076 = .ok (.aload_n 2, 1) := by decide +kernel
theorem dL_law_1077 : decode cL_law 1077 = .ok (.invokevirtual 138, 3) := by decide +kernel
theorem dL_law_1080 : decode cL_law 1080 = .ok (.if_icmp .eq 236, 3) := by decide +kernel
theorem dL_law_1083 : decode cL_law 1083 = .ok (.iconst 0, 1) := by decide +kernel
theorem dL_law_1084 : decode cL_law 1084 = .ok (.ireturn, 1) := by decide +kernel
theorem dL_law_1085 : decode cL_law 1085 = .ok (.aload_n 1, 1) := by decide +kernel
theorem dL_law_1086 : decode cL_law 1086 = .ok (.aload_n 0, 1) := by decide +kernel
theorem dL_law_1087 : decode cL_law 1087 = .ok (.iload 4, 2) := by decide +kernel
theorem dL_law_1089 : decode cL_law 1089 = .ok (.iconst 1, 1) := by decide +kernel
theorem dL_law_1090 : decode cL_law 1090 = .ok (.iadd, 1) := by decide +kernel
theorem dL_law_1091 : decode cL_law 1091 = .ok (.iaload, 1) := by decide +kernel
theorem dL_law_1092 : decode cL_law 1092 = .ok (.aload_n 3, 1) := by decide +kernel
theorem dL_law_1093 : decode cL_law 1093 = .ok (.invokestatic 139, 3) := by decide +kernel
theorem dL_law_1096 : decode cL_law 1096 = .ok (.istore 5, 2) := by decide +kernel
theorem dL_law_1098 : decode cL_law 1098 = .ok (.aload_n 2, 1) := by decide +kernel
theorem dL_law_1099 : decode cL_law 1099 = .ok (.aload_n 0, 1) := by decide +kernel
theorem dL_law_1100 : decode cL_law 1100 = .ok (.iload 4, 2) := by decide +kernel
theorem dL_law_1102 : decode cL_law 1102 = .ok (.iconst 1, 1) := by decide +kernel
theorem dL_law_1103 : decode cL_law 1103 = .ok (.iadd, 1) := by decide +kernel
theorem dL_law_1104 : decode cL_law 1104 = .ok (.iaload, 1) := by decide +kernel
theorem dL_law_1105 : decode cL_law 1105 = .ok (.invokevirtual 141, 3) := by decide +kernel
theorem dL_law_1108 : decode cL_law 1108 = .ok (.istore 6, 2) := by decide +kernel
theorem dL_law_1110 : decode cL_law 1110 = .ok (.aload_n 2, 1) := by decide +kernel
theorem dL_law_1111 : decode cL_law 1111 = .ok (.invokevirtual 81, 3) := by decide +kernel
theorem dL_law_1114 : decode cL_law 1114 = .ok (.iload 5, 2) := by decide +kernel
theorem dL_law_1116 : decode cL_law 1116 = .ok (.if_icmp .eq 5, 3) := by decide +kernel
theorem dL_law_1119 : decode cL_law 1119 = .ok (.iconst 0, 1) := by decide +kernel
theorem dL_law_1120 : decode cL_law 1120 = .ok (.ireturn, 1) := by decide +kernel
theorem dL_law_1121 : decode cL_law 1121 = .ok (.iload 5, 2) := by decide +kernel
theorem dL_law_1123 : decode cL_law 1123 = .ok (.ifCond .ne 15, 3) := by decide +kernel
theorem dL_law_1126 : decode cL_law 1126 = .ok (.aload_n 3, 1) := by decide +kernel
theorem dL_law_1127 : decode cL_law 1127 = .ok (.iconst 0, 1) := by decide +kernel
theorem dL_law_1128 : decode cL_law 1128 = .ok (.laload, 1) := by decide +kernel
theorem dL_law_1129 : decode cL_law 1129 = .ok (.iload 6, 2) := by decide +kernel
theorem dL_law_1131 : decode cL_law 1131 = .ok (.i2l, 1) := by decide +kernel
theorem dL_law_1132 : decode cL_law 1132 = .ok (.lcmp, 1) := by decide +kernel
theorem dL_law_1133 : decode cL_law 1133 = .ok (.ifCond .eq 5, 3) := by decide +kernel
theorem dL_law_1136 : decode cL_law 1136 = .ok (.iconst 0, 1) := by decide +kernel
theorem dL_law_1137 : decode cL_law 1137 = .ok (.ireturn, 1) := by decide +kernel
theorem dL_law_1138 : decode cL_law 1138 = .ok (.goto 178, 3) := by decide +kernel
theorem dL_law_1141 : decode cL_law 1141 = .ok (.aload_n 1, 1) := by decide +kernel
theorem dL_law_1142 : decode cL_law 1142 = .ok (.aload_n 0, 1) := by decide +kernel
theorem dL_law_1143 : decode cL_law 1143 = .ok (.iload 4, 2) := by decide +kernel
theorem dL_law_1145 : decode cL_law 1145 = .ok (.iconst 1, 1) := by decide +kernel
theorem dL_law_1146 : decode cL_law 1146 = .ok (.iadd, 1) := by decide +kernel
theorem dL_law_1147 : decode cL_law 1147 = .ok (.iaload, 1) := by decide +kernel
theorem dL_law_1148 : decode cL_law 1148 = .ok (.aload_n 0, 1) := by decide +kernel
theorem dL_law_1149 : decode cL_law 1149 = .ok (.iload 4, 2) := by decide +kernel
theorem dL_law_1151 : decode cL_law 1151 = .ok (.iconst 2, 1) := by decide +kernel
theorem dL_law_1152 : decode cL_law 1152 = .ok (.iadd, 1) := by decide +kernel
theorem dL_law_1153 : decode cL_law 1153 = .ok (.iaload, 1) := by decide +kernel
theorem dL_law_1154 : decode cL_law 1154 = .ok (.aload_n 3, 1) := by decide +kernel
theorem dL_law_1155 : decode cL_law 1155 = .ok (.invokestatic 142, 3) := by decide +kernel
theorem dL_law_1158 : decode cL_law 1158 = .ok (.istore 5, 2) := by decide +kernel
theorem dL_law_1160 : decode cL_law 1160 = .ok (.aload_n 2, 1) := by decide +kernel
theorem dL_law_1161 : decode cL_law 1161 = .ok (.aload_n 0, 1) := by decide +kernel
theorem dL_law_1162 : decode cL_law 1162 = .ok (.iload 4, 2) := by decide +kernel
theorem dL_law_1164 : decode cL_law 1164 = .ok (.iconst 1, 1) := by decide +kernel
theorem dL_law_1165 : decode cL_law 1165 = .ok (.iadd, 1) := by decide +kernel
theorem dL_law_1166 : decode cL_law 1166 = .ok (.iaload, 1) := by decide +kernel
theorem dL_law_1167 : decode cL_law 1167 = .ok (.aload_n 0, 1) := by decide +kernel
theorem dL_law_1168 : decode cL_law 1168 = .ok (.iload 4, 2) := by decide +kernel
theorem dL_law_1170 : decode cL_law 1170 = .ok (.iconst 2, 1) := by decide +kernel
theorem dL_law_1171 : decode cL_law 1171 = .ok (.iadd, 1) := by decide +kernel
theorem dL_law_1172 : decode cL_law 1172 = .ok (.iaload, 1) := by decide +kernel
theorem dL_law_1173 : decode cL_law 1173 = .ok (.invokevirtual 144, 3) := by decide +kernel
theorem dL_law_1176 : decode cL_law 1176 = .ok (.istore 6, 2) := by decide +kernel
theorem dL_law_1178 : decode cL_law 1178 = .ok (.aload_n 2, 1) := by decide +kernel
theorem dL_law_1179 : decode cL_law 1179 = .ok (.invokevirtual 81, 3) := by decide +kernel
theorem dL_law_1182 : decode cL_law 1182 = .ok (.iload 5, 2) := by decide +kernel
theorem dL_law_1184 : decode cL_law 1184 = .ok (.if_icmp .eq 5, 3) := by decide +kernel
theorem dL_law_1187 : decode cL_law 1187 = .ok (.iconst 0, 1) := by decide +kernel
theorem dL_law_1188 : decode cL_law 1188 = .ok (.ireturn, 1) := by decide +kernel
theorem dL_law_1189 : decode cL_law 1189 = .ok (.iload 5, 2) := by decide +kernel
theorem dL_law_1191 : decode cL_law 1191 = .ok (.ifCond .ne 15, 3) := by decide +kernel
theorem dL_law_1194 : decode cL_law 1194 = .ok (.aload_n 3, 1) := by decide +kernel
theorem dL_law_1195 : decode cL_law 1195 = .ok (.iconst 0, 1) := by decide +kernel
theorem dL_law_1196 : decode cL_law 1196 = .ok (.laload, 1) := by decide +kernel
theorem dL_law_1197 : decode cL_law 1197 = .ok (.iload 6, 2) := by decide +kernel
theorem dL_law_1199 : decode cL_law 1199 = .ok (.i2l, 1) := by decide +kernel
theorem dL_law_1200 : decode cL_law 1200 = .ok (.lcmp, 1) := by decide +kernel
theorem dL_law_1201 : decode cL_law 1201 = .ok (.ifCond .eq 5, 3) := by decide +kernel
theorem dL_law_1204 : decode cL_law 1204 = .ok (.iconst 0, 1) := by decide +kernel
theorem dL_law_1205 : decode cL_law 1205 = .ok (.ireturn, 1) := by decide +kernel
theorem dL_law_1206 : decode cL_law 1206 = .ok (.goto 110, 3) := by decide +kernel
theorem dL_law_1209 : decode cL_law 1209 = .ok (.aload_n 1, 1) := by decide +kernel
theorem dL_law_1210 : decode cL_law 1210 = .ok (.aload_n 0, 1) := by decide +kernel
theorem dL_law_1211 : decode cL_law 1211 = .ok (.iload 4, 2) := by decide +kernel
theorem dL_law_1213 : decode cL_law 1213 = .ok (.iconst 1, 1) := by decide +kernel
theorem dL_law_1214 : decode cL_law 1214 = .ok (.iadd, 1) := by decide +kernel
theorem dL_law_1215 : decode cL_law 1215 = .ok (.iaload, 1) := by decide +kernel
theorem dL_law_1216 : decode cL_law 1216 = .ok (.aload_n 0, 1) := by decide +kernel
theorem dL_law_1217 : decode cL_law 1217 = .ok (.iload 4, 2) := by decide +kernel
theorem dL_law_1219 : decode cL_law 1219 = .ok (.iconst 2, 1) := by decide +kernel
theorem dL_law_1220 : decode cL_law 1220 = .ok (.iadd, 1) := by decide +kernel
theorem dL_law_1221 : decode cL_law 1221 = .ok (.iaload, 1) := by decide +kernel
theorem dL_law_1222 : decode cL_law 1222 = .ok (.aload_n 3, 1) := by decide +kernel
theorem dL_law_1223 : decode cL_law 1223 = .ok (.invokestatic 145, 3) := by decide +kernel
theorem dL_law_1226 : decode cL_law 1226 = .ok (.istore 5, 2) := by decide +kernel
theorem dL_law_1228 : decode cL_law 1228 = .ok (.aload_n 2, 1) := by decide +kernel
theorem dL_law_1229 : decode cL_law 1229 = .ok (.aload_n 0, 1) := by decide +kernel
theorem dL_law_1230 : decode cL_law 1230 = .ok (.iload 4, 2) := by decide +kernel
theorem dL_law_1232 : decode cL_law 1232 = .ok (.iconst 1, 1) := by decide +kernel
theorem dL_law_1233 : decode cL_law 1233 = .ok (.iadd, 1) := by decide +kernel
theorem dL_law_1234 : decode cL_law 1234 = .ok (.iaload, 1) := by decide +kernel
theorem dL_law_1235 : decode cL_law 1235 = .ok (.aload_n 0, 1) := by decide +kernel
theorem dL_law_1236 : decode cL_law 1236 = .ok (.iload 4, 2) := by decide +kernel
theorem dL_law_1238 : decode cL_law 1238 = .ok (.iconst 2, 1) := by decide +kernel
theorem dL_law_1239 : decode cL_law 1239 = .ok (.iadd, 1) := by decide +kernel
theorem dL_law_1240 : decode cL_law 1240 = .ok (.iaload, 1) := by decide +kernel
theorem dL_law_1241 : decode cL_law 1241 = .ok (.invokevirtual 147, 3) := by decide +kernel
theorem dL_law_1244 : decode cL_law 1244 = .ok (.istore 6, 2) := by decide +kernel
theorem dL_law_1246 : decode cL_law 1246 = .ok (.aload_n 2, 1) := by decide +kernel
theorem dL_law_1247 : decode cL_law 1247 = .ok (.invokevirtual 81, 3) := by decide +kernel
theorem dL_law_1250 : decode cL_law 1250 = .ok (.iload 5, 2) := by decide +kernel
theorem dL_law_1252 : decode cL_law 1252 = .ok (.if_icmp .eq 5, 3) := by decide +kernel
theorem dL_law_1255 : decode cL_law 1255 = .ok (.iconst 0, 1) := by decide +kernel
theorem dL_law_1256 : decode cL_law 1256 = .ok (.ireturn, 1) := by decide +kernel
theorem dL_law_1257 : decode cL_law 1257 = .ok (.iload 5, 2) := by decide +kernel
theorem dL_law_1259 : decode cL_law 1259 = .ok (.ifCond .ne 15, 3) := by decide +kernel
theorem dL_law_1262 : decode cL_law 1262 = .ok (.aload_n 3, 1) := by decide +kernel
theorem dL_law_1263 : decode cL_law 1263 = .ok (.iconst 0, 1) := by decide +kernel
theorem dL_law_1264 : decode cL_law 1264 = .ok (.laload, 1) := by decide +kernel
theorem dL_law_1265 : decode cL_law 1265 = .ok (.iload 6, 2) := by decide +kernel
theorem dL_law_1267 : decode cL_law 1267 = .ok (.i2l, 1) := by decide +kernel
theorem dL_law_1268 : decode cL_law 1268 = .ok (.lcmp, 1) := by decide +kernel
theorem dL_law_1269 : decode cL_law 1269 = .ok (.ifCond .eq 5, 3) := by decide +kernel
theorem dL_law_1272 : decode cL_law 1272 = .ok (.iconst 0, 1) := by decide +kernel
theorem dL_law_1273 : decode cL_law 1273 = .ok (.ireturn, 1) := by decide +kernel
theorem dL_law_1274 : decode cL_law 1274 = .ok (.goto 42, 3) := by decide +kernel
theorem dL_law_1277 : decode cL_law 1277 = .ok (.aload_n 1, 1) := by decide +kernel
theorem dL_law_1278 : decode cL_law 1278 = .ok (.invokevirtual 148, 3) := by decide +kernel
theorem dL_law_1281 : decode cL_law 1281 = .ok (.aload_n 2, 1) := by decide +kernel
theorem dL_law_1282 : decode cL_law 1282 = .ok (.invokevirtual 152, 3) := by decide +kernel
theorem dL_law_1285 : decode cL_law 1285 = .ok (.lcmp, 1) := by decide +kernel
theorem dL_law_1286 : decode cL_law 1286 = .ok (.ifCond .eq 30, 3) := by decide +kernel
theorem dL_law_1289 : decode cL_law 1289 = .ok (.iconst 0, 1) := by decide +kernel
theorem dL_law_1290 : decode cL_law 1290 = .ok (.ireturn, 1) := by decide +kernel
theorem dL_law_1291 : decode cL_law 1291 = .ok (.aload_n 1, 1) := by decide +kernel
theorem dL_law_1292 : decode cL_law 1292 = .ok (.aload_n 0, 1) := by decide +kernel
theorem dL_law_1293 : decode cL_law 1293 = .ok (.iload 4, 2) := by decide +kernel
theorem dL_law_1295 : decode cL_law 1295 = .ok (.iconst 1, 1) := by decide +kernel
theorem dL_law_1296 : decode cL_law 1296 = .ok (.iadd, 1) := by decide +kernel
theorem dL_law_1297 : decode cL_law 1297 = .ok (.iaload, 1) := by decide +kernel
theorem dL_law_1298 : decode cL_law 1298 = .ok (.invokevirtual 153, 3) := by decide +kernel
theorem dL_law_1301 : decode cL_law 1301 = .ok (.aload_n 2, 1) := by decide +kernel
theorem dL_law_1302 : decode cL_law 1302 = .ok (.aload_n 0, 1) := by decide +kernel
theorem dL_law_1303 : decode cL_law 1303 = .ok (.iload 4, 2) := by decide +kernel
theorem dL_law_1305 : decode cL_law 1305 = .ok (.iconst 1, 1) := by decide +kernel
theorem dL_law_1306 : decode cL_law 1306 = .ok (.iadd, 1) := by decide +kernel
theorem dL_law_1307 : decode cL_law 1307 = .ok (.iaload, 1) := by decide +kernel
theorem dL_law_1308 : decode cL_law 1308 = .ok (.invokevirtual 156, 3) := by decide +kernel
theorem dL_law_1311 : decode cL_law 1311 = .ok (.if_icmp .eq 5, 3) := by decide +kernel
theorem dL_law_1314 : decode cL_law 1314 = .ok (.iconst 0, 1) := by decide +kernel
theorem dL_law_1315 : decode cL_law 1315 = .ok (.ireturn, 1) := by decide +kernel
theorem dL_law_1316 : decode cL_law 1316 = .ok (.iinc 4 6, 3) := by decide +kernel
theorem dL_law_1319 : decode cL_law 1319 = .ok (.goto (-1296), 3) := by decide +kernel
theorem dL_law_1322 : decode cL_law 1322 = .ok (.iconst 1, 1) := by decide +kernel
theorem dL_law_1323 : decode cL_law 1323 = .ok (.ireturn, 1) := by decide +kernel
