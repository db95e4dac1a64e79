theorem dX5_branch_64 : decode cX5_branch 64 = .ok (.if_icmp .ne 8, 3) := by decide +kernel
theorem dX5_branch_67 : decode cX5_branch 67 = .ok (.aload_n 0, 1) := by decide +kernel
theorem dX5_branch_68 : decode cX5_branch 68 = .ok (.iload_n 1, 1) := by decide +kernel
theorem dX5_branch_69 : decode cX5_branch 69 = .ok (.invokevirtual 92, 3) := by decide +kernel
theorem dX5_branch_72 : decode cX5_branch 72 = .ok (.aload_n 0, 1) := by decide +kernel
theorem dX5_branch_73 : decode cX5_branch 73 = .ok (.getfield 25, 3) := by decide +kernel
theorem dX5_branch_76 : decode cX5_branch 76 = .ok (.bipush 12, 2) := by decide +kernel
theorem dX5_branch_78 : decode cX5_branch 78 = .ok (.aload_n 0, 1) := by decide +kernel
theorem dX5_branch_79 : decode cX5_branch 79 = .ok (.getfield 19, 3) := by decide +kernel
theorem dX5_branch_82 : decode cX5_branch 82 = .ok (.iconst 0, 1) := by decide +kernel
theorem dX5_branch_83 : decode cX5_branch 83 = .ok (.invokevirtual 63, 3) := by decide +kernel
theorem dX5_branch_86 : decode cX5_branch 86 = .ok (.pop, 1) := by decide +kernel
theorem dX5_branch_87 : decode cX5_branch 87 = .ok (.aload_n 0, 1) := by decide +kernel
theorem dX5_branch_88 : decode cX5_branch 88 = .ok (.getfield 25, 3) := by decide +kernel
theorem dX5_branch_91 : decode cX5_branch 91 = .ok (.iload_n 3, 1) := by decide +kernel
theorem dX5_branch_92 : decode cX5_branch 92 = .ok (.invokevirtual 86, 3) := by decide +kernel
theorem dX5_branch_95 : decode cX5_branch 95 = .ok (.return_, 1) := by decide +kernel
theorem dX5_loop_0 : decode cX5_loop 0 = .ok (.aload_n 0, 1) := by decide +kernel
theorem dX5_loop_1 : decode cX5_loop 1 = .ok (.dup, 1) := by decide +kernel
theorem dX5_loop_2 : decode cX5_loop 2 = .ok (.getfield 19, 3) := by decide +kernel
theorem dX5_loop_5 : decode cX5_loop 5 = .ok (.iconst 1, 1) := by decide +kernel
theorem dX5_loop_6 : decode cX5_loop 6 = .ok (.iadd, 1) := by decide +kernel
theorem dX5_loop_7 : decode cX5_loop 7 = .ok (.putfield 19, 3) := by decide +kernel
theorem dX5_loop_10 : decode cX5_loop 10 = .ok (.aload_n 0, 1) := by decide +kernel
theorem dX5_loop_11 : decode cX5_loop 11 = .ok (.getfield 25, 3) := by decide +kernel
theorem dX5_loop_14 : decode cX5_loop 14 = .ok (.getfield 29, 3) := by decide +kernel
theorem dX5_loop_17 : decode cX5_loop 17 = .ok (.istore_n 2, 1) := by decide +kernel
theorem dX5_loop_18 : decode cX5_loop 18 = .ok (.aload_n 0, 1) := by decide +kernel
theorem dX5_loop_19 : decode cX5_loop 19 = .ok (.iload_n 1, 1) := by decide +kernel
theorem dX5_loop_20 : decode cX5_loop 20 = .ok (.invokevirtual 73, 3) := by decide +kernel
theorem dX5_loop_23 : decode cX5_loop 23 = .ok (.aload_n 0, 1) := by decide +kernel
theorem dX5_loop_24 : decode cX5_loop 24 = .ok (.getfield 25, 3) := by decide +kernel
theorem dX5_loop_27 : decode cX5_loop 27 = .ok (.bipush 13, 2) := by decide +kernel
theorem dX5_loop_29 : decode cX5_loop 29 = .ok (.aload_n 0, 1) := by decide +kernel
theorem dX5_loop_30 : decode cX5_loop 30 = .ok (.getfield 19, 3) := by decide +kernel
theorem dX5_loop_33 : decode cX5_loop 33 = .ok (.iconst 0, 1) := by decide +kernel
theorem dX5_loop_34 : decode cX5_loop 34 = .ok (.invokevirtual 63, 3) := by decide +kernel
theorem dX5_loop_37 : decode cX5_loop 37 = .ok (.istore_n 3, 1) := by decide +kernel
theorem dX5_loop_38 : decode cX5_loop 38 = .ok (.aload_n 0, 1) := by decide +kernel
theorem dX5_loop_39 : decode cX5_loop 39 = .ok (.iload_n 1, 1) := by decide +kernel
theorem dX5_loop_40 : decode cX5_loop 40 = .ok (.invokevirtual 92, 3) := by decide +kernel
theorem dX5_loop_43 : decode cX5_loop 43 = .ok (.aload_n 0, 1) := by decide +kernel
theorem dX5_loop_44 : decode cX5_loop 44 = .ok (.getfield 25, 3) := by decide +kernel
theorem dX5_loop_47 : decode cX5_loop 47 = .ok (.bipush 14, 2) := by decide +kernel
theorem dX5_loop_49 : decode cX5_loop 49 = .ok (.aload_n 0, 1) := by decide +kernel
theorem dX5_loop_50 : decode cX5_loop 50 = .ok (.getfield 19, 3) := by decide +kernel
theorem dX5_loop_53 : decode cX5_loop 53 = .ok (.iconst 0, 1) := by decide +kernel
theorem dX5_loop_54 : decode cX5_loop 54 = .ok (.invokevirtual 63, 3) := by decide +kernel
theorem dX5_loop_57 : decode cX5_loop 57 = .ok (.istore 4, 2) := by decide +kernel
theorem dX5_loop_59 : decode cX5_loop 59 = .ok (.aload_n 0, 1) := by decide +kernel
theorem dX5_loop_60 : decode cX5_loop 60 = .ok (.getfield 25, 3) := by decide +kernel
theorem dX5_loop_63 : decode cX5_loop 63 = .ok (.getfield 95, 3) := by decide +kernel
theorem dX5_loop_66 : decode cX5_loop 66 = .ok (.iload 4, 2) := by decide +kernel
theorem dX5_loop_68 : decode cX5_loop 68 = .ok (.iload_n 2, 1) := by decide +kernel
theorem dX5_loop_69 : decode cX5_loop 69 = .ok (.iastore, 1) := by decide +kernel
theorem dX5_loop_70 : decode cX5_loop 70 = .ok (.aload_n 0, 1) := by decide +kernel
theorem dX5_loop_71 : decode cX5_loop 71 = .ok (.getfield 25, 3) := by decide +kernel
theorem dX5_loop_74 : decode cX5_loop 74 = .ok (.iload_n 3, 1) := by decide +kernel
theorem dX5_loop_75 : decode cX5_loop 75 = .ok (.invokevirtual 86, 3) := by decide +kernel
theorem dX5_loop_78 : decode cX5_loop 78 = .ok (.return_, 1) := by decide +kernel
theorem dX5_block_0 : decode cX5_block 0 = .ok (.aload_n 0, 1) := by decide +kernel
theorem dX5_block_1 : decode cX5_block 1 = .ok (.bipush 123, 2) := by decide +kernel
theorem dX5_block_3 : decode cX5_block 3 = .ok (.iload_n 1, 1) := by decide +kernel
theorem dX5_block_4 : decode cX5_block 4 = .ok (.invokevirtual 99, 3) := by decide +kernel
theorem dX5_block_7 : decode cX5_block 7 = .ok (.istore_n 2, 1) := by decide +kernel
theorem dX5_block_8 : decode cX5_block 8 = .ok (.aload_n 0, 1) := by decide +kernel
theorem dX5_block_9 : decode cX5_block 9 = .ok (.iload_n 2, 1) := by decide +kernel
theorem dX5_block_10 : decode cX5_block 10 = .ok (.invokevirtual 32, 3) := by decide +kernel
theorem dX5_block_13 : decode cX5_block 13 = .ok (.aload_n 0, 1) := by decide +kernel
theorem dX5_block_14 : decode cX5_block 14 = .ok (.bipush 125, 2) := by decide +kernel
theorem dX5_block_16 : decode cX5_block 16 = .ok (.invokevirtual 56, 3) := by decide +kernel
theorem dX5_block_19 : decode cX5_block 19 = .ok (.return_, 1) := by decide +kernel
theorem dX5_condition_0 : decode cX5_condition 0 = .ok (.aload_n 0, 1) := by decide +kernel
theorem dX5_condition_1 : decode cX5_condition 1 = .ok (.iload_n 1, 1) := by decide +kernel
theorem dX5_condition_2 : decode cX5_condition 2 = .ok (.invokevirtual 103, 3) := by decide +kernel
theorem dX5_condition_5 : decode cX5_condition 5 = .ok (.iconst 0, 1) := by decide +kernel
theorem dX5_condition_6 : decode cX5_condition 6 = .ok (.istore_n 2, 1) := by decide +kernel
theorem dX5_condition_7 : decode cX5_condition 7 = .ok (.iload_n 2, 1) := by decide +kernel
theorem dX5_condition_8 : decode cX5_condition 8 = .ok (.bipush 60, 2) := by decide +kernel
theorem dX5_condition_10 : decode cX5_condition 10 = .ok (.if_icmp .ge 33, 3) := by decide +kernel
theorem dX5_condition_13 : decode cX5_condition 13 = .ok (.aload_n 0, 1) := by decide +kernel
theorem dX5_condition_14 : decode cX5_condition 14 = .ok (.invokevirtual 46, 3) := by decide +kernel
theorem dX5_condition_17 : decode cX5_condition 17 = .ok (.bipush 124, 2) := by decide +kernel
theorem dX5_condition_19 : decode cX5_condition 19 = .ok (.if_icmp .ne 24, 3) := by decide +kernel
theorem dX5_condition_22 : decode cX5_condition 22 = .ok (.aload_n 0, 1) := by decide +kernel
theorem dX5_condition_23 : decode cX5_condition 23 = .ok (.invokevirtual 106, 3) := by decide +kernel
theorem dX5_condition_26 : decode cX5_condition 26 = .ok (.istore_n 3, 1) := by decide +kernel
theorem dX5_condition_27 : decode cX5_condition 27 = .ok (.aload_n 0, 1) := by decide +kernel
theorem dX5_condition_28 : decode cX5_condition 28 = .ok (.iload_n 1, 1) := by decide +kernel
theorem dX5_condition_29 : decode cX5_condition 29 = .ok (.invokevirtual 103, 3) := by decide +kernel
theorem dX5_condition_32 : decode cX5_condition 32 = .ok (.aload_n 0, 1) := by decide +kernel
theorem dX5_condition_33 : decode cX5_condition 33 = .ok (.iload_n 3, 1) := by decide +kernel
theorem dX5_condition_34 : decode cX5_condition 34 = .ok (.invokevirtual 109, 3) := by decide +kernel
theorem dX5_condition_37 : decode cX5_condition 37 = .ok (.iinc 2 1, 3) := by decide +kernel
theorem dX5_condition_40 : decode cX5_condition 40 = .ok (.goto (-33), 3) := by decide +kernel
theorem dX5_condition_43 : decode cX5_condition 43 = .ok (.return_, 1) := by decide +kernel
theorem dX5_part_0 : decode cX5_part 0 = .ok (.aload_n 0, 1) := by decide +kernel
theorem dX5_part_1 : decode cX5_part 1 = .ok (.iload_n 1, 1) := by decide +kernel
theorem dX5_part_2 : decode cX5_part 2 = .ok (.invokevirtual 112, 3) := by decide +kernel
theorem dX5_part_5 : decode cX5_part 5 = .ok (.iconst 0, 1) := by decide +kernel
theorem dX5_part_6 : decode cX5_part 6 = .ok (.istore_n 2, 1) := by decide +kernel
theorem dX5_part_7 : decode cX5_part 7 = .ok (.iload_n 2, 1) := by decide +kernel
theorem dX5_part_8 : decode cX5_part 8 = .ok (.bipush 60, 2) := by decide +kernel
theorem dX5_part_10 : decode cX5_part 10 = .ok (.if_icmp .ge 33, 3) := by decide +kernel
theorem dX5_part_13 : decode cX5_part 13 = .ok (.aload_n 0, 1) := by decide +kernel
theorem dX5_part_14 : decode cX5_part 14 = .ok (.invokevirtual 46, 3) := by decide +kernel
theorem dX5_part_17 : decode cX5_part 17 = .ok (.bipush 38, 2) := by decide +kernel
theorem dX5_part_19 : decode cX5_part 19 = .ok (.if_icmp .ne 24, 3) := by decide +kernel
theorem dX5_part_22 : decode cX5_part 22 = .ok (.aload_n 0, 1) := by decide +kernel
theorem dX5_part_23 : decode cX5_part 23 = .ok (.invokevirtual 106, 3) := by decide +kernel
theorem dX5_part_26 : decode cX5_part 26 = .ok (.istore_n 3, 1) := by decide +kernel
theorem dX5_part_27 : decode cX5_part 27 = .ok (.aload_n 0, 1) := by decide +kernel
theorem dX5_part_28 : decode cX5_part 28 = .ok (.iload_n 1, 1) := by decide +kernel
theorem dX5_part_29 : decode cX5_part 29 = .ok (.invokevirtual 112, 3) := by decide +kernel
theorem dX5_part_32 : decode cX5_part 32 = .ok (.aload_n 0, 1) := by decide +kernel
theorem dX5_part_33 : decode cX5_part 33 = .ok (.iload_n 3, 1) := by decide +kernel
theorem dX5_part_34 : decode cX5_part 34 = .ok (.invokevirtual 109, 3) := by decide +kernel
theorem dX5_part_37 : decode cX5_part 37 = .ok (.iinc 2 1, 3) := by decide +kernel
theorem dX5_part_40 : decode cX5_part 40 = .ok (.goto (-33), 3) := by decide +kernel
theorem dX5_part_43 : decode cX5_part 43 = .ok (.return_, 1) := by decide +kernel
theorem dX5_decide_0 : decode cX5_decide 0 = .ok (.aload_n 0, 1) := by decide +kernel
theorem dX5_decide_1 : decode cX5_decide 1 = .ok (.getfield 25, 3) := by decide +kernel
theorem dX5_decide_4 : decode cX5_decide 4 = .ok (.iconst 2, 1) := by decide +kernel
theorem dX5_decide_5 : decode cX5_decide 5 = .ok (.aload_n 0, 1) := by decide +kernel
theorem dX5_decide_6 : decode cX5_decide 6 = .ok (.getfield 19, 3) := by decide +kernel
theorem dX5_decide_9 : decode cX5_decide 9 = .ok (.aload_n 0, 1) := by decide +kernel
theorem dX5_decide_10 : decode cX5_decide 10 = .ok (.invokevirtual 46, 3) := by decide +kernel
theorem dX5_decide_13 : decode cX5_decide 13 = .ok (.invokevirtual 63, 3) := by decide +kernel
theorem dX5_decide_16 : decode cX5_decide 16 = .ok (.istore_n 1, 1) := by decide +kernel
theorem dX5_decide_17 : decode cX5_decide 17 = .ok (.aload_n 0, 1) := by decide +kernel
theorem dX5_decide_18 : decode cX5_decide 18 = .ok (.dup, 1) := by decide +kernel
theorem dX5_decide_19 : decode cX5_decide 19 = .ok (.getfield 19, 3) := by decide +kernel
theorem dX5_decide_22 : decode cX5_decide 22 = .ok (.iconst 1, 1) := by decide +kernel
theorem dX5_decide_23 : decode cX5_decide 23 = .ok (.iadd, 1) := by decide +kernel
theorem dX5_decide_24 : decode cX5_decide 24 = .ok (.putfield 19, 3) := by decide +kernel
theorem dX5_decide_27 : decode cX5_decide 27 = .ok (.iload_n 1, 1) := by decide +kernel
theorem dX5_decide_28 : decode cX5_decide 28 = .ok (.ireturn, 1) := by decide +kernel
theorem dX5_join_0 : decode cX5_join 0 = .ok (.aload_n 0, 1) := by decide +kernel
theorem dX5_join_1 : decode cX5_join 1 = .ok (.getfield 25, 3) := by decide +kernel
theorem dX5_join_4 : decode cX5_join 4 = .ok (.bipush 6, 2) := by decide +kernel
theorem dX5_join_6 : decode cX5_join 6 = .ok (.aload_n 0, 1) := by decide +kernel
theorem dX5_join_7 : decode cX5_join 7 = .ok (.getfield 25, 3) := by decide +kernel
theorem dX5_join_10 : decode cX5_join 10 = .ok (.getfield 115, 3) := by decide +kernel
theorem dX5_join_13 : decode cX5_join 13 = .ok (.iload_n 1, 1) := by decide +kernel
theorem dX5_join_14 : decode cX5_join 14 = .ok (.iaload, 1) := by decide +kernel
theorem dX5_join_15 : decode cX5_join 15 = .ok (.aload_n 0, 1) := by decide +kernel
theorem dX5_join_16 : decode cX5_join 16 = .ok (.getfield 25, 3) := by decide +kernel
theorem dX5_join_19 : decode cX5_join 19 = .ok (.getfield 118, 3) := by decide +kernel
theorem dX5_join_22 : decode cX5_join 22 = .ok (.iload_n 1, 1) := by decide +kernel
theorem dX5_join_23 : decode cX5_join 23 = .ok (.iaload, 1) := by decide +kernel
theorem dX5_join_24 : decode cX5_join 24 = .ok (.invokevirtual 63, 3) := by decide +kernel
theorem dX5_join_27 : decode cX5_join 27 = .ok (.pop, 1) := by decide +kernel
theorem dX5_join_28 : decode cX5_join 28 = .ok (.aload_n 0, 1) := by decide +kernel
theorem dX5_join_29 : decode cX5_join 29 = .ok (.getfield 25, 3) := by decide +kernel
theorem dX5_join_32 : decode cX5_join 32 = .ok (.iload_n 1, 1) := by decide +kernel
theorem dX5_join_33 : decode cX5_join 33 = .ok (.invokevirtual 86, 3) := by decide +kernel
theorem dX5_join_36 : decode cX5_join 36 = .ok (.return_, 1) := by decide +kernel
theorem dX5_atom_0 : decode cX5_atom 0 = .ok (.aload_n 0, 1) := by decide +kernel
theorem dX5_atom_1 : decode cX5_atom 1 = .ok (.invokevirtual 46, 3) := by decide +kernel
theorem dX5_atom_4 : decode cX5_atom 4 = .ok (.bipush 91, 2) := by decide +kernel
theorem dX5_atom_6 : decode cX5_atom 6 = .ok (.if_icmp .ne 23, 3) := by decide +kernel
theorem dX5_atom_9 : decode cX5_atom 9 = .ok (.aload_n 0, 1) := by decide +kernel
theorem dX5_atom_10 : decode cX5_atom 10 = .ok (.bipush 91, 2) := by decide +kernel
theorem dX5_atom_12 : decode cX5_atom 12 = .ok (.iload_n 1, 1) := by decide +kernel
theorem dX5_atom_13 : decode cX5_atom 13 = .ok (.invokevirtual 99, 3) := by decide +kernel
theorem dX5_atom_16 : decode cX5_atom 16 = .ok (.istore_n 2, 1) := by decide +kernel
theorem dX5_atom_17 : decode cX5_atom 17 = .ok (.aload_n 0, 1) := by decide +kernel
theorem dX5_atom_18 : decode cX5_atom 18 = .ok (.iload_n 2, 1) := by decide +kernel
theorem dX5_atom_19 : decode cX5_atom 19 = .ok (.invokevirtual 73, 3) := by decide +kernel
theorem dX5_atom_22 : decode cX5_atom 22 = .ok (.aload_n 0, 1) := by decide +kernel
theorem dX5_atom_23 : decode cX5_atom 23 = .ok (.bipush 93, 2) := by decide +kernel
theorem dX5_atom_25 : decode cX5_atom 25 = .ok (.invokevirtual 56, 3) := by decide +kernel
theorem dX5_atom_28 : decode cX5_atom 28 = .ok (.return_, 1) := by decide +kernel
theorem dX5_atom_29 : decode cX5_atom 29 = .ok (.aload_n 0, 1) := by decide +kernel
theorem dX5_atom_30 : decode cX5_atom 30 = .ok (.iload_n 1, 1) := by decide +kernel
theorem dX5_atom_31 : decode cX5_atom 31 = .ok (.invokevirtual 80, 3) := by decide +kernel
theorem dX5_atom_34 : decode cX5_atom 34 = .ok (.aload_n 0, 1) := by decide +kernel
theorem dX5_atom_35 : decode cX5_atom 35 = .ok (.ldc 121, 2) := by decide +kernel
theorem dX5_atom_37 : decode cX5_atom 37 = .ok (.invokevirtual 123, 3) := by decide +kernel
theorem dX5_atom_40 : decode cX5_atom 40 = .ok (.ifCond .ne 7, 3) := by decide +kernel
theorem dX5_atom_43 : decode cX5_atom 43 = .ok (.aload_n 0, 1) := by decide +kernel
theorem dX5_atom_44 : decode cX5_atom 44 = .ok (.invokevirtual 36, 3) := by decide +kernel
theorem dX5_atom_47 : decode cX5_atom 47 = .ok (.aload_n 0, 1) := by decide +kernel
theorem dX5_atom_48 : decode cX5_atom 48 = .ok (.getfield 19, 3) := by decide +kernel
theorem dX5_atom_51 : decode cX5_atom 51 = .ok (.istore_n 2, 1) := by decide +kernel
theorem dX5_atom_52 : decode cX5_atom 52 = .ok (.aload_n 0, 1) := by decide +kernel
theorem dX5_atom_53 : decode cX5_atom 53 = .ok (.invokevirtual 46, 3) := by decide +kernel
theorem dX5_atom_56 : decode cX5_atom 56 = .ok (.istore_n 3, 1) := by decide +kernel
theorem dX5_atom_57 : decode cX5_atom 57 = .ok (.aload_n 0, 1) := by decide +kernel
theorem dX5_atom_58 : decode cX5_atom 58 = .ok (.dup, 1) := by decide +kernel
theorem dX5_atom_59 : decode cX5_atom 59 = .ok (.getfield 19, 3) := by decide +kernel
theorem dX5_atom_62 : decode cX5_atom 62 = .ok (.iconst 1, 1) := by decide +kernel
theorem dX5_atom_63 : decode cX5_atom 63 = .ok (.iadd, 1) := by decide +kernel
theorem dX5_atom_64 : decode cX5_atom 64 = .ok (.putfield 19, 3) := by decide +kernel
theorem dX5_atom_67 : decode cX5_atom 67 = .ok (.aload_n 0, 1) := by decide +kernel
theorem dX5_atom_68 : decode cX5_atom 68 = .ok (.iload_n 1, 1) := by decide +kernel
theorem dX5_atom_69 : decode cX5_atom 69 = .ok (.invokevirtual 80, 3) := by decide +kernel
theorem dX5_atom_72 : decode cX5_atom 72 = .ok (.aload_n 0, 1) := by decide +kernel
theorem dX5_atom_73 : decode cX5_atom 73 = .ok (.getfield 25, 3) := by decide +kernel
theorem dX5_atom_76 : decode cX5_atom 76 = .ok (.iconst 1, 1) := by decide +kernel
theorem dX5_atom_77 : decode cX5_atom 77 = .ok (.iload_n 2, 1) := by decide +kernel
theorem dX5_atom_78 : decode cX5_atom 78 = .ok (.iload_n 3, 1) := by decide +kernel
theorem dX5_atom_79 : decode cX5_atom 79 = .ok (.invokevirtual 63, 3) := by decide +kernel
theorem dX5_atom_82 : decode cX5_atom 82 = .ok (.pop, 1) := by decide +kernel
theorem dX5_atom_83 : decode cX5_atom 83 = .ok (.return_, 1) := by decide +kernel
theorem dX5_expression_0 : decode cX5_expression 0 = .ok (.aload_n 0, 1) := by decide +kernel
theorem dX5_expression_1 : decode cX5_expression 1 = .ok (.iload_n 1, 1) := by decide +kernel
theorem dX5_expression_2 : decode cX5_expression 2 = .ok (.invokevirtual 127, 3) := by decide +kernel
theorem dX5_expression_5 : decode cX5_expression 5 = .ok (.iconst 0, 1) := by decide +kernel
theorem dX5_expression_6 : decode cX5_expression 6 = .ok (.istore_n 2, 1) := by decide +kernel
theorem dX5_expression_7 : decode cX5_expression 7 = .ok (.iload_n 2, 1) := by decide +kernel
theorem dX5_expression_8 : decode cX5_expression 8 = .ok (.bipush 60, 2) := by decide +kernel
theorem dX5_expression_10 : decode cX5_expression 10 = .ok (.if_icmp .ge 56, 3) := by decide +kernel
theorem dX5_expression_13 : decode cX5_expression 13 = .ok (.aload_n 0, 1) := by decide +kernel
theorem dX5_expression_14 : decode cX5_expression 14 = .ok (.ldc 130, 2) := by decide +kernel
theorem dX5_expression_16 : decode cX5_expression 16 = .ok (.invokevirtual 123, 3) := by decide +kernel
theorem dX5_expression_19 : decode cX5_expression 19 = .ok (.ifCond .eq 47, 3) := by decide +kernel
theorem dX5_expression_22 : decode cX5_expression 22 = .ok (.aload_n 0, 1) := by decide +kernel
theorem dX5_expression_23 : decode cX5_expression 23 = .ok (.getfield 19, 3) := by decide +kernel
theorem dX5_expression_26 : decode cX5_expression 26 = .ok (.istore_n 3, 1) := by decide +kernel
theorem dX5_expression_27 : decode cX5_expression 27 = .ok (.aload_n 0, 1) := by decide +kernel
theorem dX5_expression_28 : decode cX5_expression 28 = .ok (.invokevirtual 46, 3) := by decide +kernel
theorem dX5_expression_31 : decode cX5_expression 31 = .ok (.istore 4, 2) := by decide +kernel
theorem dX5_expression_33 : decode cX5_expression 33 = .ok (.aload_n 0, 1) := by decide +kernel
theorem dX5_expression_34 : decode cX5_expression 34 = .ok (.dup, 1) := by decide +kernel
theorem dX5_expression_35 : decode cX5_expression 35 = .ok (.getfield 19, 3) := by decide +kernel
theorem dX5_expression_38 : decode cX5_expression 38 = .ok (.iconst 1, 1) := by decide +kernel
theorem dX5_expression_39 : decode cX5_expression 39 = .ok (.iadd, 1) := by decide +kernel
theorem dX5_expression_40 : decode cX5_expression 40 = .ok (.putfield 19, 3) := by decide +kernel
theorem dX5_expression_43 : decode cX5_expression 43 = .ok (.aload_n 0, 1) := by decide +kernel
theorem dX5_expression_44 : decode cX5_expression 44 = .ok (.iload_n 1, 1) := by decide +kernel
theorem dX5_expression_45 : decode cX5_expression 45 = .ok (.invokevirtual 127, 3) := by decide +kernel
theorem dX5_expression_48 : decode cX5_expression 48 = .ok (.aload_n 0, 1) := by decide +kernel
theorem dX5_expression_49 : decode cX5_expression 49 = .ok (.getfield 25, 3) := by decide +kernel
theorem dX5_expression_52 : decode cX5_expression 52 = .ok (.iconst 0, 1) := by decide +kernel
theorem dX5_expression_53 : decode cX5_expression 53 = .ok (.iload_n 3, 1) := by decide +kernel
theorem dX5_expression_54 : decode cX5_expression 54 = .ok (.iload 4, 2) := by decide +kernel
theorem dX5_expression_56 : decode cX5_expression 56 = .ok (.invokevirtual 63, 3) := by decide +kernel
theorem dX5_expression_59 : decode cX5_expression 59 = .ok (.pop, 1) := by decide +kernel
theorem dX5_expression_60 : decode cX5_expression 60 = .ok (.iinc 2 1, 3) := by decide +kernel
theorem dX5_expression_63 : decode cX5_expression 63 = .ok (.goto (-56), 3) := by decide +kernel
theorem dX5_expression_66 : decode cX5_expression 66 = .ok (.return_, 1) := by decide +kernel
theorem dX5_term_0 : decode cX5_term 0 = .ok (.aload_n 0, 1) := by decide +kernel
theorem dX5_term_1 : decode cX5_term 1 = .ok (.iload_n 1, 1) := by decide +kernel
theorem dX5_term_2 : decode cX5_term 2 = .ok (.invokevirtual 132, 3) := by decide +kernel
theorem dX5_term_5 : decode cX5_term 5 = .ok (.iconst 0, 1) := by decide +kernel
theorem dX5_term_6 : decode cX5_term 6 = .ok (.istore_n 2, 1) := by decide +kernel
theorem dX5_term_7 : decode cX5_term 7 = .ok (.iload_n 2, 1) := by decide +kernel
theorem dX5_term_8 : decode cX5_term 8 = .ok (.bipush 60, 2) := by decide +kernel
theorem dX5_term_10 : decode cX5_term 10 = .ok (.if_icmp .ge 56, 3) := by decide +kernel
theorem dX5_term_13 : decode cX5_term 13 = .ok (.aload_n 0, 1) := by decide +kernel
theorem dX5_term_14 : decode cX5_term 14 = .ok (.ldc 135, 2) := by decide +kernel
theorem dX5_term_16 : decode cX5_term 16 = .ok (.invokevirtual 123, 3) := by decide +kernel
theorem dX5_term_19 : decode cX5_term 19 = .ok (.ifCond .eq 47, 3) := by decide +kernel
theorem dX5_term_22 : decode cX5_term 22 = .ok (.aload_n 0, 1) := by decide +kernel
theorem dX5_term_23 : decode cX5_term 23 = .ok (.getfield 19, 3) := by decide +kernel
theorem dX5_term_26 : decode cX5_term 26 = .ok (.istore_n 3, 1) := by decide +kernel
theorem dX5_term_27 : decode cX5_term 27 = .ok (.aload_n 0, 1) := by decide +kernel
theorem dX5_term_28 : decode cX5_term 28 = .ok (.invokevirtual 46, 3) := by decide +kernel
theorem dX5_term_31 : decode cX5_term 31 = .ok (.istore 4, 2) := by decide +kernel
theorem dX5_term_33 : decode cX5_term 33 = .ok (.aload_n 0, 1) := by decide +kernel
theorem dX5_term_34 : decode cX5_term 34 = .ok (.dup, 1) := by decide +kernel
theorem dX5_term_35 : decode cX5_term 35 = .ok (.getfield 19, 3) := by decide +kernel
theorem dX5_term_38 : decode cX5_term 38 = .ok (.iconst 1, 1) := by decide +kernel
theorem dX5_term_39 : decode cX5_term 39 = .ok (.iadd, 1) := by decide +kernel
theorem dX5_term_40 : decode cX5_term 40 = .ok (.putfield 19, 3) := by decide +kernel
theorem dX5_term_43 : decode cX5_term 43 = .ok (.aload_n 0, 1) := by decide +kernel
theorem dX5_term_44 : decode cX5_term 44 = .ok (.iload_n 1, 1) := by decide +kernel
theorem dX5_term_45 : decode cX5_term 45 = .ok (.invokevirtual 132, 3) := by decide +kernel
theorem dX5_term_48 : decode cX5_term 48 = .ok (.aload_n 0, 1) := by decide +kernel
theorem dX5_term_49 : decode cX5_term 49 = .ok (.getfield 25, 3) := by decide +kernel
theorem dX5_term_52 : decode cX5_term 52 = .ok (.iconst 0, 1) := by decide +kernel
theorem dX5_term_53 : decode cX5_term 53 = .ok (.iload_n 3, 1) := by decide +kernel
theorem dX5_term_54 : decode cX5_term 54 = .ok (.iload 4, 2) := by decide +kernel
theorem dX5_term_56 : decode cX5_term 56 = .ok (.invokevirtual 63, 3) := by decide +kernel
theorem dX5_term_59 : decode cX5_term 59 = .ok (.pop, 1) := by decide +kernel
theorem dX5_term_60 : decode cX5_term 60 = .ok (.iinc 2 1, 3) := by decide +kernel
theorem dX5_term_63 : decode cX5_term 63 = .ok (.goto (-56), 3) := by decide +kernel
theorem dX5_term_66 : decode cX5_term 66 = .ok (.return_, 1) := by decide +kernel
theorem dX5_factor_0 : decode cX5_factor 0 = .ok (.aload_n 0, 1) := by decide +kernel
theorem dX5_factor_1 : decode cX5_factor 1 = .ok (.invokevirtual 46, 3) := by decide +kernel
theorem dX5_factor_4 : decode cX5_factor 4 = .ok (.bipush 40, 2) := by decide +kernel
theorem dX5_factor_6 : decode cX5_factor 6 = .ok (.if_icmp .ne 25, 3) := by decide +kernel
theorem dX5_factor_9 : decode cX5_factor 9 = .ok (.aload_n 0, 1) := by decide +kernel
theorem dX5_factor_10 : decode cX5_factor 10 = .ok (.bipush 40, 2) := by decide +kernel
theorem dX5_factor_12 : decode cX5_factor 12 = .ok (.iload_n 1, 1) := by decide +kernel
theorem dX5_factor_13 : decode cX5_factor 13 = .ok (.invokevirtual 99, 3) := by decide +kernel
theorem dX5_factor_16 : decode cX5_factor 16 = .ok (.istore_n 2, 1) := by decide +kernel
theorem dX5_factor_17 : decode cX5_factor 17 = .ok (.aload_n 0, 1) := by decide +kernel
theorem dX5_factor_18 : decode cX5_factor 18 = .ok (.iload_n 2, 1) := by decide +kernel
theorem dX5_factor_19 : decode cX5_factor 19 = .ok (.invokevirtual 80, 3) := by decide +kernel
theorem dX5_factor_22 : decode cX5_factor 22 = .ok (.aload_n 0, 1) := by decide +kernel
theorem dX5_factor_23 : decode cX5_factor 23 = .ok (.bipush 41, 2) := by decide +kernel
theorem dX5_factor_25 : decode cX5_factor 25 = .ok (.invokevirtual 56, 3) := by decide +kernel
theorem dX5_factor_28 : decode cX5_factor 28 = .ok (.goto 36, 3) := by decide +kernel
theorem dX5_factor_31 : decode cX5_factor 31 = .ok (.aload_n 0, 1) := by decide +kernel
theorem dX5_factor_32 : decode cX5_factor 32 = .ok (.invokevirtual 137, 3) := by decide +kernel
theorem dX5_factor_35 : decode cX5_factor 35 = .ok (.ifCond .eq 10, 3) := by decide +kernel
theorem dX5_factor_38 : decode cX5_factor 38 = .ok (.aload_n 0, 1) := by decide +kernel
theorem dX5_factor_39 : decode cX5_factor 39 = .ok (.invokevirtual 141, 3) := by decide +kernel
theorem dX5_factor_42 : decode cX5_factor 42 = .ok (.goto 22, 3) := by decide +kernel
theorem dX5_factor_45 : decode cX5_factor 45 = .ok (.aload_n 0, 1) := by decide +kernel
theorem dX5_factor_46 : decode cX5_factor 46 = .ok (.getfield 19, 3) := by decide +kernel
theorem dX5_factor_49 : decode cX5_factor 49 = .ok (.istore_n 2, 1) := by decide +kernel
theorem dX5_factor_50 : decode cX5_factor 50 = .ok (.aload_n 0, 1) := by decide +kernel
theorem dX5_factor_51 : decode cX5_factor 51 = .ok (.getfield 25, 3) := by decide +kernel
theorem dX5_factor_54 : decode cX5_factor 54 = .ok (.iconst 5, 1) := by decide +kernel
theorem dX5_factor_55 : decode cX5_factor 55 = .ok (.iload_n 2, 1) := by decide +kernel
theorem dX5_factor_56 : decode cX5_factor 56 = .ok (.aload_n 0, 1) := by decide +kernel
theorem dX5_factor_57 : decode cX5_factor 57 = .ok (.invokevirtual 89, 3) := by decide +kernel
theorem dX5_factor_60 : decode cX5_factor 60 = .ok (.invokevirtual 63, 3) := by decide +kernel
theorem dX5_factor_63 : decode cX5_factor 63 = .ok (.pop, 1) := by decide +kernel
theorem dX5_factor_64 : decode cX5_factor 64 = .ok (.return_, 1) := by decide +kernel
theorem dX5_nextIsDigit_0 : decode cX5_nextIsDigit 0 = .ok (.aload_n 0, 1) := by decide +kernel
theorem dX5_nextIsDigit_1 : decode cX5_nextIsDigit 1 = .ok (.invokevirtual 46, 3) := by decide +kernel
theorem dX5_nextIsDigit_4 : decode cX5_nextIsDigit 4 = .ok (.bipush 48, 2) := by decide +kernel
theorem dX5_nextIsDigit_6 : decode cX5_nextIsDigit 6 = .ok (.if_icmp .lt 16, 3) := by decide +kernel
theorem dX5_nextIsDigit_9 : decode cX5_nextIsDigit 9 = .ok (.aload_n 0, 1) := by decide +kernel
theorem dX5_nextIsDigit_10 : decode cX5_nextIsDigit 10 = .ok (.invokevirtual 46, 3) := by decide +kernel
theorem dX5_nextIsDigit_13 : decode cX5_nextIsDigit 13 = .ok (.bipush 57, 2) := by decide +kernel
theorem dX5_nextIsDigit_15 : decode cX5_nextIsDigit 15 = .ok (.if_icmp .gt 7, 3) := by decide +kernel
theorem dX5_nextIsDigit_18 : decode cX5_nextIsDigit 18 = .ok (.iconst 1, 1) := by decide +kernel
theorem dX5_nextIsDigit_19 : decode cX5_nextIsDigit 19 = .ok (.goto 4, 3) := by decide +kernel
theorem dX5_nextIsDigit_22 : decode cX5_nextIsDigit 22 = .ok (.iconst 0, 1) := by decide +kernel
theorem dX5_nextIsDigit_23 : decode cX5_nextIsDigit 23 = .ok (.ireturn, 1) := by decide +kernel
theorem dX5_constant_0 : decode cX5_constant 0 = .ok (.aload_n 0, 1) := by decide +kernel
theorem dX5_constant_1 : decode cX5_constant 1 = .ok (.getfield 19, 3) := by decide +kernel
theorem dX5_constant_4 : decode cX5_constant 4 = .ok (.istore_n 1, 1) := by decide +kernel
theorem dX5_constant_5 : decode cX5_constant 5 = .ok (.aload_n 0, 1) := by decide +kernel
theorem dX5_constant_6 : decode cX5_constant 6 = .ok (.invokevirtual 46, 3) := by decide +kernel
theorem dX5_constant_9 : decode cX5_constant 9 = .ok (.bipush 48, 2) := by decide +kernel
theorem dX5_constant_11 : decode cX5_constant 11 = .ok (.isub, 1) := by decide +kernel
theorem dX5_constant_12 : decode cX5_constant 12 = .ok (.istore_n 2, 1) := by decide +kernel
theorem dX5_constant_13 : decode cX5_constant 13 = .ok (.aload_n 0, 1) := by decide +kernel
theorem dX5_constant_14 : decode cX5_constant 14 = .ok (.dup, 1) := by decide +kernel
theorem dX5_constant_15 : decode cX5_constant 15 = .ok (.getfield 19, 3) := by decide +kernel
theorem dX5_constant_18 : decode cX5_constant 18 = .ok (.iconst 1, 1) := by decide +kernel
theorem dX5_constant_19 : decode cX5_constant 19 = .ok (.iadd, 1) := by decide +kernel
theorem dX5_constant_20 : decode cX5_constant 20 = .ok (.putfield 19, 3) := by decide +kernel
theorem dX5_constant_23 : decode cX5_constant 23 = .ok (.iload_n 2, 1) := by decide +kernel
theorem dX5_constant_24 : decode cX5_constant 24 = .ok (.ifCond .eq 33, 3) := by decide +kernel
theorem dX5_constant_27 : decode cX5_constant 27 = .ok (.aload_n 0, 1) := by decide +kernel
theorem dX5_constant_28 : decode cX5_constant 28 = .ok (.invokevirtual 137, 3) := by decide +kernel
theorem dX5_constant_31 : decode cX5_constant 31 = .ok (.ifCond .eq 26, 3) := by decide +kernel
theorem dX5_constant_34 : decode cX5_constant 34 = .ok (.iload_n 2, 1) := by decide +kernel
theorem dX5_constant_35 : decode cX5_constant 35 = .ok (.bipush 10, 2) := by decide +kernel
theorem dX5_constant_37 : decode cX5_constant 37 = .ok (.imul, 1) := by decide +kernel
theorem dX5_constant_38 : decode cX5_constant 38 = .ok (.aload_n 0, 1) := by decide +kernel
theorem dX5_constant_39 : decode cX5_constant 39 = .ok (.invokevirtual 46, 3) := by decide +kernel
theorem dX5_constant_42 : decode cX5_constant 42 = .ok (.iadd, 1) := by decide +kernel
theorem dX5_constant_43 : decode cX5_constant 43 = .ok (.bipush 48, 2) := by decide +kernel
theorem dX5_constant_45 : decode cX5_constant 45 = .ok (.isub, 1) := by decide +kernel
theorem dX5_constant_46 : decode cX5_constant 46 = .ok (.istore_n 2, 1) := by decide +kernel
theorem dX5_constant_47 : decode cX5_constant 47 = .ok (.aload_n 0, 1) := by decide +kernel
theorem dX5_constant_48 : decode cX5_constant 48 = .ok (.dup, 1) := by decide +kernel
theorem dX5_constant_49 : decode cX5_constant 49 = .ok (.getfield 19, 3) := by decide +kernel
theorem dX5_constant_52 : decode cX5_constant 52 = .ok (.iconst 1, 1) := by decide +kernel
theorem dX5_constant_53 : decode cX5_constant 53 = .ok (.iadd, 1) := by decide +kernel
theorem dX5_constant_54 : decode cX5_constant 54 = .ok (.putfield 19, 3) := by decide +kernel
theorem dX5_constant_57 : decode cX5_constant 57 = .ok (.aload_n 0, 1) := by decide +kernel
theorem dX5_constant_58 : decode cX5_constant 58 = .ok (.getfield 25, 3) := by decide +kernel
theorem dX5_constant_61 : decode cX5_constant 61 = .ok (.iconst 3, 1) := by decide +kernel
theorem dX5_constant_62 : decode cX5_constant 62 = .ok (.iload_n 1, 1) := by decide +kernel
theorem dX5_constant_63 : decode cX5_constant 63 = .ok (.iload_n 2, 1) := by decide +kernel
theorem dX5_constant_64 : decode cX5_constant 64 = .ok (.invokevirtual 63, 3) := by decide +kernel
theorem dX5_constant_67 : decode cX5_constant 67 = .ok (.pop, 1) := by decide +kernel
theorem dX5_constant_68 : decode cX5_constant 68 = .ok (.return_, 1) := by decide +kernel
theorem dX5_slot_0 : decode cX5_slot 0 = .ok (.aload_n 0, 1) := by decide +kernel
theorem dX5_slot_1 : decode cX5_slot 1 = .ok (.ldc 144, 2) := by decide +kernel
theorem dX5_slot_3 : decode cX5_slot 3 = .ok (.invokevirtual 123, 3) := by decide +kernel
theorem dX5_slot_6 : decode cX5_slot 6 = .ok (.ifCond .ne 7, 3) := by decide +kernel
theorem dX5_slot_9 : decode cX5_slot 9 = .ok (.aload_n 0, 1) := by decide +kernel
theorem dX5_slot_10 : decode cX5_slot 10 = .ok (.invokevirtual 36, 3) := by decide +kernel
theorem dX5_slot_13 : decode cX5_slot 13 = .ok (.ldc 144, 2) := by decide +kernel
theorem dX5_slot_15 : decode cX5_slot 15 = .ok (.aload_n 0, 1) := by decide +kernel
theorem dX5_slot_16 : decode cX5_slot 16 = .ok (.invokevirtual 46, 3) := by decide +kernel
theorem dX5_slot_19 : decode cX5_slot 19 = .ok (.i2c, 1) := by decide +kernel
theorem dX5_slot_20 : decode cX5_slot 20 = .ok (.invokevirtual 50, 3) := by decide +kernel
theorem dX5_slot_23 : decode cX5_slot 23 = .ok (.istore_n 1, 1) := by decide +kernel
theorem dX5_slot_24 : decode cX5_slot 24 = .ok (.aload_n 0, 1) := by decide +kernel
theorem dX5_slot_25 : decode cX5_slot 25 = .ok (.dup, 1) := by decide +kernel
theorem dX5_slot_26 : decode cX5_slot 26 = .ok (.getfield 19, 3) := by decide +kernel
theorem dX5_slot_29 : decode cX5_slot 29 = .ok (.iconst 1, 1) := by decide +kernel
theorem dX5_slot_30 : decode cX5_slot 30 = .ok (.iadd, 1) := by decide +kernel
theorem dX5_slot_31 : decode cX5_slot 31 = .ok (.putfield 19, 3) := by decide +kernel
theorem dX5_slot_34 : decode cX5_slot 34 = .ok (.iload_n 1, 1) := by decide +kernel
theorem dX5_slot_35 : decode cX5_slot 35 = .ok (.ireturn, 1) := by decide +kernel
theorem dX6_init_0 : decode cX6_init 0 = .ok (.aload_n 0, 1) := by decide +kernel
theorem dX6_init_1 : decode cX6_init 1 = .ok (.invokespecial 5, 3) := by decide +kernel
theorem dX6_init_4 : decode cX6_init 4 = .ok (.aload_n 0, 1) := by decide +kernel
theorem dX6_init_5 : decode cX6_init 5 = .ok (.sipush 18755, 3) := by decide +kernel
theorem dX6_init_8 : decode cX6_init 8 = .ok (.newarray .int, 2) := by decide +kernel
theorem dX6_init_10 : decode cX6_init 10 = .ok (.putfield 13, 3) := by decide +kernel
theorem dX6_init_13 : decode cX6_init 13 = .ok (.aload_n 0, 1) := by decide +kernel
theorem dX6_init_14 : decode cX6_init 14 = .ok (.sipush 18755, 3) := by decide +kernel
theorem dX6_init_17 : decode cX6_init 17 = .ok (.newarray .int, 2) := by decide +kernel
theorem dX6_init_19 : decode cX6_init 19 = .ok (.putfield 17, 3) := by decide +kernel
theorem dX6_init_22 : decode cX6_init 22 = .ok (.aload_n 0, 1) := by decide +kernel
theorem dX6_init_23 : decode cX6_init 23 = .ok (.sipush 18755, 3) := by decide +kernel
theorem dX6_init_26 : decode cX6_init 26 = .ok (.newarray .int, 2) := by decide +kernel
theorem dX6_init_28 : decode cX6_init 28 = .ok (.putfield 20, 3) := by decide +kernel
theorem dX6_init_31 : decode cX6_init 31 = .ok (.aload_n 0, 1) := by decide +kernel
theorem dX6_init_32 : decode cX6_init 32 = .ok (.sipush 18755, 3) := by decide +kernel
theorem dX6_init_35 : decode cX6_init 35 = .ok (.newarray .int, 2) := by decide +kernel
theorem dX6_init_37 : decode cX6_init 37 = .ok (.putfield 23, 3) := by decide +kernel
theorem dX6_init_40 : decode cX6_init 40 = .ok (.aload_n 0, 1) := by decide +kernel
theorem dX6_init_41 : decode cX6_init 41 = .ok (.sipush 18755, 3) := by decide +kernel
theorem dX6_init_44 : decode cX6_init 44 = .ok (.newarray .int, 2) := by decide +kernel
theorem dX6_init_46 : decode cX6_init 46 = .ok (.putfield 26, 3) := by decide +kernel
theorem dX6_init_49 : decode cX6_init 49 = .ok (.aload_n 0, 1) := by decide +kernel
theorem dX6_init_50 : decode cX6_init 50 = .ok (.sipush 4096, 3) := by decide +kernel
theorem dX6_init_53 : decode cX6_init 53 = .ok (.newarray .int, 2) := by decide +kernel
theorem dX6_init_55 : decode cX6_init 55 = .ok (.putfield 29, 3) := by decide +kernel
theorem dX6_init_58 : decode cX6_init 58 = .ok (.aload_n 0, 1) := by decide +kernel
theorem dX6_init_59 : decode cX6_init 59 = .ok (.iconst 4, 1) := by decide +kernel
theorem dX6_init_60 : decode cX6_init 60 = .ok (.putfield 32, 3) := by decide +kernel
theorem dX6_init_63 : decode cX6_init 63 = .ok (.return_, 1) := by decide +kernel
theorem dX6_clear_0 : decode cX6_clear 0 = .ok (.aload_n 0, 1) := by decide +kernel
theorem dX6_clear_1 : decode cX6_clear 1 = .ok (.getfield 29, 3) := by decide +kernel
theorem dX6_clear_4 : decode cX6_clear 4 = .ok (.iconst 0, 1) := by decide +kernel
theorem dX6_clear_5 : decode cX6_clear 5 = .ok (.invokestatic 36, 3) := by decide +kernel
theorem dX6_clear_8 : decode cX6_clear 8 = .ok (.aload_n 0, 1) := by decide +kernel
theorem dX6_clear_9 : decode cX6_clear 9 = .ok (.iconst 4, 1) := by decide +kernel
theorem dX6_clear_10 : decode cX6_clear 10 = .ok (.putfield 32, 3) := by decide +kernel
theorem dX6_clear_13 : decode cX6_clear 13 = .ok (.return_, 1) := by decide +kernel
theorem dX6_of_0 : decode cX6_of 0 = .ok (.iload_n 1, 1) := by decide +kernel
theorem dX6_of_1 : decode cX6_of 1 = .ok (.iload_n 2, 1) := by decide +kernel
theorem dX6_of_2 : decode cX6_of 2 = .ok (.iload_n 3, 1) := by decide +kernel
theorem dX6_of_3 : decode cX6_of 3 = .ok (.iload 4, 2) := by decide +kernel
theorem dX6_of_5 : decode cX6_of 5 = .ok (.invokestatic 42, 3) := by decide +kernel
theorem dX6_of_8 : decode cX6_of 8 = .ok (.istore 5, 2) := by decide +kernel
theorem dX6_of_10 : decode cX6_of 10 = .ok (.aload_n 0, 1) := by decide +kernel
theorem dX6_of_11 : decode cX6_of 11 = .ok (.getfield 29, 3) := by decide +kernel
theorem dX6_of_14 : decode cX6_of 14 = .ok (.iload 5, 2) := by decide +kernel
theorem dX6_of_16 : decode cX6_of 16 = .ok (.iaload, 1) := by decide +kernel
theorem dX6_of_17 : decode cX6_of 17 = .ok (.istore 6, 2) := by decide +kernel
theorem dX6_of_19 : decode cX6_of 19 = .ok (.iconst 0, 1) := by decide +kernel
theorem dX6_of_20 : decode cX6_of 20 = .ok (.istore 7, 2) := by decide +kernel
theorem dX6_of_22 : decode cX6_of 22 = .ok (.iload 7, 2) := by decide +kernel
theorem dX6_of_24 : decode cX6_of 24 = .ok (.aload_n 0, 1) := by decide +kernel
theorem dX6_of_25 : decode cX6_of 25 = .ok (.getfield 32, 3) := by decide +kernel
theorem dX6_of_28 : decode cX6_of 28 = .ok (.if_icmp .ge 71, 3) := by decide +kernel
theorem dX6_of_31 : decode cX6_of 31 = .ok (.iload 6, 2) := by decide +kernel
theorem dX6_of_33 : decode cX6_of 33 = .ok (.ifCond .eq 66, 3) := by decide +kernel
theorem dX6_of_36 : decode cX6_of 36 = .ok (.aload_n 0, 1) := by decide +kernel
theorem dX6_of_37 : decode cX6_of 37 = .ok (.getfield 13, 3) := by decide +kernel
theorem dX6_of_40 : decode cX6_of 40 = .ok (.iload 6, 2) := by decide +kernel
theorem dX6_of_42 : decode cX6_of 42 = .ok (.iaload, 1) := by decide +kernel
theorem dX6_of_43 : decode cX6_of 43 = .ok (.iload_n 1, 1) := by decide +kernel
theorem dX6_of_44 : decode cX6_of 44 = .ok (.if_icmp .ne 40, 3) := by decide +kernel
theorem dX6_of_47 : decode cX6_of 47 = .ok (.aload_n 0, 1) := by decide +kernel
theorem dX6_of_48 : decode cX6_of 48 = .ok (.getfield 17, 3) := by decide +kernel
theorem dX6_of_51 : decode cX6_of 51 = .ok (.iload 6, 2) := by decide +kernel
theorem dX6_of_53 : decode cX6_of 53 = .ok (.iaload, 1) := by decide +kernel
theorem dX6_of_54 : decode cX6_of 54 = .ok (.iload_n 2, 1) := by decide +kernel
theorem dX6_of_55 : decode cX6_of 55 = .ok (.if_icmp .ne 29, 3) := by decide +kernel
theorem dX6_of_58 : decode cX6_of 58 = .ok (.aload_n 0, 1) := by decide +kernel
theorem dX6_of_59 : decode cX6_of 59 = .ok (.getfield 20, 3) := by decide +kernel
theorem dX6_of_62 : decode cX6_of 62 = .ok (.iload 6, 2) := by decide +kernel
theorem dX6_of_64 : decode cX6_of 64 = .ok (.iaload, 1) := by decide +kernel
theorem dX6_of_65 : decode cX6_of 65 = .ok (.iload_n 3, 1) := by decide +kernel
theorem dX6_of_66 : decode cX6_of 66 = .ok (.if_icmp .ne 18, 3) := by decide +kernel
theorem dX6_of_69 : decode cX6_of 69 = .ok (.aload_n 0, 1) := by decide +kernel
theorem dX6_of_70 : decode cX6_of 70 = .ok (.getfield 23, 3) := by decide +kernel
theorem dX6_of_73 : decode cX6_of 73 = .ok (.iload 6, 2) := by decide +kernel
theorem dX6_of_75 : decode cX6_of 75 = .ok (.iaload, 1) := by decide +kernel
theorem dX6_of_76 : decode cX6_of 76 = .ok (.iload 4, 2) := by decide +kernel
theorem dX6_of_78 : decode cX6_of 78 = .ok (.if_icmp .ne 6, 3) := by decide +kernel
theorem dX6_of_81 : decode cX6_of 81 = .ok (.iload 6, 2) := by decide +kernel
theorem dX6_of_83 : decode cX6_of 83 = .ok (.ireturn, 1) := by decide +kernel
theorem dX6_of_84 : decode cX6_of 84 = .ok (.aload_n 0, 1) := by decide +kernel
theorem dX6_of_85 : decode cX6_of 85 = .ok (.getfield 26, 3) := by decide +kernel
theorem dX6_of_88 : decode cX6_of 88 = .ok (.iload 6, 2) := by decide +kernel
theorem dX6_of_90 : decode cX6_of 90 = .ok (.iaload, 1) := by decide +kernel
theorem dX6_of_91 : decode cX6_of 91 = .ok (.istore 6, 2) := by decide +kernel
theorem dX6_of_93 : decode cX6_of 93 = .ok (.iinc 7 1, 3) := by decide +kernel
theorem dX6_of_96 : decode cX6_of 96 = .ok (.goto (-74), 3) := by decide +kernel
theorem dX6_of_99 : decode cX6_of 99 = .ok (.aload_n 0, 1) := by decide +kernel
theorem dX6_of_100 : decode cX6_of 100 = .ok (.iload_n 1, 1) := by decide +kernel
theorem dX6_of_101 : decode cX6_of 101 = .ok (.iload_n 2, 1) := by decide +kernel
theorem dX6_of_102 : decode cX6_of 102 = .ok (.iload_n 3, 1) := by decide +kernel
theorem dX6_of_103 : decode cX6_of 103 = .ok (.iload 4, 2) := by decide +kernel
theorem dX6_of_105 : decode cX6_of 105 = .ok (.iload 5, 2) := by decide +kernel
theorem dX6_of_107 : decode cX6_of 107 = .ok (.invokevirtual 46, 3) := by decide +kernel
theorem dX6_of_110 : decode cX6_of 110 = .ok (.ireturn, 1) := by decide +kernel
theorem dX6_chainOf_0 : decode cX6_chainOf 0 = .ok (.iload_n 0, 1) := by decide +kernel
theorem dX6_chainOf_1 : decode cX6_chainOf 1 = .ok (.bipush 31, 2) := by decide +kernel
theorem dX6_chainOf_3 : decode cX6_chainOf 3 = .ok (.imul, 1) := by decide +kernel
theorem dX6_chainOf_4 : decode cX6_chainOf 4 = .ok (.iload_n 1, 1) := by decide +kernel
theorem dX6_chainOf_5 : decode cX6_chainOf 5 = .ok (.iadd, 1) := by decide +kernel
theorem dX6_chainOf_6 : decode cX6_chainOf 6 = .ok (.sipush 1009, 3) := by decide +kernel
theorem dX6_chainOf_9 : decode cX6_chainOf 9 = .ok (.imul, 1) := by decide +kernel
theorem dX6_chainOf_10 : decode cX6_chainOf 10 = .ok (.iload_n 2, 1) := by decide +kernel
theorem dX6_chainOf_11 : decode cX6_chainOf 11 = .ok (.iadd, 1) := by decide +kernel
theorem dX6_chainOf_12 : decode cX6_chainOf 12 = .ok (.sipush 1013, 3) := by decide +kernel
theorem dX6_chainOf_15 : decode cX6_chainOf 15 = .ok (.imul, 1) := by decide +kernel
theorem dX6_chainOf_16 : decode cX6_chainOf 16 = .ok (.iload_n 3, 1) := by decide +kernel
theorem dX6_chainOf_17 : decode cX6_chainOf 17 = .ok (.iadd, 1) := by decide +kernel
theorem dX6_chainOf_18 : decode cX6_chainOf 18 = .ok (.istore 4, 2) := by decide +kernel
theorem dX6_chainOf_20 : decode cX6_chainOf 20 = .ok (.iload 4, 2) := by decide +kernel
theorem dX6_chainOf_22 : decode cX6_chainOf 22 = .ok (.iload 4, 2) := by decide +kernel
theorem dX6_chainOf_24 : decode cX6_chainOf 24 = .ok (.bipush 12, 2) := by decide +kernel
theorem dX6_chainOf_26 : decode cX6_chainOf 26 = .ok (.iushr, 1) := by decide +kernel
theorem dX6_chainOf_27 : decode cX6_chainOf 27 = .ok (.ixor, 1) := by decide +kernel
theorem dX6_chainOf_28 : decode cX6_chainOf 28 = .ok (.iload 4, 2) := by decide +kernel
theorem dX6_chainOf_30 : decode cX6_chainOf 30 = .ok (.bipush 24, 2) := by decide +kernel
theorem dX6_chainOf_32 : decode cX6_chainOf 32 = .ok (.iushr, 1) := by decide +kernel
theorem dX6_chainOf_33 : decode cX6_chainOf 33 = .ok (.ixor, 1) := by decide +kernel
theorem dX6_chainOf_34 : decode cX6_chainOf 34 = .ok (.sipush 4095, 3) := by decide +kernel
theorem dX6_chainOf_37 : decode cX6_chainOf 37 = .ok (.iand, 1) := by decide +kernel
theorem dX6_chainOf_38 : decode cX6_chainOf 38 = .ok (.ireturn, 1) := by decide +kernel
theorem dX6_add_0 : decode cX6_add 0 = .ok (.aload_n 0, 1) := by decide +kernel
theorem dX6_add_1 : decode cX6_add 1 = .ok (.getfield 32, 3) := by decide +kernel
theorem dX6_add_4 : decode cX6_add 4 = .ok (.sipush 18755, 3) := by decide +kernel
theorem dX6_add_7 : decode cX6_add 7 = .ok (.if_icmp .ne 5, 3) := by decide +kernel
theorem dX6_add_10 : decode cX6_add 10 = .ok (.iconst 0, 1) := by decide +kernel
theorem dX6_add_11 : decode cX6_add 11 = .ok (.ireturn, 1) := by decide +kernel
theorem dX6_add_12 : decode cX6_add 12 = .ok (.aload_n 0, 1) := by decide +kernel
theorem dX6_add_13 : decode cX6_add 13 = .ok (.getfield 32, 3) := by decide +kernel
theorem dX6_add_16 : decode cX6_add 16 = .ok (.istore 6, 2) := by decide +kernel
theorem dX6_add_18 : decode cX6_add 18 = .ok (.aload_n 0, 1) := by decide +kernel
theorem dX6_add_19 : decode cX6_add 19 = .ok (.dup, 1) := by decide +kernel
theorem dX6_add_20 : decode cX6_add 20 = .ok (.getfield 32, 3) := by decide +kernel
theorem dX6_add_23 : decode cX6_add 23 = .ok (.iconst 1, 1) := by decide +kernel
theorem dX6_add_24 : decode cX6_add 24 = .ok (.iadd, 1) := by decide +kernel
theorem dX6_add_25 : decode cX6_add 25 = .ok (.putfield 32, 3) := by decide +kernel
theorem dX6_add_28 : decode cX6_add 28 = .ok (.aload_n 0, 1) := by decide +kernel
theorem dX6_add_29 : decode cX6_add 29 = .ok (.getfield 13, 3) := by decide +kernel
theorem dX6_add_32 : decode cX6_add 32 = .ok (.iload 6, 2) := by decide +kernel
theorem dX6_add_34 : decode cX6_add 34 = .ok (.iload_n 1, 1) := by decide +kernel
theorem dX6_add_35 : decode cX6_add 35 = .ok (.iastore, 1) := by decide +kernel
theorem dX6_add_36 : decode cX6_add 36 = .ok (.aload_n 0, 1) := by decide +kernel
theorem dX6_add_37 : decode cX6_add 37 = .ok (.getfield 17, 3) := by decide +kernel
theorem dX6_add_40 : decode cX6_add 40 = .ok (.iload 6, 2) := by decide +kernel
theorem dX6_add_42 : decode cX6_add 42 = .ok (.iload_n 2, 1) := by decide +kernel
theorem dX6_add_43 : decode cX6_add 43 = .ok (.iastore, 1) := by decide +kernel
theorem dX6_add_44 : decode cX6_add 44 = .ok (.aload_n 0, 1) := by decide +kernel
theorem dX6_add_45 : decode cX6_add 45 = .ok (.getfield 20, 3) := by decide +kernel
theorem dX6_add_48 : decode cX6_add 48 = .ok (.iload 6, 2) := by decide +kernel
theorem dX6_add_50 : decode cX6_add 50 = .ok (.iload_n 3, 1) := by decide +kernel
theorem dX6_add_51 : decode cX6_add 51 = .ok (.iastore, 1) := by decide +kernel
theorem dX6_add_52 : decode cX6_add 52 = .ok (.aload_n 0, 1) := by decide +kernel
theorem dX6_add_53 : decode cX6_add 53 = .ok (.getfield 23, 3) := by decide +kernel
theorem dX6_add_56 : decode cX6_add 56 = .ok (.iload 6, 2) := by decide +kernel
theorem dX6_add_58 : decode cX6_add 58 = .ok (.iload 4, 2) := by decide +kernel
theorem dX6_add_60 : decode cX6_add 60 = .ok (.iastore, 1) := by decide +kernel
theorem dX6_add_61 : decode cX6_add 61 = .ok (.aload_n 0, 1) := by decide +kernel
theorem dX6_add_62 : decode cX6_add 62 = .ok (.getfield 26, 3) := by decide +kernel
theorem dX6_add_65 : decode cX6_add 65 = .ok (.iload 6, 2) := by decide +kernel
theorem dX6_add_67 : decode cX6_add 67 = .ok (.aload_n 0, 1) := by decide +kernel
theorem dX6_add_68 : decode cX6_add 68 = .ok (.getfield 29, 3) := by decide +kernel
theorem dX6_add_71 : decode cX6_add 71 = .ok (.iload 5, 2) := by decide +kernel
theorem dX6_add_73 : decode cX6_add 73 = .ok (.iaload, 1) := by decide +kernel
theorem dX6_add_74 : decode cX6_add 74 = .ok (.iastore, 1) := by decide +kernel
theorem dX6_add_75 : decode cX6_add 75 = .ok (.aload_n 0, 1) := by decide +kernel
theorem dX6_add_76 : decode cX6_add 76 = .ok (.getfield 29, 3) := by decide +kernel
theorem dX6_add_79 : decode cX6_add 79 = .ok (.iload 5, 2) := by decide +kernel
theorem dX6_add_81 : decode cX6_add 81 = .ok (.iload 6, 2) := by decide +kernel
theorem dX6_add_83 : decode cX6_add 83 = .ok (.iastore, 1) := by decide +kernel
theorem dX6_add_84 : decode cX6_add 84 = .ok (.iload 6, 2) := by decide +kernel
theorem dX6_add_86 : decode cX6_add 86 = .ok (.ireturn, 1) := by decide +kernel
theorem dX6_constant_0 : decode cX6_constant 0 = .ok (.aload_n 0, 1) := by decide +kernel
theorem dX6_constant_1 : decode cX6_constant 1 = .ok (.iconst 1, 1) := by decide +kernel
theorem dX6_constant_2 : decode cX6_constant 2 = .ok (.iload_n 1, 1) := by decide +kernel
theorem dX6_constant_3 : decode cX6_constant 3 = .ok (.iconst 0, 1) := by decide +kernel
theorem dX6_constant_4 : decode cX6_constant 4 = .ok (.iconst 0, 1) := by decide +kernel
theorem dX6_constant_5 : decode cX6_constant 5 = .ok (.invokevirtual 50, 3) := by decide +kernel
theorem dX6_constant_8 : decode cX6_constant 8 = .ok (.ireturn, 1) := by decide +kernel
theorem dX6_isConstant_0 : decode cX6_isConstant 0 = .ok (.aload_n 0, 1) := by decide +kernel
theorem dX6_isConstant_1 : decode cX6_isConstant 1 = .ok (.getfield 13, 3) := by decide +kernel
theorem dX6_isConstant_4 : decode cX6_isConstant 4 = .ok (.iload_n 1, 1) := by decide +kernel
theorem dX6_isConstant_5 : decode cX6_isConstant 5 = .ok (.iaload, 1) := by decide +kernel
theorem dX6_isConstant_6 : decode cX6_isConstant 6 = .ok (.iconst 1, 1) := by decide +kernel
theorem dX6_isConstant_7 : decode cX6_isConstant 7 = .ok (.if_icmp .ne 7, 3) := by decide +kernel
theorem dX6_isConstant_10 : decode cX6_isConstant 10 = .ok (.iconst 1, 1) := by decide +kernel
theorem dX6_isConstant_11 : decode cX6_isConstant 11 = .ok (.goto 4, 3) := by decide +kernel
theorem dX6_isConstant_14 : decode cX6_isConstant 14 = .ok (.iconst 0, 1) := by decide +kernel
theorem dX6_isConstant_15 : decode cX6_isConstant 15 = .ok (.ireturn, 1) := by decide +kernel
theorem dX6_isNumber_0 : decode cX6_isNumber 0 = .ok (.aload_n 0, 1) := by decide +kernel
theorem dX6_isNumber_1 : decode cX6_isNumber 1 = .ok (.iload_n 1, 1) := by decide +kernel
theorem dX6_isNumber_2 : decode cX6_isNumber 2 = .ok (.invokevirtual 53, 3) := by decide +kernel
theorem dX6_isNumber_5 : decode cX6_isNumber 5 = .ok (.ifCond .eq 17, 3) := by decide +kernel
theorem dX6_isNumber_8 : decode cX6_isNumber 8 = .ok (.aload_n 0, 1) := by decide +kernel
theorem dX6_isNumber_9 : decode cX6_isNumber 9 = .ok (.getfield 17, 3) := by decide +kernel
theorem dX6_isNumber_12 : decode cX6_isNumber 12 = .ok (.iload_n 1, 1) := by decide +kernel
theorem dX6_isNumber_13 : decode cX6_isNumber 13 = .ok (.iaload, 1) := by decide +kernel
theorem dX6_isNumber_14 : decode cX6_isNumber 14 = .ok (.iload_n 2, 1) := by decide +kernel
theorem dX6_isNumber_15 : decode cX6_isNumber 15 = .ok (.if_icmp .ne 7, 3) := by decide +kernel
theorem dX6_isNumber_18 : decode cX6_isNumber 18 = .ok (.iconst 1, 1) := by decide +kernel
theorem dX6_isNumber_19 : decode cX6_isNumber 19 = .ok (.goto 4, 3) := by decide +kernel
theorem dX6_isNumber_22 : decode cX6_isNumber 22 = .ok (.iconst 0, 1) := by decide +kernel
theorem dX6_isNumber_23 : decode cX6_isNumber 23 = .ok (.ireturn, 1) := by decide +kernel
theorem dX7_init_0 : decode cX7_init 0 = .ok (.aload_n 0, 1) := by decide +kernel
theorem dX7_init_1 : decode cX7_init 1 = .ok (.invokespecial 1, 3) := by decide +kernel
theorem dX7_init_4 : decode cX7_init 4 = .ok (.aload_n 0, 1) := by decide +kernel
theorem dX7_init_5 : decode cX7_init 5 = .ok (.bipush 60, 2) := by decide +kernel
theorem dX7_init_7 : decode cX7_init 7 = .ok (.newarray .char, 2) := by decide +kernel
theorem dX7_init_9 : decode cX7_init 9 = .ok (.putfield 9, 3) := by decide +kernel
theorem dX7_init_12 : decode cX7_init 12 = .ok (.aload_n 0, 1) := by decide +kernel
theorem dX7_init_13 : decode cX7_init 13 = .ok (.iconst 0, 1) := by decide +kernel
theorem dX7_init_14 : decode cX7_init 14 = .ok (.putfield 13, 3) := by decide +kernel
theorem dX7_init_17 : decode cX7_init 17 = .ok (.aload_n 0, 1) := by decide +kernel
theorem dX7_init_18 : decode cX7_init 18 = .ok (.new 17, 3) := by decide +kernel
theorem dX7_init_21 : decode cX7_init 21 = .ok (.dup, 1) := by decide +kernel
theorem dX7_init_22 : decode cX7_init 22 = .ok (.invokespecial 19, 3) := by decide +kernel
theorem dX7_init_25 : decode cX7_init 25 = .ok (.putfield 20, 3) := by decide +kernel
theorem dX7_init_28 : decode cX7_init 28 = .ok (.aload_n 0, 1) := by decide +kernel
theorem dX7_init_29 : decode cX7_init 29 = .ok (.iconst 0, 1) := by decide +kernel
theorem dX7_init_30 : decode cX7_init 30 = .ok (.putfield 24, 3) := by decide +kernel
theorem dX7_init_33 : decode cX7_init 33 = .ok (.aload_n 0, 1) := by decide +kernel
theorem dX7_init_34 : decode cX7_init 34 = .ok (.new 28, 3) := by decide +kernel
theorem dX7_init_37 : decode cX7_init 37 = .ok (.dup, 1) := by decide +kernel
theorem dX7_init_38 : decode cX7_init 38 = .ok (.invokespecial 30, 3) := by decide +kernel
theorem dX7_init_41 : decode cX7_init 41 = .ok (.putfield 31, 3) := by decide +kernel
theorem dX7_init_44 : decode cX7_init 44 = .ok (.aload_n 0, 1) := by decide +kernel
theorem dX7_init_45 : decode cX7_init 45 = .ok (.new 28, 3) := by decide +kernel
theorem dX7_init_48 : decode cX7_init 48 = .ok (.dup, 1) := by decide +kernel
theorem dX7_init_49 : decode cX7_init 49 = .ok (.invokespecial 30, 3) := by decide +kernel
theorem dX7_init_52 : decode cX7_init 52 = .ok (.putfield 35, 3) := by decide +kernel
theorem dX7_init_55 : decode cX7_init 55 = .ok (.aload_n 0, 1) := by decide +kernel
theorem dX7_init_56 : decode cX7_init 56 = .ok (.new 38, 3) := by decide +kernel
theorem dX7_init_59 : decode cX7_init 59 = .ok (.dup, 1) := by decide +kernel
theorem dX7_init_60 : decode cX7_init 60 = .ok (.invokespecial 40, 3) := by decide +kernel
theorem dX7_init_63 : decode cX7_init 63 = .ok (.putfield 41, 3) := by decide +kernel
theorem dX7_init_66 : decode cX7_init 66 = .ok (.aload_n 0, 1) := by decide +kernel
theorem dX7_init_67 : decode cX7_init 67 = .ok (.new 45, 3) := by decide +kernel
theorem dX7_init_70 : decode cX7_init 70 = .ok (.dup, 1) := by decide +kernel
theorem dX7_init_71 : decode cX7_init 71 = .ok (.invokespecial 47, 3) := by decide +kernel
theorem dX7_init_74 : decode cX7_init 74 = .ok (.putfield 48, 3) := by decide +kernel
theorem dX7_init_77 : decode cX7_init 77 = .ok (.aload_n 0, 1) := by decide +kernel
theorem dX7_init_78 : decode cX7_init 78 = .ok (.new 52, 3) := by decide +kernel
theorem dX7_init_81 : decode cX7_init 81 = .ok (.dup, 1) := by decide +kernel
theorem dX7_init_82 : decode cX7_init 82 = .ok (.invokespecial 54, 3) := by decide +kernel
theorem dX7_init_85 : decode cX7_init 85 = .ok (.putfield 55, 3) := by decide +kernel
theorem dX7_init_88 : decode cX7_init 88 = .ok (.aload_n 0, 1) := by decide +kernel
theorem dX7_init_89 : decode cX7_init 89 = .ok (.new 59, 3) := by decide +kernel
theorem dX7_init_92 : decode cX7_init 92 = .ok (.dup, 1) := by decide +kernel
theorem dX7_init_93 : decode cX7_init 93 = .ok (.invokespecial 61, 3) := by decide +kernel
theorem dX7_init_96 : decode cX7_init 96 = .ok (.putfield 62, 3) := by decide +kernel
theorem dX7_init_99 : decode cX7_init 99 = .ok (.aload_n 0, 1) := by decide +kernel
theorem dX7_init_100 : decode cX7_init 100 = .ok (.bipush 20, 2) := by decide +kernel
theorem dX7_init_102 : decode cX7_init 102 = .ok (.putfield 66, 3) := by decide +kernel
theorem dX7_init_105 : decode cX7_init 105 = .ok (.aload_n 0, 1) := by decide +kernel
theorem dX7_init_106 : decode cX7_init 106 = .ok (.iconst 0, 1) := by decide +kernel
theorem dX7_init_107 : decode cX7_init 107 = .ok (.putfield 69, 3) := by decide +kernel
theorem dX7_init_110 : decode cX7_init 110 = .ok (.aload_n 0, 1) := by decide +kernel
theorem dX7_init_111 : decode cX7_init 111 = .ok (.iconst 0, 1) := by decide +kernel
theorem dX7_init_112 : decode cX7_init 112 = .ok (.putfield 72, 3) := by decide +kernel
theorem dX7_init_115 : decode cX7_init 115 = .ok (.return_, 1) := by decide +kernel
theorem dX7_type_0 : decode cX7_type 0 = .ok (.iload_n 1, 1) := by decide +kernel
theorem dX7_type_1 : decode cX7_type 1 = .ok (.bipush 32, 2) := by decide +kernel
theorem dX7_type_3 : decode cX7_type 3 = .ok (.if_icmp .lt 18, 3) := by decide +kernel
theorem dX7_type_6 : decode cX7_type 6 = .ok (.iload_n 1, 1) := by decide +kernel
theorem dX7_type_7 : decode cX7_type 7 = .ok (.bipush 126, 2) := by decide +kernel
theorem dX7_type_9 : decode cX7_type 9 = .ok (.if_icmp .gt 12, 3) := by decide +kernel
theorem dX7_type_12 : decode cX7_type 12 = .ok (.aload_n 0, 1) := by decide +kernel
theorem dX7_type_13 : decode cX7_type 13 = .ok (.getfield 13, 3) := by decide +kernel
theorem dX7_type_16 : decode cX7_type 16 = .ok (.bipush 60, 2) := by decide +kernel
theorem dX7_type_18 : decode cX7_type 18 = .ok (.if_icmp .ne 5, 3) := by decide +kernel
theorem dX7_type_21 : decode cX7_type 21 = .ok (.iconst (-1), 1) := by decide +kernel
theorem dX7_type_22 : decode cX7_type 22 = .ok (.ireturn, 1) := by decide +kernel
theorem dX7_type_23 : decode cX7_type 23 = .ok (.aload_n 0, 1) := by decide +kernel
theorem dX7_type_24 : decode cX7_type 24 = .ok (.getfield 9, 3) := by decide +kernel
theorem dX7_type_27 : decode cX7_type 27 = .ok (.aload_n 0, 1) := by decide +kernel
theorem dX7_type_28 : decode cX7_type 28 = .ok (.getfield 13, 3) := by decide +kernel
theorem dX7_type_31 : decode cX7_type 31 = .ok (.iload_n 1, 1) := by decide +kernel
theorem dX7_type_32 : decode cX7_type 32 = .ok (.castore, 1) := by decide +kernel
theorem dX7_type_33 : decode cX7_type 33 = .ok (.aload_n 0, 1) := by decide +kernel
theorem dX7_type_34 : decode cX7_type 34 = .ok (.dup, 1) := by decide +kernel
theorem dX7_type_35 : decode cX7_type 35 = .ok (.getfield 13, 3) := by decide +kernel
theorem dX7_type_38 : decode cX7_type 38 = .ok (.iconst 1, 1) := by decide +kernel
theorem dX7_type_39 : decode cX7_type 39 = .ok (.iadd, 1) := by decide +kernel
theorem dX7_type_40 : decode cX7_type 40 = .ok (.putfield 13, 3) := by decide +kernel
theorem dX7_type_43 : decode cX7_type 43 = .ok (.aload_n 0, 1) := by decide +kernel
theorem dX7_type_44 : decode cX7_type 44 = .ok (.getfield 13, 3) := by decide +kernel
theorem dX7_type_47 : decode cX7_type 47 = .ok (.ireturn, 1) := by decide +kernel
theorem dX7_wipe_0 : decode cX7_wipe 0 = .ok (.aload_n 0, 1) := by decide +kernel
theorem dX7_wipe_1 : decode cX7_wipe 1 = .ok (.iconst 0, 1) := by decide +kernel
theorem dX7_wipe_2 : decode cX7_wipe 2 = .ok (.putfield 13, 3) := by decide +kernel
theorem dX7_wipe_5 : decode cX7_wipe 5 = .ok (.return_, 1) := by decide +kernel
theorem dX7_compile_0 : decode cX7_compile 0 = .ok (.aload_n 0, 1) := by decide +kernel
theorem dX7_compile_1 : decode cX7_compile 1 = .ok (.getfield 20, 3) := by decide +kernel
theorem dX7_compile_4 : decode cX7_compile 4 = .ok (.aload_n 0, 1) := by decide +kernel
theorem dX7_compile_5 : decode cX7_compile 5 = .ok (.getfield 9, 3) := by decide +kernel
theorem dX7_compile_8 : decode cX7_compile 8 = .ok (.aload_n 0, 1) := by decide +kernel
theorem dX7_compile_9 : decode cX7_compile 9 = .ok (.getfield 13, 3) := by decide +kernel
theorem dX7_compile_12 : decode cX7_compile 12 = .ok (.aload_n 0, 1) := by decide +kernel
theorem dX7_compile_13 : decode cX7_compile 13 = .ok (.getfield 35, 3) := by decide +kernel
theorem dX7_compile_16 : decode cX7_compile 16 = .ok (.invokevirtual 75, 3) := by decide +kernel
theorem dX7_compile_19 : decode cX7_compile 19 = .ok (.aload_n 0, 1) := by decide +kernel
theorem dX7_compile_20 : decode cX7_compile 20 = .ok (.getfield 35, 3) := by decide +kernel
theorem dX7_compile_23 : decode cX7_compile 23 = .ok (.invokestatic 79, 3) := by decide +kernel
theorem dX7_compile_26 : decode cX7_compile 26 = .ok (.bipush 120, 2) := by decide +kernel
theorem dX7_compile_28 : decode cX7_compile 28 = .ok (.if_icmp .le 13, 3) := by decide +kernel
theorem dX7_compile_31 : decode cX7_compile 31 = .ok (.new 83, 3) := by decide +kernel
theorem dX7_compile_34 : decode cX7_compile 34 = .ok (.dup, 1) := by decide +kernel
theorem dX7_compile_35 : decode cX7_compile 35 = .ok (.ldc 85, 2) := by decide +kernel
theorem dX7_compile_37 : decode cX7_compile 37 = .ok (.invokespecial 87, 3) := by decide +kernel
theorem dX7_compile_40 : decode cX7_compile 40 = .ok (.athrow, 1) := by decide +kernel
theorem dX7_compile_41 : decode cX7_compile 41 = .ok (.aload_n 0, 1) := by decide +kernel
theorem dX7_compile_42 : decode cX7_compile 42 = .ok (.getfield 31, 3) := by decide +kernel
theorem dX7_compile_45 : decode cX7_compile 45 = .ok (.astore_n 1, 1) := by decide +kernel
theorem dX7_compile_46 : decode cX7_compile 46 = .ok (.aload_n 0, 1) := by decide +kernel
theorem dX7_compile_47 : decode cX7_compile 47 = .ok (.aload_n 0, 1) := by decide +kernel
theorem dX7_compile_48 : decode cX7_compile 48 = .ok (.getfield 35, 3) := by decide +kernel
theorem dX7_compile_51 : decode cX7_compile 51 = .ok (.putfield 31, 3) := by decide +kernel
theorem dX7_compile_54 : decode cX7_compile 54 = .ok (.aload_n 0, 1) := by decide +kernel
theorem dX7_compile_55 : decode cX7_compile 55 = .ok (.aload_n 1, 1) := by decide +kernel
theorem dX7_compile_56 : decode cX7_compile 56 = .ok (.putfield 35, 3) := by decide +kernel
theorem dX7_compile_59 : decode cX7_compile 59 = .ok (.aload_n 0, 1) := by decide +kernel
theorem dX7_compile_60 : decode cX7_compile 60 = .ok (.iconst 1, 1) := by decide +kernel
theorem dX7_compile_61 : decode cX7_compile 61 = .ok (.putfield 24, 3) := by decide +kernel
theorem dX7_compile_64 : decode cX7_compile 64 = .ok (.aload_n 0, 1) := by decide +kernel
theorem dX7_compile_65 : decode cX7_compile 65 = .ok (.getfield 41, 3) := by decide +kernel
theorem dX7_compile_68 : decode cX7_compile 68 = .ok (.aload_n 0, 1) := by decide +kernel
theorem dX7_compile_69 : decode cX7_compile 69 = .ok (.getfield 31, 3) := by decide +kernel
theorem dX7_compile_72 : decode cX7_compile 72 = .ok (.invokevirtual 90, 3) := by decide +kernel
theorem dX7_compile_75 : decode cX7_compile 75 = .ok (.aload_n 0, 1) := by decide +kernel
theorem dX7_compile_76 : decode cX7_compile 76 = .ok (.getfield 48, 3) := by decide +kernel
theorem dX7_compile_79 : decode cX7_compile 79 = .ok (.aload_n 0, 1) := by decide +kernel
theorem dX7_compile_80 : decode cX7_compile 80 = .ok (.getfield 31, 3) := by decide +kernel
theorem dX7_compile_83 : decode cX7_compile 83 = .ok (.aload_n 0, 1) := by decide +kernel
theorem dX7_compile_84 : decode cX7_compile 84 = .ok (.getfield 41, 3) := by decide +kernel
theorem dX7_compile_87 : decode cX7_compile 87 = .ok (.invokevirtual 94, 3) := by decide +kernel
theorem dX7_compile_90 : decode cX7_compile 90 = .ok (.aload_n 0, 1) := by decide +kernel
theorem dX7_compile_91 : decode cX7_compile 91 = .ok (.getfield 62, 3) := by decide +kernel
theorem dX7_compile_94 : decode cX7_compile 94 = .ok (.invokevirtual 98, 3) := by decide +kernel
theorem dX7_compile_97 : decode cX7_compile 97 = .ok (.aload_n 0, 1) := by decide +kernel
theorem dX7_compile_98 : decode cX7_compile 98 = .ok (.iconst 0, 1) := by decide +kernel
theorem dX7_compile_99 : decode cX7_compile 99 = .ok (.putfield 69, 3) := by decide +kernel
theorem dX7_compile_102 : decode cX7_compile 102 = .ok (.aload_n 0, 1) := by decide +kernel
theorem dX7_compile_103 : decode cX7_compile 103 = .ok (.iconst 0, 1) := by decide +kernel
theorem dX7_compile_104 : decode cX7_compile 104 = .ok (.putfield 72, 3) := by decide +kernel
theorem dX7_compile_107 : decode cX7_compile 107 = .ok (.aload_n 0, 1) := by decide +kernel
theorem dX7_compile_108 : decode cX7_compile 108 = .ok (.getfield 41, 3) := by decide +kernel
theorem dX7_compile_111 : decode cX7_compile 111 = .ok (.getfield 101, 3) := by decide +kernel
theorem dX7_compile_114 : decode cX7_compile 114 = .ok (.ireturn, 1) := by decide +kernel
theorem dX7_mutant_0 : decode cX7_mutant 0 = .ok (.aload_n 0, 1) := by decide +kernel
theorem dX7_mutant_1 : decode cX7_mutant 1 = .ok (.invokevirtual 104, 3) := by decide +kernel
theorem dX7_mutant_4 : decode cX7_mutant 4 = .ok (.aload_n 0, 1) := by decide +kernel
theorem dX7_mutant_5 : decode cX7_mutant 5 = .ok (.iload_n 1, 1) := by decide +kernel
theorem dX7_mutant_6 : decode cX7_mutant 6 = .ok (.iconst 1, 1) := by decide +kernel
theorem dX7_mutant_7 : decode cX7_mutant 7 = .ok (.invokevirtual 107, 3) := by decide +kernel
theorem dX7_mutant_10 : decode cX7_mutant 10 = .ok (.iload_n 2, 1) := by decide +kernel
theorem dX7_mutant_11 : decode cX7_mutant 11 = .ok (.tableswitch 69 0 3 #[29, 39, 49, 59], 29) := by decide +kernel
theorem dX7_mutant_40 : decode cX7_mutant 40 = .ok (.aload_n 0, 1) := by decide +kernel
theorem dX7_mutant_41 : decode cX7_mutant 41 = .ok (.getfield 41, 3) := by decide +kernel
theorem dX7_mutant_44 : decode cX7_mutant 44 = .ok (.getfield 111, 3) := by decide +kernel
theorem dX7_mutant_47 : decode cX7_mutant 47 = .ok (.iload_n 1, 1) := by decide +kernel
theorem dX7_mutant_48 : decode cX7_mutant 48 = .ok (.iaload, 1) := by decide +kernel
theorem dX7_mutant_49 : decode cX7_mutant 49 = .ok (.ireturn, 1) := by decide +kernel
theorem dX7_mutant_50 : decode cX7_mutant 50 = .ok (.aload_n 0, 1) := by decide +kernel
theorem dX7_mutant_51 : decode cX7_mutant 51 = .ok (.getfield 41, 3) := by decide +kernel
theorem dX7_mutant_54 : decode cX7_mutant 54 = .ok (.getfield 115, 3) := by decide +kernel
theorem dX7_mutant_57 : decode cX7_mutant 57 = .ok (.iload_n 1, 1) := by decide +kernel
theorem dX7_mutant_58 : decode cX7_mutant 58 = .ok (.iaload, 1) := by decide +kernel
theorem dX7_mutant_59 : decode cX7_mutant 59 = .ok (.ireturn, 1) := by decide +kernel
theorem dX7_mutant_60 : decode cX7_mutant 60 = .ok (.aload_n 0, 1) := by decide +kernel
theorem dX7_mutant_61 : decode cX7_mutant 61 = .ok (.getfield 41, 3) := by decide +kernel
theorem dX7_mutant_64 : decode cX7_mutant 64 = .ok (.getfield 118, 3) := by decide +kernel
theorem dX7_mutant_67 : decode cX7_mutant 67 = .ok (.iload_n 1, 1) := by decide +kernel
theorem dX7_mutant_68 : decode cX7_mutant 68 = .ok (.iaload, 1) := by decide +kernel
theorem dX7_mutant_69 : decode cX7_mutant 69 = .ok (.ireturn, 1) := by decide +kernel
theorem dX7_mutant_70 : decode cX7_mutant 70 = .ok (.aload_n 0, 1) := by decide +kernel
theorem dX7_mutant_71 : decode cX7_mutant 71 = .ok (.getfield 41, 3) := by decide +kernel
theorem dX7_mutant_74 : decode cX7_mutant 74 = .ok (.getfield 121, 3) := by decide +kernel
theorem dX7_mutant_77 : decode cX7_mutant 77 = .ok (.iload_n 1, 1) := by decide +kernel
theorem dX7_mutant_78 : decode cX7_mutant 78 = .ok (.iaload, 1) := by decide +kernel
theorem dX7_mutant_79 : decode cX7_mutant 79 = .ok (.ireturn, 1) := by decide +kernel
theorem dX7_mutant_80 : decode cX7_mutant 80 = .ok (.new 124, 3) := by decide +kernel
theorem dX7_mutant_83 : decode cX7_mutant 83 = .ok (.dup, 1) := by decide +kernel
theorem dX7_mutant_84 : decode cX7_mutant 84 = .ok (.ldc 126, 2) := by decide +kernel
theorem dX7_mutant_86 : decode cX7_mutant 86 = .ok (.invokespecial 128, 3) := by decide +kernel
theorem dX7_mutant_89 : decode cX7_mutant 89 = .ok (.athrow, 1) := by decide +kernel
theorem dX7_test_0 : decode cX7_test 0 = .ok (.aload_n 0, 1) := by decide +kernel
theorem dX7_test_1 : decode cX7_test 1 = .ok (.invokevirtual 104, 3) := by decide +kernel
theorem dX7_test_4 : decode cX7_test 4 = .ok (.aload_n 0, 1) := by decide +kernel
theorem dX7_test_5 : decode cX7_test 5 = .ok (.getfield 62, 3) := by decide +kernel
theorem dX7_test_8 : decode cX7_test 8 = .ok (.getfield 129, 3) := by decide +kernel
theorem dX7_test_11 : decode cX7_test 11 = .ok (.bipush 8, 2) := by decide +kernel
theorem dX7_test_13 : decode cX7_test 13 = .ok (.if_icmp .ne 13, 3) := by decide +kernel
theorem dX7_test_16 : decode cX7_test 16 = .ok (.new 83, 3) := by decide +kernel
theorem dX7_test_19 : decode cX7_test 19 = .ok (.dup, 1) := by decide +kernel
theorem dX7_test_20 : decode cX7_test 20 = .ok (.ldc 132, 2) := by decide +kernel
theorem dX7_test_22 : decode cX7_test 22 = .ok (.invokespecial 87, 3) := by decide +kernel
theorem dX7_test_25 : decode cX7_test 25 = .ok (.athrow, 1) := by decide +kernel
theorem dX7_test_26 : decode cX7_test 26 = .ok (.aload_n 0, 1) := by decide +kernel
theorem dX7_test_27 : decode cX7_test 27 = .ok (.getfield 62, 3) := by decide +kernel
theorem dX7_test_30 : decode cX7_test 30 = .ok (.iload_n 1, 1) := by decide +kernel
theorem dX7_test_31 : decode cX7_test 31 = .ok (.iload_n 2, 1) := by decide +kernel
theorem dX7_test_32 : decode cX7_test 32 = .ok (.invokevirtual 134, 3) := by decide +kernel
theorem dX7_test_35 : decode cX7_test 35 = .ok (.ireturn, 1) := by decide +kernel
theorem dX7_fuel_0 : decode cX7_fuel 0 = .ok (.iload_n 1, 1) := by decide +kernel
theorem dX7_fuel_1 : decode cX7_fuel 1 = .ok (.iconst 1, 1) := by decide +kernel
theorem dX7_fuel_2 : decode cX7_fuel 2 = .ok (.if_icmp .lt 9, 3) := by decide +kernel
theorem dX7_fuel_5 : decode cX7_fuel 5 = .ok (.iload_n 1, 1) := by decide +kernel
theorem dX7_fuel_6 : decode cX7_fuel 6 = .ok (.bipush 50, 2) := by decide +kernel
theorem dX7_fuel_8 : decode cX7_fuel 8 = .ok (.if_icmp .le 5, 3) := by decide +kernel
theorem dX7_fuel_11 : decode cX7_fuel 11 = .ok (.iconst 0, 1) := by decide +kernel
theorem dX7_fuel_12 : decode cX7_fuel 12 = .ok (.ireturn, 1) := by decide +kernel
theorem dX7_fuel_13 : decode cX7_fuel 13 = .ok (.aload_n 0, 1) := by decide +kernel
theorem dX7_fuel_14 : decode cX7_fuel 14 = .ok (.iload_n 1, 1) := by decide +kernel
theorem dX7_fuel_15 : decode cX7_fuel 15 = .ok (.putfield 66, 3) := by decide +kernel
theorem dX7_fuel_18 : decode cX7_fuel 18 = .ok (.aload_n 0, 1) := by decide +kernel
theorem dX7_fuel_19 : decode cX7_fuel 19 = .ok (.getfield 62, 3) := by decide +kernel
theorem dX7_fuel_22 : decode cX7_fuel 22 = .ok (.iconst 0, 1) := by decide +kernel
theorem dX7_fuel_23 : decode cX7_fuel 23 = .ok (.putfield 138, 3) := by decide +kernel
theorem dX7_fuel_26 : decode cX7_fuel 26 = .ok (.iconst 1, 1) := by decide +kernel
theorem dX7_fuel_27 : decode cX7_fuel 27 = .ok (.ireturn, 1) := by decide +kernel
theorem dX7_run_0 : decode cX7_run 0 = .ok (.aload_n 0, 1) := by decide +kernel
theorem dX7_run_1 : decode cX7_run 1 = .ok (.invokevirtual 104, 3) := by decide +kernel
theorem dX7_run_4 : decode cX7_run 4 = .ok (.aload_n 0, 1) := by decide +kernel
theorem dX7_run_5 : decode cX7_run 5 = .ok (.iload_n 1, 1) := by decide +kernel
theorem dX7_run_6 : decode cX7_run 6 = .ok (.iconst 0, 1) := by decide +kernel
theorem dX7_run_7 : decode cX7_run 7 = .ok (.invokevirtual 107, 3) := by decide +kernel
theorem dX7_run_10 : decode cX7_run 10 = .ok (.aload_n 0, 1) := by decide +kernel
theorem dX7_run_11 : decode cX7_run 11 = .ok (.getfield 55, 3) := by decide +kernel
theorem dX7_run_14 : decode cX7_run 14 = .ok (.aload_n 0, 1) := by decide +kernel
theorem dX7_run_15 : decode cX7_run 15 = .ok (.getfield 31, 3) := by decide +kernel
theorem dX7_run_18 : decode cX7_run 18 = .ok (.aload_n 0, 1) := by decide +kernel
theorem dX7_run_19 : decode cX7_run 19 = .ok (.getfield 41, 3) := by decide +kernel
theorem dX7_run_22 : decode cX7_run 22 = .ok (.getfield 111, 3) := by decide +kernel
theorem dX7_run_25 : decode cX7_run 25 = .ok (.iload_n 1, 1) := by decide +kernel
theorem dX7_run_26 : decode cX7_run 26 = .ok (.iaload, 1) := by decide +kernel
theorem dX7_run_27 : decode cX7_run 27 = .ok (.aload_n 0, 1) := by decide +kernel
theorem dX7_run_28 : decode cX7_run 28 = .ok (.getfield 41, 3) := by decide +kernel
theorem dX7_run_31 : decode cX7_run 31 = .ok (.getfield 118, 3) := by decide +kernel
theorem dX7_run_34 : decode cX7_run 34 = .ok (.iload_n 1, 1) := by decide +kernel
theorem dX7_run_35 : decode cX7_run 35 = .ok (.iaload, 1) := by decide +kernel
theorem dX7_run_36 : decode cX7_run 36 = .ok (.iload_n 2, 1) := by decide +kernel
theorem dX7_run_37 : decode cX7_run 37 = .ok (.iload_n 3, 1) := by decide +kernel
theorem dX7_run_38 : decode cX7_run 38 = .ok (.aload_n 0, 1) := by decide +kernel
theorem dX7_run_39 : decode cX7_run 39 = .ok (.getfield 66, 3) := by decide +kernel
theorem dX7_run_42 : decode cX7_run 42 = .ok (.invokevirtual 141, 3) := by decide +kernel
theorem dX7_run_45 : decode cX7_run 45 = .ok (.istore 4, 2) := by decide +kernel
theorem dX7_run_47 : decode cX7_run 47 = .ok (.aload_n 0, 1) := by decide +kernel
theorem dX7_run_48 : decode cX7_run 48 = .ok (.aload_n 0, 1) := by decide +kernel
theorem dX7_run_49 : decode cX7_run 49 = .ok (.getfield 55, 3) := by decide +kernel
theorem dX7_run_52 : decode cX7_run 52 = .ok (.getfield 145, 3) := by decide +kernel
theorem dX7_run_55 : decode cX7_run 55 = .ok (.putfield 69, 3) := by decide +kernel
theorem dX7_run_58 : decode cX7_run 58 = .ok (.aload_n 0, 1) := by decide +kernel
theorem dX7_run_59 : decode cX7_run 59 = .ok (.aload_n 0, 1) := by decide +kernel
theorem dX7_run_60 : decode cX7_run 60 = .ok (.getfield 55, 3) := by decide +kernel
theorem dX7_run_63 : decode cX7_run 63 = .ok (.getfield 148, 3) := by decide +kernel
theorem dX7_run_66 : decode cX7_run 66 = .ok (.putfield 72, 3) := by decide +kernel
theorem dX7_run_69 : decode cX7_run 69 = .ok (.iload 4, 2) := by decide +kernel
theorem dX7_run_71 : decode cX7_run 71 = .ok (.ireturn, 1) := by decide +kernel
theorem dX7_value_0 : decode cX7_value 0 = .ok (.aload_n 0, 1) := by decide +kernel
theorem dX7_value_1 : decode cX7_value 1 = .ok (.getfield 69, 3) := by decide +kernel
theorem dX7_value_4 : decode cX7_value 4 = .ok (.ireturn, 1) := by decide +kernel
theorem dX7_took_0 : decode cX7_took 0 = .ok (.aload_n 0, 1) := by decide +kernel
theorem dX7_took_1 : decode cX7_took 1 = .ok (.getfield 72, 3) := by decide +kernel
theorem dX7_took_4 : decode cX7_took 4 = .ok (.ireturn, 1) := by decide +kernel
theorem dX7_matrix_0 : decode cX7_matrix 0 = .ok (.aload_n 0, 1) := by decide +kernel
theorem dX7_matrix_1 : decode cX7_matrix 1 = .ok (.invokevirtual 104, 3) := by decide +kernel
theorem dX7_matrix_4 : decode cX7_matrix 4 = .ok (.aload_n 0, 1) := by decide +kernel
theorem dX7_matrix_5 : decode cX7_matrix 5 = .ok (.getfield 62, 3) := by decide +kernel
theorem dX7_matrix_8 : decode cX7_matrix 8 = .ok (.aload_n 0, 1) := by decide +kernel
theorem dX7_matrix_9 : decode cX7_matrix 9 = .ok (.getfield 31, 3) := by decide +kernel
theorem dX7_matrix_12 : decode cX7_matrix 12 = .ok (.aload_n 0, 1) := by decide +kernel
theorem dX7_matrix_13 : decode cX7_matrix 13 = .ok (.getfield 41, 3) := by decide +kernel
theorem dX7_matrix_16 : decode cX7_matrix 16 = .ok (.aload_n 0, 1) := by decide +kernel
theorem dX7_matrix_17 : decode cX7_matrix 17 = .ok (.getfield 55, 3) := by decide +kernel
theorem dX7_matrix_20 : decode cX7_matrix 20 = .ok (.aload_n 0, 1) := by decide +kernel
theorem dX7_matrix_21 : decode cX7_matrix 21 = .ok (.getfield 66, 3) := by decide +kernel
theorem dX7_matrix_24 : decode cX7_matrix 24 = .ok (.invokevirtual 151, 3) := by decide +kernel
theorem dX7_matrix_27 : decode cX7_matrix 27 = .ok (.ireturn, 1) := by decide +kernel
theorem dX7_killed_0 : decode cX7_killed 0 = .ok (.aload_n 0, 1) := by decide +kernel
theorem dX7_killed_1 : decode cX7_killed 1 = .ok (.invokevirtual 155, 3) := by decide +kernel
theorem dX7_killed_4 : decode cX7_killed 4 = .ok (.aload_n 0, 1) := by decide +kernel
theorem dX7_killed_5 : decode cX7_killed 5 = .ok (.iload_n 1, 1) := by decide +kernel
theorem dX7_killed_6 : decode cX7_killed 6 = .ok (.iconst 1, 1) := by decide +kernel
theorem dX7_killed_7 : decode cX7_killed 7 = .ok (.invokevirtual 107, 3) := by decide +kernel
theorem dX7_killed_10 : decode cX7_killed 10 = .ok (.aload_n 0, 1) := by decide +kernel
theorem dX7_killed_11 : decode cX7_killed 11 = .ok (.iload_n 2, 1) := by decide +kernel
theorem dX7_killed_12 : decode cX7_killed 12 = .ok (.invokevirtual 158, 3) := by decide +kernel
theorem dX7_killed_15 : decode cX7_killed 15 = .ok (.aload_n 0, 1) := by decide +kernel
theorem dX7_killed_16 : decode cX7_killed 16 = .ok (.getfield 62, 3) := by decide +kernel
theorem dX7_killed_19 : decode cX7_killed 19 = .ok (.getfield 162, 3) := by decide +kernel
theorem dX7_killed_22 : decode cX7_killed 22 = .ok (.aload_n 0, 1) := by decide +kernel
theorem dX7_killed_23 : decode cX7_killed 23 = .ok (.getfield 41, 3) := by decide +kernel
theorem dX7_killed_26 : decode cX7_killed 26 = .ok (.getfield 121, 3) := by decide +kernel
theorem dX7_killed_29 : decode cX7_killed 29 = .ok (.iload_n 1, 1) := by decide +kernel
theorem dX7_killed_30 : decode cX7_killed 30 = .ok (.iaload, 1) := by decide +kernel
theorem dX7_killed_31 : decode cX7_killed 31 = .ok (.iaload, 1) := by decide +kernel
theorem dX7_killed_32 : decode cX7_killed 32 = .ok (.iload_n 2, 1) := by decide +kernel
theorem dX7_killed_33 : decode cX7_killed 33 = .ok (.ishr, 1) := by decide +kernel
theorem dX7_killed_34 : decode cX7_killed 34 = .ok (.iconst 1, 1) := by decide +kernel
theorem dX7_killed_35 : decode cX7_killed 35 = .ok (.iand, 1) := by decide +kernel
theorem dX7_killed_36 : decode cX7_killed 36 = .ok (.iconst 1, 1) := by decide +kernel
theorem dX7_killed_37 : decode cX7_killed 37 = .ok (.if_icmp .ne 7, 3) := by decide +kernel
theorem dX7_killed_40 : decode cX7_killed 40 = .ok (.iconst 1, 1) := by decide +kernel
theorem dX7_killed_41 : decode cX7_killed 41 = .ok (.goto 4, 3) := by decide +kernel
theorem dX7_killed_44 : decode cX7_killed 44 = .ok (.iconst 0, 1) := by decide +kernel
theorem dX7_killed_45 : decode cX7_killed 45 = .ok (.ireturn, 1) := by decide +kernel
theorem dX7_reached_0 : decode cX7_reached 0 = .ok (.aload_n 0, 1) := by decide +kernel
theorem dX7_reached_1 : decode cX7_reached 1 = .ok (.invokevirtual 155, 3) := by decide +kernel
theorem dX7_reached_4 : decode cX7_reached 4 = .ok (.aload_n 0, 1) := by decide +kernel
theorem dX7_reached_5 : decode cX7_reached 5 = .ok (.iload_n 1, 1) := by decide +kernel
theorem dX7_reached_6 : decode cX7_reached 6 = .ok (.iconst 1, 1) := by decide +kernel
theorem dX7_reached_7 : decode cX7_reached 7 = .ok (.invokevirtual 107, 3) := by decide +kernel
theorem dX7_reached_10 : decode cX7_reached 10 = .ok (.aload_n 0, 1) := by decide +kernel
theorem dX7_reached_11 : decode cX7_reached 11 = .ok (.iload_n 2, 1) := by decide +kernel
theorem dX7_reached_12 : decode cX7_reached 12 = .ok (.invokevirtual 158, 3) := by decide +kernel
theorem dX7_reached_15 : decode cX7_reached 15 = .ok (.aload_n 0, 1) := by decide +kernel
theorem dX7_reached_16 : decode cX7_reached 16 = .ok (.getfield 62, 3) := by decide +kernel
theorem dX7_reached_19 : decode cX7_reached 19 = .ok (.getfield 165, 3) := by decide +kernel
theorem dX7_reached_22 : decode cX7_reached 22 = .ok (.iload_n 2, 1) := by decide +kernel
theorem dX7_reached_23 : decode cX7_reached 23 = .ok (.laload, 1) := by decide +kernel
theorem dX7_reached_24 : decode cX7_reached 24 = .ok (.aload_n 0, 1) := by decide +kernel
theorem dX7_reached_25 : decode cX7_reached 25 = .ok (.getfield 41, 3) := by decide +kernel
theorem dX7_reached_28 : decode cX7_reached 28 = .ok (.getfield 111, 3) := by decide +kernel
theorem dX7_reached_31 : decode cX7_reached 31 = .ok (.iload_n 1, 1) := by decide +kernel
theorem dX7_reached_32 : decode cX7_reached 32 = .ok (.iaload, 1) := by decide +kernel
theorem dX7_reached_33 : decode cX7_reached 33 = .ok (.invokestatic 169, 3) := by decide +kernel
theorem dX7_reached_36 : decode cX7_reached 36 = .ok (.ireturn, 1) := by decide +kernel
theorem dX7_score_0 : decode cX7_score 0 = .ok (.aload_n 0, 1) := by decide +kernel
theorem dX7_score_1 : decode cX7_score 1 = .ok (.invokevirtual 155, 3) := by decide +kernel
theorem dX7_score_4 : decode cX7_score 4 = .ok (.iload_n 1, 1) := by decide +kernel
theorem dX7_score_5 : decode cX7_score 5 = .ok (.ifCond .eq 18, 3) := by decide +kernel
theorem dX7_score_8 : decode cX7_score 8 = .ok (.iload_n 1, 1) := by decide +kernel
theorem dX7_score_9 : decode cX7_score 9 = .ok (.iconst 1, 1) := by decide +kernel
theorem dX7_score_10 : decode cX7_score 10 = .ok (.if_icmp .eq 13, 3) := by decide +kernel
theorem dX7_score_13 : decode cX7_score 13 = .ok (.new 124, 3) := by decide +kernel
theorem dX7_score_16 : decode cX7_score 16 = .ok (.dup, 1) := by decide +kernel
theorem dX7_score_17 : decode cX7_score 17 = .ok (.ldc 126, 2) := by decide +kernel
theorem dX7_score_19 : decode cX7_score 19 = .ok (.invokespecial 128, 3) := by decide +kernel
theorem dX7_score_22 : decode cX7_score 22 = .ok (.athrow, 1) := by decide +kernel
theorem dX7_score_23 : decode cX7_score 23 = .ok (.iconst 0, 1) := by decide +kernel
theorem dX7_score_24 : decode cX7_score 24 = .ok (.istore_n 2, 1) := by decide +kernel
theorem dX7_score_25 : decode cX7_score 25 = .ok (.iconst 1, 1) := by decide +kernel
theorem dX7_score_26 : decode cX7_score 26 = .ok (.istore_n 3, 1) := by decide +kernel
theorem dX7_score_27 : decode cX7_score 27 = .ok (.iload_n 3, 1) := by decide +kernel
theorem dX7_score_28 : decode cX7_score 28 = .ok (.aload_n 0, 1) := by decide +kernel
theorem dX7_score_29 : decode cX7_score 29 = .ok (.getfield 41, 3) := by decide +kernel
theorem dX7_score_32 : decode cX7_score 32 = .ok (.getfield 101, 3) := by decide +kernel
theorem dX7_score_35 : decode cX7_score 35 = .ok (.if_icmp .gt 39, 3) := by decide +kernel
theorem dX7_score_38 : decode cX7_score 38 = .ok (.aload_n 0, 1) := by decide +kernel
theorem dX7_score_39 : decode cX7_score 39 = .ok (.getfield 41, 3) := by decide +kernel
theorem dX7_score_42 : decode cX7_score 42 = .ok (.iload_n 3, 1) := by decide +kernel
theorem dX7_score_43 : decode cX7_score 43 = .ok (.invokevirtual 173, 3) := by decide +kernel
theorem dX7_score_46 : decode cX7_score 46 = .ok (.ifCond .eq 22, 3) := by decide +kernel
theorem dX7_score_49 : decode cX7_score 49 = .ok (.iload_n 1, 1) := by decide +kernel
theorem dX7_score_50 : decode cX7_score 50 = .ok (.ifCond .eq 15, 3) := by decide +kernel
theorem dX7_score_53 : decode cX7_score 53 = .ok (.aload_n 0, 1) := by decide +kernel
theorem dX7_score_54 : decode cX7_score 54 = .ok (.getfield 62, 3) := by decide +kernel
theorem dX7_score_57 : decode cX7_score 57 = .ok (.getfield 162, 3) := by decide +kernel
theorem dX7_score_60 : decode cX7_score 60 = .ok (.iload_n 3, 1) := by decide +kernel
theorem dX7_score_61 : decode cX7_score 61 = .ok (.iaload, 1) := by decide +kernel
theorem dX7_score_62 : decode cX7_score 62 = .ok (.ifCond .eq 6, 3) := by decide +kernel
theorem dX7_score_65 : decode cX7_score 65 = .ok (.iinc 2 1, 3) := by decide +kernel
theorem dX7_score_68 : decode cX7_score 68 = .ok (.iinc 3 1, 3) := by decide +kernel
theorem dX7_score_71 : decode cX7_score 71 = .ok (.goto (-44), 3) := by decide +kernel
theorem dX7_score_74 : decode cX7_score 74 = .ok (.iload_n 2, 1) := by decide +kernel
theorem dX7_score_75 : decode cX7_score 75 = .ok (.ireturn, 1) := by decide +kernel
theorem dX7_needCompiled_0 : decode cX7_needCompiled 0 = .ok (.aload_n 0, 1) := by decide +kernel
theorem dX7_needCompiled_1 : decode cX7_needCompiled 1 = .ok (.getfield 24, 3) := by decide +kernel
theorem dX7_needCompiled_4 : decode cX7_needCompiled 4 = .ok (.ifCond .ne 13, 3) := by decide +kernel
theorem dX7_needCompiled_7 : decode cX7_needCompiled 7 = .ok (.new 83, 3) := by decide +kernel
theorem dX7_needCompiled_10 : decode cX7_needCompiled 10 = .ok (.dup, 1) := by decide +kernel
theorem dX7_needCompiled_11 : decode cX7_needCompiled 11 = .ok (.ldc 177, 2) := by decide +kernel
theorem dX7_needCompiled_13 : decode cX7_needCompiled 13 = .ok (.invokespecial 87, 3) := by decide +kernel
theorem dX7_needCompiled_16 : decode cX7_needCompiled 16 = .ok (.athrow, 1) := by decide +kernel
theorem dX7_needCompiled_17 : decode cX7_needCompiled 17 = .ok (.return_, 1) := by decide +kernel
theorem dX7_needMatrix_0 : decode cX7_needMatrix 0 = .ok (.aload_n 0, 1) := by decide +kernel
theorem dX7_needMatrix_1 : decode cX7_needMatrix 1 = .ok (.getfield 62, 3) := by decide +kernel
theorem dX7_needMatrix_4 : decode cX7_needMatrix 4 = .ok (.getfield 138, 3) := by decide +kernel
theorem dX7_needMatrix_7 : decode cX7_needMatrix 7 = .ok (.ifCond .ne 13, 3) := by decide +kernel
theorem dX7_needMatrix_10 : decode cX7_needMatrix 10 = .ok (.new 83, 3) := by decide +kernel
theorem dX7_needMatrix_13 : decode cX7_needMatrix 13 = .ok (.dup, 1) := by decide +kernel
theorem dX7_needMatrix_14 : decode cX7_needMatrix 14 = .ok (.ldc 179, 2) := by decide +kernel
theorem dX7_needMatrix_16 : decode cX7_needMatrix 16 = .ok (.invokespecial 87, 3) := by decide +kernel
theorem dX7_needMatrix_19 : decode cX7_needMatrix 19 = .ok (.athrow, 1) := by decide +kernel
theorem dX7_needMatrix_20 : decode cX7_needMatrix 20 = .ok (.return_, 1) := by decide +kernel
theorem dX7_needMutant_0 : decode cX7_needMutant 0 = .ok (.iload_n 1, 1) := by decide +kernel
theorem dX7_needMutant_1 : decode cX7_needMutant 1 = .ok (.iload_n 2, 1) := by decide +kernel
theorem dX7_needMutant_2 : decode cX7_needMutant 2 = .ok (.if_icmp .lt 14, 3) := by decide +kernel
theorem dX7_needMutant_5 : decode cX7_needMutant 5 = .ok (.iload_n 1, 1) := by decide +kernel
theorem dX7_needMutant_6 : decode cX7_needMutant 6 = .ok (.aload_n 0, 1) := by decide +kernel
theorem dX7_needMutant_7 : decode cX7_needMutant 7 = .ok (.getfield 41, 3) := by decide +kernel
theorem dX7_needMutant_10 : decode cX7_needMutant 10 = .ok (.getfield 101, 3) := by decide +kernel
theorem dX7_needMutant_13 : decode cX7_needMutant 13 = .ok (.if_icmp .le 13, 3) := by decide +kernel
theorem dX7_needMutant_16 : decode cX7_needMutant 16 = .ok (.new 181, 3) := by decide +kernel
theorem dX7_needMutant_19 : decode cX7_needMutant 19 = .ok (.dup, 1) := by decide +kernel
theorem dX7_needMutant_20 : decode cX7_needMutant 20 = .ok (.ldc 183, 2) := by decide +kernel
theorem dX7_needMutant_22 : decode cX7_needMutant 22 = .ok (.invokespecial 185, 3) := by decide +kernel
theorem dX7_needMutant_25 : decode cX7_needMutant 25 = .ok (.athrow, 1) := by decide +kernel
theorem dX7_needMutant_26 : decode cX7_needMutant 26 = .ok (.return_, 1) := by decide +kernel
theorem dX7_needTest_0 : decode cX7_needTest 0 = .ok (.iload_n 1, 1) := by decide +kernel
theorem dX7_needTest_1 : decode cX7_needTest 1 = .ok (.ifCond .lt 14, 3) := by decide +kernel
theorem dX7_needTest_4 : decode cX7_needTest 4 = .ok (.iload_n 1, 1) := by decide +kernel
theorem dX7_needTest_5 : decode cX7_needTest 5 = .ok (.aload_n 0, 1) := by decide +kernel
theorem dX7_needTest_6 : decode cX7_needTest 6 = .ok (.getfield 62, 3) := by decide +kernel
theorem dX7_needTest_9 : decode cX7_needTest 9 = .ok (.getfield 129, 3) := by decide +kernel
theorem dX7_needTest_12 : decode cX7_needTest 12 = .ok (.if_icmp .lt 13, 3) := by decide +kernel
theorem dX7_needTest_15 : decode cX7_needTest 15 = .ok (.new 181, 3) := by decide +kernel
theorem dX7_needTest_18 : decode cX7_needTest 18 = .ok (.dup, 1) := by decide +kernel
theorem dX7_needTest_19 : decode cX7_needTest 19 = .ok (.ldc 186, 2) := by decide +kernel
theorem dX7_needTest_21 : decode cX7_needTest 21 = .ok (.invokespecial 185, 3) := by decide +kernel
theorem dX7_needTest_24 : decode cX7_needTest 24 = .ok (.athrow, 1) := by decide +kernel
theorem dX7_needTest_25 : decode cX7_needTest 25 = .ok (.return_, 1) := by decide +kernel
theorem dX7_holds_0 : decode cX7_holds 0 = .ok (.lload_n 0, 1) := by decide +kernel
theorem dX7_holds_1 : decode cX7_holds 1 = .ok (.iload_n 2, 1) := by decide +kernel
theorem dX7_holds_2 : decode cX7_holds 2 = .ok (.lushr, 1) := by decide +kernel
theorem dX7_holds_3 : decode cX7_holds 3 = .ok (.lconst 1, 1) := by decide +kernel
theorem dX7_holds_4 : decode cX7_holds 4 = .ok (.land, 1) := by decide +kernel
theorem dX7_holds_5 : decode cX7_holds 5 = .ok (.lconst 1, 1) := by decide +kernel
theorem dX7_holds_6 : decode cX7_holds 6 = .ok (.lcmp, 1) := by decide +kernel
theorem dX7_holds_7 : decode cX7_holds 7 = .ok (.ifCond .ne 7, 3) := by decide +kernel
theorem dX7_holds_10 : decode cX7_holds 10 = .ok (.iconst 1, 1) := by decide +kernel
theorem dX7_holds_11 : decode cX7_holds 11 = .ok (.goto 4, 3) := by decide +kernel
theorem dX7_holds_14 : decode cX7_holds 14 = .ok (.iconst 0, 1) := by decide +kernel
theorem dX7_holds_15 : decode cX7_holds 15 = .ok (.ireturn, 1) := by decide +kernel
theorem dX7_traps_0 : decode cX7_traps 0 = .ok (.iload_n 0, 1) := by decide +kernel
theorem dX7_traps_1 : decode cX7_traps 1 = .ok (.bipush 47, 2) := by decide +kernel
theorem dX7_traps_3 : decode cX7_traps 3 = .ok (.if_icmp .eq 9, 3) := by decide +kernel
theorem dX7_traps_6 : decode cX7_traps 6 = .ok (.iload_n 0, 1) := by decide +kernel
theorem dX7_traps_7 : decode cX7_traps 7 = .ok (.bipush 37, 2) := by decide +kernel
theorem dX7_traps_9 : decode cX7_traps 9 = .ok (.if_icmp .ne 11, 3) := by decide +kernel
theorem dX7_traps_12 : decode cX7_traps 12 = .ok (.iload_n 1, 1) := by decide +kernel
theorem dX7_traps_13 : decode cX7_traps 13 = .ok (.ifCond .ne 7, 3) := by decide +kernel
theorem dX7_traps_16 : decode cX7_traps 16 = .ok (.iconst 1, 1) := by decide +kernel
theorem dX7_traps_17 : decode cX7_traps 17 = .ok (.goto 4, 3) := by decide +kernel
theorem dX7_traps_20 : decode cX7_traps 20 = .ok (.iconst 0, 1) := by decide +kernel
theorem dX7_traps_21 : decode cX7_traps 21 = .ok (.ireturn, 1) := by decide +kernel
theorem dX7_arithmetic_0 : decode cX7_arithmetic 0 = .ok (.iload_n 0, 1) := by decide +kernel
theorem dX7_arithmetic_1 : decode cX7_arithmetic 1 = .ok (.tableswitch 63 42 47 #[47, 39, 63, 43, 63, 51], 39) := by decide +kernel
theorem dX7_arithmetic_40 : decode cX7_arithmetic 40 = .ok (.iload_n 1, 1) := by decide +kernel
theorem dX7_arithmetic_41 : decode cX7_arithmetic 41 = .ok (.iload_n 2, 1) := by decide +kernel
theorem dX7_arithmetic_42 : decode cX7_arithmetic 42 = .ok (.iadd, 1) := by decide +kernel
theorem dX7_arithmetic_43 : decode cX7_arithmetic 43 = .ok (.ireturn, 1) := by decide +kernel
theorem dX7_arithmetic_44 : decode cX7_arithmetic 44 = .ok (.iload_n 1, 1) := by decide +kernel
theorem dX7_arithmetic_45 : decode cX7_arithmetic 45 = .ok (.iload_n 2, 1) := by decide +kernel
theorem dX7_arithmetic_46 : decode cX7_arithmetic 46 = .ok (.isub, 1) := by decide +kernel
theorem dX7_arithmetic_47 : decode cX7_arithmetic 47 = .ok (.ireturn, 1) := by decide +kernel
theorem dX7_arithmetic_48 : decode cX7_arithmetic 48 = .ok (.iload_n 1, 1) := by decide +kernel
theorem dX7_arithmetic_49 : decode cX7_arithmetic 49 = .ok (.iload_n 2, 1) := by decide +kernel
theorem dX7_arithmetic_50 : decode cX7_arithmetic 50 = .ok (.imul, 1) := by decide +kernel
theorem dX7_arithmetic_51 : decode cX7_arithmetic 51 = .ok (.ireturn, 1) := by decide +kernel
theorem dX7_arithmetic_52 : decode cX7_arithmetic 52 = .ok (.iload_n 2, 1) := by decide +kernel
theorem dX7_arithmetic_53 : decode cX7_arithmetic 53 = .ok (.ifCond .ne 7, 3) := by decide +kernel
theorem dX7_arithmetic_56 : decode cX7_arithmetic 56 = .ok (.iconst 0, 1) := by decide +kernel
theorem dX7_arithmetic_57 : decode cX7_arithmetic 57 = .ok (.goto 6, 3) := by decide +kernel
theorem dX7_arithmetic_60 : decode cX7_arithmetic 60 = .ok (.iload_n 1, 1) := by decide +kernel
theorem dX7_arithmetic_61 : decode cX7_arithmetic 61 = .ok (.iload_n 2, 1) := by decide +kernel
theorem dX7_arithmetic_62 : decode cX7_arithmetic 62 = .ok (.idiv, 1) := by decide +kernel
theorem dX7_arithmetic_63 : decode cX7_arithmetic 63 = .ok (.ireturn, 1) := by decide +kernel
theorem dX7_arithmetic_64 : decode cX7_arithmetic 64 = .ok (.iload_n 2, 1) := by decide +kernel
theorem dX7_arithmetic_65 : decode cX7_arithmetic 65 = .ok (.ifCond .ne 7, 3) := by decide +kernel
theorem dX7_arithmetic_68 : decode cX7_arithmetic 68 = .ok (.iconst 0, 1) := by decide +kernel
theorem dX7_arithmetic_69 : decode cX7_arithmetic 69 = .ok (.goto 6, 3) := by decide +kernel
theorem dX7_arithmetic_72 : decode cX7_arithmetic 72 = .ok (.iload_n 1, 1) := by decide +kernel
theorem dX7_arithmetic_73 : decode cX7_arithmetic 73 = .ok (.iload_n 2, 1) := by decide +kernel
theorem dX7_arithmetic_74 : decode cX7_arithmetic 74 = .ok (.irem, 1) := by decide +kernel
theorem dX7_arithmetic_75 : decode cX7_arithmetic 75 = .ok (.ireturn, 1) := by decide +kernel
theorem dX7_comparison_0 : decode cX7_comparison 0 = .ok (.iload_n 0, 1) := by decide +kernel
theorem dX7_comparison_1 : decode cX7_comparison 1 = .ok (.tableswitch 60 60 62 #[27, 49, 38], 27) := by decide +kernel
theorem dX7_comparison_28 : decode cX7_comparison 28 = .ok (.iload_n 1, 1) := by decide +kernel
theorem dX7_comparison_29 : decode cX7_comparison 29 = .ok (.iload_n 2, 1) := by decide +kernel
theorem dX7_comparison_30 : decode cX7_comparison 30 = .ok (.if_icmp .ge 7, 3) := by decide +kernel
theorem dX7_comparison_33 : decode cX7_comparison 33 = .ok (.iconst 1, 1) := by decide +kernel
theorem dX7_comparison_34 : decode cX7_comparison 34 = .ok (.goto 4, 3) := by decide +kernel
theorem dX7_comparison_37 : decode cX7_comparison 37 = .ok (.iconst 0, 1) := by decide +kernel
theorem dX7_comparison_38 : decode cX7_comparison 38 = .ok (.ireturn, 1) := by decide +kernel
theorem dX7_comparison_39 : decode cX7_comparison 39 = .ok (.iload_n 1, 1) := by decide +kernel
theorem dX7_comparison_40 : decode cX7_comparison 40 = .ok (.iload_n 2, 1) := by decide +kernel
theorem dX7_comparison_41 : decode cX7_comparison 41 = .ok (.if_icmp .le 7, 3) := by decide +kernel
theorem dX7_comparison_44 : decode cX7_comparison 44 = .ok (.iconst 1, 1) := by decide +kernel
theorem dX7_comparison_45 : decode cX7_comparison 45 = .ok (.goto 4, 3) := by decide +kernel
theorem dX7_comparison_48 : decode cX7_comparison 48 = .ok (.iconst 0, 1) := by decide +kernel
theorem dX7_comparison_49 : decode cX7_comparison 49 = .ok (.ireturn, 1) := by decide +kernel
theorem dX7_comparison_50 : decode cX7_comparison 50 = .ok (.iload_n 1, 1) := by decide +kernel
theorem dX7_comparison_51 : decode cX7_comparison 51 = .ok (.iload_n 2, 1) := by decide +kernel
theorem dX7_comparison_52 : decode cX7_comparison 52 = .ok (.if_icmp .ne 7, 3) := by decide +kernel
theorem dX7_comparison_55 : decode cX7_comparison 55 = .ok (.iconst 1, 1) := by decide +kernel
theorem dX7_comparison_56 : decode cX7_comparison 56 = .ok (.goto 4, 3) := by decide +kernel
theorem dX7_comparison_59 : decode cX7_comparison 59 = .ok (.iconst 0, 1) := by decide +kernel
theorem dX7_comparison_60 : decode cX7_comparison 60 = .ok (.ireturn, 1) := by decide +kernel
theorem dX7_comparison_61 : decode cX7_comparison 61 = .ok (.iload_n 1, 1) := by decide +kernel
theorem dX7_comparison_62 : decode cX7_comparison 62 = .ok (.iload_n 2, 1) := by decide +kernel
theorem dX7_comparison_63 : decode cX7_comparison 63 = .ok (.if_icmp .eq 7, 3) := by decide +kernel
theorem dX7_comparison_66 : decode cX7_comparison 66 = .ok (.iconst 1, 1) := by decide +kernel
theorem dX7_comparison_67 : decode cX7_comparison 67 = .ok (.goto 4, 3) := by decide +kernel
theorem dX7_comparison_70 : decode cX7_comparison 70 = .ok (.iconst 0, 1) := by decide +kernel
theorem dX7_comparison_71 : decode cX7_comparison 71 = .ok (.ireturn, 1) := by decide +kernel
theorem dX7_mutantsOf_0 : decode cX7_mutantsOf 0 = .ok (.iconst 0, 1) := by decide +kernel
theorem dX7_mutantsOf_1 : decode cX7_mutantsOf 1 = .ok (.istore_n 1, 1) := by decide +kernel
theorem dX7_mutantsOf_2 : decode cX7_mutantsOf 2 = .ok (.iconst 0, 1) := by decide +kernel
theorem dX7_mutantsOf_3 : decode cX7_mutantsOf 3 = .ok (.istore_n 2, 1) := by decide +kernel
theorem dX7_mutantsOf_4 : decode cX7_mutantsOf 4 = .ok (.iload_n 2, 1) := by decide +kernel
theorem dX7_mutantsOf_5 : decode cX7_mutantsOf 5 = .ok (.aload_n 0, 1) := by decide +kernel
theorem dX7_mutantsOf_6 : decode cX7_mutantsOf 6 = .ok (.getfield 188, 3) := by decide +kernel
theorem dX7_mutantsOf_9 : decode cX7_mutantsOf 9 = .ok (.if_icmp .ge 21, 3) := by decide +kernel
theorem dX7_mutantsOf_12 : decode cX7_mutantsOf 12 = .ok (.iload_n 1, 1) := by decide +kernel
theorem dX7_mutantsOf_13 : decode cX7_mutantsOf 13 = .ok (.aload_n 0, 1) := by decide +kernel
theorem dX7_mutantsOf_14 : decode cX7_mutantsOf 14 = .ok (.getfield 191, 3) := by decide +kernel
theorem dX7_mutantsOf_17 : decode cX7_mutantsOf 17 = .ok (.iload_n 2, 1) := by decide +kernel
theorem dX7_mutantsOf_18 : decode cX7_mutantsOf 18 = .ok (.iaload, 1) := by decide +kernel
theorem dX7_mutantsOf_19 : decode cX7_mutantsOf 19 = .ok (.invokestatic 194, 3) := by decide +kernel
theorem dX7_mutantsOf_22 : decode cX7_mutantsOf 22 = .ok (.iadd, 1) := by decide +kernel
theorem dX7_mutantsOf_23 : decode cX7_mutantsOf 23 = .ok (.istore_n 1, 1) := by decide +kernel
theorem dX7_mutantsOf_24 : decode cX7_mutantsOf 24 = .ok (.iinc 2 1, 3) := by decide +kernel
theorem dX7_mutantsOf_27 : decode cX7_mutantsOf 27 = .ok (.goto (-23), 3) := by decide +kernel
theorem dX7_mutantsOf_30 : decode cX7_mutantsOf 30 = .ok (.iload_n 1, 1) := by decide +kernel
theorem dX7_mutantsOf_31 : decode cX7_mutantsOf 31 = .ok (.ireturn, 1) := by decide +kernel
theorem dX7_choicesOf_0 : decode cX7_choicesOf 0 = .ok (.iload_n 0, 1) := by decide +kernel
theorem dX7_choicesOf_1 : decode cX7_choicesOf 1 = .ok (.tableswitch 63 0 4 #[35, 43, 51, 59, 61], 35) := by decide +kernel
theorem dX7_choicesOf_36 : decode cX7_choicesOf 36 = .ok (.ldc 198, 2) := by decide +kernel
theorem dX7_choicesOf_38 : decode cX7_choicesOf 38 = .ok (.invokevirtual 200, 3) := by decide +kernel
theorem dX7_choicesOf_41 : decode cX7_choicesOf 41 = .ok (.iconst 1, 1) := by decide +kernel
theorem dX7_choicesOf_42 : decode cX7_choicesOf 42 = .ok (.isub, 1) := by decide +kernel
theorem dX7_choicesOf_43 : decode cX7_choicesOf 43 = .ok (.ireturn, 1) := by decide +kernel
theorem dX7_choicesOf_44 : decode cX7_choicesOf 44 = .ok (.ldc 205, 2) := by decide +kernel
theorem dX7_choicesOf_46 : decode cX7_choicesOf 46 = .ok (.invokevirtual 200, 3) := by decide +kernel
theorem dX7_choicesOf_49 : decode cX7_choicesOf 49 = .ok (.iconst 1, 1) := by decide +kernel
theorem dX7_choicesOf_50 : decode cX7_choicesOf 50 = .ok (.isub, 1) := by decide +kernel
theorem dX7_choicesOf_51 : decode cX7_choicesOf 51 = .ok (.ireturn, 1) := by decide +kernel
theorem dX7_choicesOf_52 : decode cX7_choicesOf 52 = .ok (.ldc 207, 2) := by decide +kernel
theorem dX7_choicesOf_54 : decode cX7_choicesOf 54 = .ok (.invokevirtual 200, 3) := by decide +kernel
theorem dX7_choicesOf_57 : decode cX7_choicesOf 57 = .ok (.iconst 1, 1) := by decide +kernel
theorem dX7_choicesOf_58 : decode cX7_choicesOf 58 = .ok (.isub, 1) := by decide +kernel
theorem dX7_choicesOf_59 : decode cX7_choicesOf 59 = .ok (.ireturn, 1) := by decide +kernel
theorem dX7_choicesOf_60 : decode cX7_choicesOf 60 = .ok (.iconst 2, 1) := by decide +kernel
theorem dX7_choicesOf_61 : decode cX7_choicesOf 61 = .ok (.ireturn, 1) := by decide +kernel
theorem dX7_choicesOf_62 : decode cX7_choicesOf 62 = .ok (.iconst 1, 1) := by decide +kernel
theorem dX7_choicesOf_63 : decode cX7_choicesOf 63 = .ok (.ireturn, 1) := by decide +kernel
theorem dX7_choicesOf_64 : decode cX7_choicesOf 64 = .ok (.iconst 0, 1) := by decide +kernel
theorem dX7_choicesOf_65 : decode cX7_choicesOf 65 = .ok (.ireturn, 1) := by decide +kernel
theorem dX8_init_0 : decode cX8_init 0 = .ok (.aload_n 0, 1) := by decide +kernel
theorem dX8_init_1 : decode cX8_init 1 = .ok (.invokespecial 1, 3) := by decide +kernel
theorem dX8_init_4 : decode cX8_init 4 = .ok (.aload_n 0, 1) := by decide +kernel
theorem dX8_init_5 : decode cX8_init 5 = .ok (.bipush 60, 2) := by decide +kernel
theorem dX8_init_7 : decode cX8_init 7 = .ok (.newarray .int, 2) := by decide +kernel
theorem dX8_init_9 : decode cX8_init 9 = .ok (.putfield 7, 3) := by decide +kernel
theorem dX8_init_12 : decode cX8_init 12 = .ok (.aload_n 0, 1) := by decide +kernel
theorem dX8_init_13 : decode cX8_init 13 = .ok (.sipush 512, 3) := by decide +kernel
theorem dX8_init_16 : decode cX8_init 16 = .ok (.newarray .int, 2) := by decide +kernel
theorem dX8_init_18 : decode cX8_init 18 = .ok (.putfield 13, 3) := by decide +kernel
theorem dX8_init_21 : decode cX8_init 21 = .ok (.aload_n 0, 1) := by decide +kernel
theorem dX8_init_22 : decode cX8_init 22 = .ok (.sipush 512, 3) := by decide +kernel
theorem dX8_init_25 : decode cX8_init 25 = .ok (.newarray .int, 2) := by decide +kernel
theorem dX8_init_27 : decode cX8_init 27 = .ok (.putfield 16, 3) := by decide +kernel
theorem dX8_init_30 : decode cX8_init 30 = .ok (.aload_n 0, 1) := by decide +kernel
theorem dX8_init_31 : decode cX8_init 31 = .ok (.sipush 512, 3) := by decide +kernel
theorem dX8_init_34 : decode cX8_init 34 = .ok (.newarray .int, 2) := by decide +kernel
theorem dX8_init_36 : decode cX8_init 36 = .ok (.putfield 19, 3) := by decide +kernel
theorem dX8_init_39 : decode cX8_init 39 = .ok (.aload_n 0, 1) := by decide +kernel
theorem dX8_init_40 : decode cX8_init 40 = .ok (.sipush 512, 3) := by decide +kernel
theorem dX8_init_43 : decode cX8_init 43 = .ok (.newarray .int, 2) := by decide +kernel
theorem dX8_init_45 : decode cX8_init 45 = .ok (.putfield 22, 3) := by decide +kernel
theorem dX8_init_48 : decode cX8_init 48 = .ok (.aload_n 0, 1) := by decide +kernel
theorem dX8_init_49 : decode cX8_init 49 = .ok (.sipush 512, 3) := by decide +kernel
theorem dX8_init_52 : decode cX8_init 52 = .ok (.newarray .int, 2) := by decide +kernel
theorem dX8_init_54 : decode cX8_init 54 = .ok (.putfield 25, 3) := by decide +kernel
theorem dX8_init_57 : decode cX8_init 57 = .ok (.aload_n 0, 1) := by decide +kernel
theorem dX8_init_58 : decode cX8_init 58 = .ok (.sipush 512, 3) := by decide +kernel
theorem dX8_init_61 : decode cX8_init 61 = .ok (.newarray .int, 2) := by decide +kernel
theorem dX8_init_63 : decode cX8_init 63 = .ok (.putfield 28, 3) := by decide +kernel
theorem dX8_init_66 : decode cX8_init 66 = .ok (.aload_n 0, 1) := by decide +kernel
theorem dX8_init_67 : decode cX8_init 67 = .ok (.sipush 512, 3) := by decide +kernel
theorem dX8_init_70 : decode cX8_init 70 = .ok (.newarray .int, 2) := by decide +kernel
theorem dX8_init_72 : decode cX8_init 72 = .ok (.putfield 31, 3) := by decide +kernel
theorem dX8_init_75 : decode cX8_init 75 = .ok (.aload_n 0, 1) := by decide +kernel
theorem dX8_init_76 : decode cX8_init 76 = .ok (.sipush 512, 3) := by decide +kernel
theorem dX8_init_79 : decode cX8_init 79 = .ok (.newarray .int, 2) := by decide +kernel
theorem dX8_init_81 : decode cX8_init 81 = .ok (.putfield 34, 3) := by decide +kernel
theorem dX8_init_84 : decode cX8_init 84 = .ok (.aload_n 0, 1) := by decide +kernel
theorem dX8_init_85 : decode cX8_init 85 = .ok (.bipush 80, 2) := by decide +kernel
theorem dX8_init_87 : decode cX8_init 87 = .ok (.newarray .int, 2) := by decide +kernel
theorem dX8_init_89 : decode cX8_init 89 = .ok (.putfield 37, 3) := by decide +kernel
theorem dX8_init_92 : decode cX8_init 92 = .ok (.aload_n 0, 1) := by decide +kernel
theorem dX8_init_93 : decode cX8_init 93 = .ok (.bipush 80, 2) := by decide +kernel
theorem dX8_init_95 : decode cX8_init 95 = .ok (.newarray .int, 2) := by decide +kernel
theorem dX8_init_97 : decode cX8_init 97 = .ok (.putfield 40, 3) := by decide +kernel
theorem dX8_init_100 : decode cX8_init 100 = .ok (.aload_n 0, 1) := by decide +kernel
theorem dX8_init_101 : decode cX8_init 101 = .ok (.bipush 80, 2) := by decide +kernel
theorem dX8_init_103 : decode cX8_init 103 = .ok (.newarray .int, 2) := by decide +kernel
theorem dX8_init_105 : decode cX8_init 105 = .ok (.putfield 43, 3) := by decide +kernel
theorem dX8_init_108 : decode cX8_init 108 = .ok (.aload_n 0, 1) := by decide +kernel
theorem dX8_init_109 : decode cX8_init 109 = .ok (.bipush 80, 2) := by decide +kernel
theorem dX8_init_111 : decode cX8_init 111 = .ok (.newarray .int, 2) := by decide +kernel
theorem dX8_init_113 : decode cX8_init 113 = .ok (.putfield 46, 3) := by decide +kernel
theorem dX8_init_116 : decode cX8_init 116 = .ok (.aload_n 0, 1) := by decide +kernel
theorem dX8_init_117 : decode cX8_init 117 = .ok (.bipush 80, 2) := by decide +kernel
theorem dX8_init_119 : decode cX8_init 119 = .ok (.newarray .int, 2) := by decide +kernel
theorem dX8_init_121 : decode cX8_init 121 = .ok (.putfield 49, 3) := by decide +kernel
theorem dX8_init_124 : decode cX8_init 124 = .ok (.aload_n 0, 1) := by decide +kernel
theorem dX8_init_125 : decode cX8_init 125 = .ok (.bipush 80, 2) := by decide +kernel
theorem dX8_init_127 : decode cX8_init 127 = .ok (.newarray .int, 2) := by decide +kernel
theorem dX8_init_129 : decode cX8_init 129 = .ok (.putfield 52, 3) := by decide +kernel
theorem dX8_init_132 : decode cX8_init 132 = .ok (.aload_n 0, 1) := by decide +kernel
theorem dX8_init_133 : decode cX8_init 133 = .ok (.bipush 80, 2) := by decide +kernel
theorem dX8_init_135 : decode cX8_init 135 = .ok (.newarray .int, 2) := by decide +kernel
theorem dX8_init_137 : decode cX8_init 137 = .ok (.putfield 55, 3) := by decide +kernel
theorem dX8_init_140 : decode cX8_init 140 = .ok (.aload_n 0, 1) := by decide +kernel
theorem dX8_init_141 : decode cX8_init 141 = .ok (.bipush 64, 2) := by decide +kernel
theorem dX8_init_143 : decode cX8_init 143 = .ok (.newarray .int, 2) := by decide +kernel
theorem dX8_init_145 : decode cX8_init 145 = .ok (.putfield 58, 3) := by decide +kernel
theorem dX8_init_148 : decode cX8_init 148 = .ok (.aload_n 0, 1) := by decide +kernel
theorem dX8_init_149 : decode cX8_init 149 = .ok (.bipush 121, 2) := by decide +kernel
theorem dX8_init_151 : decode cX8_init 151 = .ok (.newarray .int, 2) := by decide +kernel
theorem dX8_init_153 : decode cX8_init 153 = .ok (.putfield 61, 3) := by decide +kernel
theorem dX8_init_156 : decode cX8_init 156 = .ok (.aload_n 0, 1) := by decide +kernel
theorem dX8_init_157 : decode cX8_init 157 = .ok (.bipush 121, 2) := by decide +kernel
theorem dX8_init_159 : decode cX8_init 159 = .ok (.newarray .int, 2) := by decide +kernel
theorem dX8_init_161 : decode cX8_init 161 = .ok (.putfield 64, 3) := by decide +kernel
theorem dX8_init_164 : decode cX8_init 164 = .ok (.aload_n 0, 1) := by decide +kernel
theorem dX8_init_165 : decode cX8_init 165 = .ok (.bipush 121, 2) := by decide +kernel
theorem dX8_init_167 : decode cX8_init 167 = .ok (.newarray .int, 2) := by decide +kernel
theorem dX8_init_169 : decode cX8_init 169 = .ok (.putfield 67, 3) := by decide +kernel
theorem dX8_init_172 : decode cX8_init 172 = .ok (.aload_n 0, 1) := by decide +kernel
theorem dX8_init_173 : decode cX8_init 173 = .ok (.bipush 121, 2) := by decide +kernel
theorem dX8_init_175 : decode cX8_init 175 = .ok (.newarray .int, 2) := by decide +kernel
theorem dX8_init_177 : decode cX8_init 177 = .ok (.putfield 70, 3) := by decide +kernel
theorem dX8_init_180 : decode cX8_init 180 = .ok (.aload_n 0, 1) := by decide +kernel
theorem dX8_init_181 : decode cX8_init 181 = .ok (.bipush 121, 2) := by decide +kernel
theorem dX8_init_183 : decode cX8_init 183 = .ok (.newarray .int, 2) := by decide +kernel
theorem dX8_init_185 : decode cX8_init 185 = .ok (.putfield 73, 3) := by decide +kernel
theorem dX8_init_188 : decode cX8_init 188 = .ok (.aload_n 0, 1) := by decide +kernel
theorem dX8_init_189 : decode cX8_init 189 = .ok (.sipush 4200, 3) := by decide +kernel
theorem dX8_init_192 : decode cX8_init 192 = .ok (.newarray .int, 2) := by decide +kernel
theorem dX8_init_194 : decode cX8_init 194 = .ok (.putfield 76, 3) := by decide +kernel
theorem dX8_init_197 : decode cX8_init 197 = .ok (.aload_n 0, 1) := by decide +kernel
theorem dX8_init_198 : decode cX8_init 198 = .ok (.sipush 4200, 3) := by decide +kernel
theorem dX8_init_201 : decode cX8_init 201 = .ok (.newarray .int, 2) := by decide +kernel
theorem dX8_init_203 : decode cX8_init 203 = .ok (.putfield 79, 3) := by decide +kernel
theorem dX8_init_206 : decode cX8_init 206 = .ok (.aload_n 0, 1) := by decide +kernel
theorem dX8_init_207 : decode cX8_init 207 = .ok (.sipush 4200, 3) := by decide +kernel
theorem dX8_init_210 : decode cX8_init 210 = .ok (.newarray .int, 2) := by decide +kernel
theorem dX8_init_212 : decode cX8_init 212 = .ok (.putfield 82, 3) := by decide +kernel
theorem dX8_init_215 : decode cX8_init 215 = .ok (.aload_n 0, 1) := by decide +kernel
theorem dX8_init_216 : decode cX8_init 216 = .ok (.sipush 4200, 3) := by decide +kernel
theorem dX8_init_219 : decode cX8_init 219 = .ok (.newarray .int, 2) := by decide +kernel
theorem dX8_init_221 : decode cX8_init 221 = .ok (.putfield 85, 3) := by decide +kernel
theorem dX8_init_224 : decode cX8_init 224 = .ok (.aload_n 0, 1) := by decide +kernel
theorem dX8_init_225 : decode cX8_init 225 = .ok (.sipush 4200, 3) := by decide +kernel
theorem dX8_init_228 : decode cX8_init 228 = .ok (.newarray .int, 2) := by decide +kernel
theorem dX8_init_230 : decode cX8_init 230 = .ok (.putfield 88, 3) := by decide +kernel
theorem dX8_init_233 : decode cX8_init 233 = .ok (.aload_n 0, 1) := by decide +kernel
theorem dX8_init_234 : decode cX8_init 234 = .ok (.sipush 256, 3) := by decide +kernel
theorem dX8_init_237 : decode cX8_init 237 = .ok (.newarray .int, 2) := by decide +kernel
theorem dX8_init_239 : decode cX8_init 239 = .ok (.putfield 91, 3) := by decide +kernel
theorem dX8_init_242 : decode cX8_init 242 = .ok (.aload_n 0, 1) := by decide +kernel
theorem dX8_init_243 : decode cX8_init 243 = .ok (.sipush 256, 3) := by decide +kernel
theorem dX8_init_246 : decode cX8_init 246 = .ok (.newarray .int, 2) := by decide +kernel
theorem dX8_init_248 : decode cX8_init 248 = .ok (.putfield 94, 3) := by decide +kernel
theorem dX8_init_251 : decode cX8_init 251 = .ok (.aload_n 0, 1) := by decide +kernel
theorem dX8_init_252 : decode cX8_init 252 = .ok (.bipush 64, 2) := by decide +kernel
theorem dX8_init_254 : decode cX8_init 254 = .ok (.newarray .int, 2) := by decide +kernel
theorem dX8_init_256 : decode cX8_init 256 = .ok (.putfield 97, 3) := by decide +kernel
theorem dX8_init_259 : decode cX8_init 259 = .ok (.aload_n 0, 1) := by decide +kernel
theorem dX8_init_260 : decode cX8_init 260 = .ok (.bipush 20, 2) := by decide +kernel
theorem dX8_init_262 : decode cX8_init 262 = .ok (.putfield 100, 3) := by decide +kernel
theorem dX8_init_265 : decode cX8_init 265 = .ok (.aload_n 0, 1) := by decide +kernel
theorem dX8_init_266 : decode cX8_init 266 = .ok (.bipush 64, 2) := by decide +kernel
theorem dX8_init_268 : decode cX8_init 268 = .ok (.newarray .int, 2) := by decide +kernel
theorem dX8_init_270 : decode cX8_init 270 = .ok (.putfield 104, 3) := by decide +kernel
theorem dX8_init_273 : decode cX8_init 273 = .ok (.aload_n 0, 1) := by decide +kernel
theorem dX8_init_274 : decode cX8_init 274 = .ok (.bipush 6, 2) := by decide +kernel
theorem dX8_init_276 : decode cX8_init 276 = .ok (.newarray .int, 2) := by decide +kernel
theorem dX8_init_278 : decode cX8_init 278 = .ok (.putfield 107, 3) := by decide +kernel
theorem dX8_init_281 : decode cX8_init 281 = .ok (.aload_n 0, 1) := by decide +kernel
theorem dX8_init_282 : decode cX8_init 282 = .ok (.bipush 60, 2) := by decide +kernel
theorem dX8_init_284 : decode cX8_init 284 = .ok (.newarray .boolean, 2) := by decide +kernel
theorem dX8_init_286 : decode cX8_init 286 = .ok (.putfield 110, 3) := by decide +kernel
theorem dX8_init_289 : decode cX8_init 289 = .ok (.aload_n 0, 1) := by decide +kernel
theorem dX8_init_290 : decode cX8_init 290 = .ok (.bipush 8, 2) := by decide +kernel
theorem dX8_init_292 : decode cX8_init 292 = .ok (.newarray .int, 2) := by decide +kernel
theorem dX8_init_294 : decode cX8_init 294 = .ok (.putfield 114, 3) := by decide +kernel
theorem dX8_init_297 : decode cX8_init 297 = .ok (.aload_n 0, 1) := by decide +kernel
theorem dX8_init_298 : decode cX8_init 298 = .ok (.bipush 8, 2) := by decide +kernel
theorem dX8_init_300 : decode cX8_init 300 = .ok (.newarray .int, 2) := by decide +kernel
theorem dX8_init_302 : decode cX8_init 302 = .ok (.putfield 117, 3) := by decide +kernel
theorem dX8_init_305 : decode cX8_init 305 = .ok (.aload_n 0, 1) := by decide +kernel
theorem dX8_init_306 : decode cX8_init 306 = .ok (.sipush 968, 3) := by decide +kernel
theorem dX8_init_309 : decode cX8_init 309 = .ok (.newarray .boolean, 2) := by decide +kernel
theorem dX8_init_311 : decode cX8_init 311 = .ok (.putfield 120, 3) := by decide +kernel
theorem dX8_init_314 : decode cX8_init 314 = .ok (.aload_n 0, 1) := by decide +kernel
theorem dX8_init_315 : decode cX8_init 315 = .ok (.sipush 480, 3) := by decide +kernel
theorem dX8_init_318 : decode cX8_init 318 = .ok (.newarray .boolean, 2) := by decide +kernel
theorem dX8_init_320 : decode cX8_init 320 = .ok (.putfield 123, 3) := by decide +kernel
theorem dX8_init_323 : decode cX8_init 323 = .ok (.return_, 1) := by decide +kernel
theorem dX8_thrown_0 : decode cX8_thrown 0 = .ok (.aload_n 0, 1) := by decide +kernel
theorem dX8_thrown_1 : decode cX8_thrown 1 = .ok (.getfield 126, 3) := by decide +kernel
theorem dX8_thrown_4 : decode cX8_thrown 4 = .ok (.ireturn, 1) := by decide +kernel
theorem dX8_fail_0 : decode cX8_fail 0 = .ok (.aload_n 0, 1) := by decide +kernel
theorem dX8_fail_1 : decode cX8_fail 1 = .ok (.iload_n 1, 1) := by decide +kernel
theorem dX8_fail_2 : decode cX8_fail 2 = .ok (.putfield 126, 3) := by decide +kernel
theorem dX8_fail_5 : decode cX8_fail 5 = .ok (.iconst 0, 1) := by decide +kernel
theorem dX8_fail_6 : decode cX8_fail 6 = .ok (.ireturn, 1) := by decide +kernel
theorem dX8_type_0 : decode cX8_type 0 = .ok (.aload_n 0, 1) := by decide +kernel
theorem dX8_type_1 : decode cX8_type 1 = .ok (.iconst 0, 1) := by decide +kernel
theorem dX8_type_2 : decode cX8_type 2 = .ok (.putfield 126, 3) := by decide +kernel
theorem dX8_type_5 : decode cX8_type 5 = .ok (.iload_n 1, 1) := by decide +kernel
theorem dX8_type_6 : decode cX8_type 6 = .ok (.bipush 32, 2) := by decide +kernel
theorem dX8_type_8 : decode cX8_type 8 = .ok (.if_icmp .lt 18, 3) := by decide +kernel
theorem dX8_type_11 : decode cX8_type 11 = .ok (.iload_n 1, 1) := by decide +kernel
theorem dX8_type_12 : decode cX8_type 12 = .ok (.bipush 126, 2) := by decide +kernel
theorem dX8_type_14 : decode cX8_type 14 = .ok (.if_icmp .gt 12, 3) := by decide +kernel
theorem dX8_type_17 : decode cX8_type 17 = .ok (.aload_n 0, 1) := by decide +kernel
theorem dX8_type_18 : decode cX8_type 18 = .ok (.getfield 129, 3) := by decide +kernel
theorem dX8_type_21 : decode cX8_type 21 = .ok (.bipush 60, 2) := by decide +kernel
theorem dX8_type_23 : decode cX8_type 23 = .ok (.if_icmp .ne 5, 3) := by decide +kernel
theorem dX8_type_26 : decode cX8_type 26 = .ok (.iconst (-1), 1) := by decide +kernel
theorem dX8_type_27 : decode cX8_type 27 = .ok (.ireturn, 1) := by decide +kernel
theorem dX8_type_28 : decode cX8_type 28 = .ok (.aload_n 0, 1) := by decide +kernel
theorem dX8_type_29 : decode cX8_type 29 = .ok (.getfield 7, 3) := by decide +kernel
theorem dX8_type_32 : decode cX8_type 32 = .ok (.aload_n 0, 1) := by decide +kernel
theorem dX8_type_33 : decode cX8_type 33 = .ok (.getfield 129, 3) := by decide +kernel
theorem dX8_type_36 : decode cX8_type 36 = .ok (.iload_n 1, 1) := by decide +kernel
theorem dX8_type_37 : decode cX8_type 37 = .ok (.iastore, 1) := by decide +kernel
theorem dX8_type_38 : decode cX8_type 38 = .ok (.aload_n 0, 1) := by decide +kernel
theorem dX8_type_39 : decode cX8_type 39 = .ok (.dup, 1) := by decide +kernel
theorem dX8_type_40 : decode cX8_type 40 = .ok (.getfield 129, 3) := by decide +kernel
theorem dX8_type_43 : decode cX8_type 43 = .ok (.iconst 1, 1) := by decide +kernel
theorem dX8_type_44 : decode cX8_type 44 = .ok (.iadd, 1) := by decide +kernel
theorem dX8_type_45 : decode cX8_type 45 = .ok (.putfield 129, 3) := by decide +kernel
theorem dX8_type_48 : decode cX8_type 48 = .ok (.aload_n 0, 1) := by decide +kernel
theorem dX8_type_49 : decode cX8_type 49 = .ok (.getfield 129, 3) := by decide +kernel
theorem dX8_type_52 : decode cX8_type 52 = .ok (.ireturn, 1) := by decide +kernel
theorem dX8_wipe_0 : decode cX8_wipe 0 = .ok (.aload_n 0, 1) := by decide +kernel
theorem dX8_wipe_1 : decode cX8_wipe 1 = .ok (.iconst 0, 1) := by decide +kernel
theorem dX8_wipe_2 : decode cX8_wipe 2 = .ok (.putfield 126, 3) := by decide +kernel
theorem dX8_wipe_5 : decode cX8_wipe 5 = .ok (.aload_n 0, 1) := by decide +kernel
theorem dX8_wipe_6 : decode cX8_wipe 6 = .ok (.iconst 0, 1) := by decide +kernel
theorem dX8_wipe_7 : decode cX8_wipe 7 = .ok (.putfield 129, 3) := by decide +kernel
theorem dX8_wipe_10 : decode cX8_wipe 10 = .ok (.return_, 1) := by decide +kernel
theorem dX8_peek_0 : decode cX8_peek 0 = .ok (.aload_n 0, 1) := by decide +kernel
theorem dX8_peek_1 : decode cX8_peek 1 = .ok (.getfield 132, 3) := by decide +kernel
theorem dX8_peek_4 : decode cX8_peek 4 = .ok (.aload_n 0, 1) := by decide +kernel
theorem dX8_peek_5 : decode cX8_peek 5 = .ok (.getfield 129, 3) := by decide +kernel
theorem dX8_peek_8 : decode cX8_peek 8 = .ok (.if_icmp .ge 15, 3) := by decide +kernel
theorem dX8_peek_11 : decode cX8_peek 11 = .ok (.aload_n 0, 1) := by decide +kernel
theorem dX8_peek_12 : decode cX8_peek 12 = .ok (.getfield 7, 3) := by decide +kernel
theorem dX8_peek_15 : decode cX8_peek 15 = .ok (.aload_n 0, 1) := by decide +kernel
theorem dX8_peek_16 : decode cX8_peek 16 = .ok (.getfield 132, 3) := by decide +kernel
theorem dX8_peek_19 : decode cX8_peek 19 = .ok (.iaload, 1) := by decide +kernel
theorem dX8_peek_20 : decode cX8_peek 20 = .ok (.goto 4, 3) := by decide +kernel
theorem dX8_peek_23 : decode cX8_peek 23 = .ok (.iconst 0, 1) := by decide +kernel
theorem dX8_peek_24 : decode cX8_peek 24 = .ok (.ireturn, 1) := by decide +kernel
theorem dX8_take_0 : decode cX8_take 0 = .ok (.aload_n 0, 1) := by decide +kernel
theorem dX8_take_1 : decode cX8_take 1 = .ok (.aload_n 0, 1) := by decide +kernel
theorem dX8_take_2 : decode cX8_take 2 = .ok (.getfield 135, 3) := by decide +kernel
theorem dX8_take_5 : decode cX8_take 5 = .ok (.ifCond .ne 11, 3) := by decide +kernel
theorem dX8_take_8 : decode cX8_take 8 = .ok (.aload_n 0, 1) := by decide +kernel
theorem dX8_take_9 : decode cX8_take 9 = .ok (.invokevirtual 139, 3) := by decide +kernel
theorem dX8_take_12 : decode cX8_take 12 = .ok (.iload_n 1, 1) := by decide +kernel
theorem dX8_take_13 : decode cX8_take 13 = .ok (.if_icmp .eq 7, 3) := by decide +kernel
theorem dX8_take_16 : decode cX8_take 16 = .ok (.iconst 1, 1) := by decide +kernel
theorem dX8_take_17 : decode cX8_take 17 = .ok (.goto 4, 3) := by decide +kernel
theorem dX8_take_20 : decode cX8_take 20 = .ok (.iconst 0, 1) := by decide +kernel
theorem dX8_take_21 : decode cX8_take 21 = .ok (.putfield 135, 3) := by decide +kernel
theorem dX8_take_24 : decode cX8_take 24 = .ok (.aload_n 0, 1) := by decide +kernel
theorem dX8_take_25 : decode cX8_take 25 = .ok (.dup, 1) := by decide +kernel
theorem dX8_take_26 : decode cX8_take 26 = .ok (.getfield 132, 3) := by decide +kernel
theorem dX8_take_29 : decode cX8_take 29 = .ok (.iconst 1, 1) := by decide +kernel
theorem dX8_take_30 : decode cX8_take 30 = .ok (.iadd, 1) := by decide +kernel
theorem dX8_take_31 : decode cX8_take 31 = .ok (.putfield 132, 3) := by decide +kernel
theorem dX8_take_34 : decode cX8_take 34 = .ok (.aload_n 0, 1) := by decide +kernel
theorem dX8_take_35 : decode cX8_take 35 = .ok (.getfield 135, 3) := by decide +kernel
theorem dX8_take_38 : decode cX8_take 38 = .ok (.ifCond .ne 7, 3) := by decide +kernel
theorem dX8_take_41 : decode cX8_take 41 = .ok (.iconst 1, 1) := by decide +kernel
theorem dX8_take_42 : decode cX8_take 42 = .ok (.goto 4, 3) := by decide +kernel
theorem dX8_take_45 : decode cX8_take 45 = .ok (.iconst 0, 1) := by decide +kernel
theorem dX8_take_46 : decode cX8_take 46 = .ok (.ireturn, 1) := by decide +kernel
theorem dX8_open_0 : decode cX8_open 0 = .ok (.aload_n 0, 1) := by decide +kernel
theorem dX8_open_1 : decode cX8_open 1 = .ok (.iload_n 1, 1) := by decide +kernel
theorem dX8_open_2 : decode cX8_open 2 = .ok (.invokevirtual 143, 3) := by decide +kernel
theorem dX8_open_5 : decode cX8_open 5 = .ok (.pop, 1) := by decide +kernel
theorem dX8_open_6 : decode cX8_open 6 = .ok (.aload_n 0, 1) := by decide +kernel
theorem dX8_open_7 : decode cX8_open 7 = .ok (.aload_n 0, 1) := by decide +kernel
theorem dX8_open_8 : decode cX8_open 8 = .ok (.getfield 135, 3) := by decide +kernel
theorem dX8_open_11 : decode cX8_open 11 = .ok (.ifCond .ne 11, 3) := by decide +kernel
theorem dX8_open_14 : decode cX8_open 14 = .ok (.aload_n 0, 1) := by decide +kernel
theorem dX8_open_15 : decode cX8_open 15 = .ok (.getfield 147, 3) := by decide +kernel
theorem dX8_open_18 : decode cX8_open 18 = .ok (.iconst 4, 1) := by decide +kernel
theorem dX8_open_19 : decode cX8_open 19 = .ok (.if_icmp .ne 7, 3) := by decide +kernel
theorem dX8_open_22 : decode cX8_open 22 = .ok (.iconst 1, 1) := by decide +kernel
theorem dX8_open_23 : decode cX8_open 23 = .ok (.goto 4, 3) := by decide +kernel
theorem dX8_open_26 : decode cX8_open 26 = .ok (.iconst 0, 1) := by decide +kernel
theorem dX8_open_27 : decode cX8_open 27 = .ok (.putfield 135, 3) := by decide +kernel
theorem dX8_open_30 : decode cX8_open 30 = .ok (.aload_n 0, 1) := by decide +kernel
theorem dX8_open_31 : decode cX8_open 31 = .ok (.dup, 1) := by decide +kernel
theorem dX8_open_32 : decode cX8_open 32 = .ok (.getfield 147, 3) := by decide +kernel
theorem dX8_open_35 : decode cX8_open 35 = .ok (.iconst 1, 1) := by decide +kernel
theorem dX8_open_36 : decode cX8_open 36 = .ok (.iadd, 1) := by decide +kernel
theorem dX8_open_37 : decode cX8_open 37 = .ok (.putfield 147, 3) := by decide +kernel
theorem dX8_open_40 : decode cX8_open 40 = .ok (.return_, 1) := by decide +kernel
theorem dX8_close_0 : decode cX8_close 0 = .ok (.aload_n 0, 1) := by decide +kernel
theorem dX8_close_1 : decode cX8_close 1 = .ok (.iload_n 1, 1) := by decide +kernel
theorem dX8_close_2 : decode cX8_close 2 = .ok (.invokevirtual 143, 3) := by decide +kernel
theorem dX8_close_5 : decode cX8_close 5 = .ok (.pop, 1) := by decide +kernel
theorem dX8_close_6 : decode cX8_close 6 = .ok (.aload_n 0, 1) := by decide +kernel
theorem dX8_close_7 : decode cX8_close 7 = .ok (.dup, 1) := by decide +kernel
theorem dX8_close_8 : decode cX8_close 8 = .ok (.getfield 147, 3) := by decide +kernel
theorem dX8_close_11 : decode cX8_close 11 = .ok (.iconst 1, 1) := by decide +kernel
theorem dX8_close_12 : decode cX8_close 12 = .ok (.isub, 1) := by decide +kernel
theorem dX8_close_13 : decode cX8_close 13 = .ok (.putfield 147, 3) := by decide +kernel
theorem dX8_close_16 : decode cX8_close 16 = .ok (.return_, 1) := by decide +kernel
theorem dX8_emit_0 : decode cX8_emit 0 = .ok (.aload_n 0, 1) := by decide +kernel
theorem dX8_emit_1 : decode cX8_emit 1 = .ok (.getfield 150, 3) := by decide +kernel
theorem dX8_emit_4 : decode cX8_emit 4 = .ok (.aload_n 0, 1) := by decide +kernel
theorem dX8_emit_5 : decode cX8_emit 5 = .ok (.getfield 153, 3) := by decide +kernel
theorem dX8_emit_8 : decode cX8_emit 8 = .ok (.iadd, 1) := by decide +kernel
theorem dX8_emit_9 : decode cX8_emit 9 = .ok (.istore 4, 2) := by decide +kernel
theorem dX8_emit_11 : decode cX8_emit 11 = .ok (.aload_n 0, 1) := by decide +kernel
theorem dX8_emit_12 : decode cX8_emit 12 = .ok (.getfield 13, 3) := by decide +kernel
theorem dX8_emit_15 : decode cX8_emit 15 = .ok (.iload 4, 2) := by decide +kernel
theorem dX8_emit_17 : decode cX8_emit 17 = .ok (.iload_n 1, 1) := by decide +kernel
theorem dX8_emit_18 : decode cX8_emit 18 = .ok (.iastore, 1) := by decide +kernel
theorem dX8_emit_19 : decode cX8_emit 19 = .ok (.aload_n 0, 1) := by decide +kernel
theorem dX8_emit_20 : decode cX8_emit 20 = .ok (.getfield 16, 3) := by decide +kernel
theorem dX8_emit_23 : decode cX8_emit 23 = .ok (.iload 4, 2) := by decide +kernel
theorem dX8_emit_25 : decode cX8_emit 25 = .ok (.iload_n 2, 1) := by decide +kernel
theorem dX8_emit_26 : decode cX8_emit 26 = .ok (.iastore, 1) := by decide +kernel
theorem dX8_emit_27 : decode cX8_emit 27 = .ok (.aload_n 0, 1) := by decide +kernel
theorem dX8_emit_28 : decode cX8_emit 28 = .ok (.getfield 19, 3) := by decide +kernel
theorem dX8_emit_31 : decode cX8_emit 31 = .ok (.iload 4, 2) := by decide +kernel
theorem dX8_emit_33 : decode cX8_emit 33 = .ok (.iload_n 3, 1) := by decide +kernel
theorem dX8_emit_34 : decode cX8_emit 34 = .ok (.iastore, 1) := by decide +kernel
theorem dX8_emit_35 : decode cX8_emit 35 = .ok (.aload_n 0, 1) := by decide +kernel
theorem dX8_emit_36 : decode cX8_emit 36 = .ok (.dup, 1) := by decide +kernel
theorem dX8_emit_37 : decode cX8_emit 37 = .ok (.getfield 153, 3) := by decide +kernel
theorem dX8_emit_40 : decode cX8_emit 40 = .ok (.iconst 1, 1) := by decide +kernel
theorem dX8_emit_41 : decode cX8_emit 41 = .ok (.iadd, 1) := by decide +kernel
theorem dX8_emit_42 : decode cX8_emit 42 = .ok (.putfield 153, 3) := by decide +kernel
theorem dX8_emit_45 : decode cX8_emit 45 = .ok (.iload 4, 2) := by decide +kernel
theorem dX8_emit_47 : decode cX8_emit 47 = .ok (.ireturn, 1) := by decide +kernel
theorem dX8_land_0 : decode cX8_land 0 = .ok (.aload_n 0, 1) := by decide +kernel
theorem dX8_land_1 : decode cX8_land 1 = .ok (.getfield 16, 3) := by decide +kernel
theorem dX8_land_4 : decode cX8_land 4 = .ok (.iload_n 1, 1) := by decide +kernel
theorem dX8_land_5 : decode cX8_land 5 = .ok (.aload_n 0, 1) := by decide +kernel
theorem dX8_land_6 : decode cX8_land 6 = .ok (.getfield 150, 3) := by decide +kernel
theorem dX8_land_9 : decode cX8_land 9 = .ok (.aload_n 0, 1) := by decide +kernel
theorem dX8_land_10 : decode cX8_land 10 = .ok (.getfield 153, 3) := by decide +kernel
theorem dX8_land_13 : decode cX8_land 13 = .ok (.iadd, 1) := by decide +kernel
theorem dX8_land_14 : decode cX8_land 14 = .ok (.iastore, 1) := by decide +kernel
theorem dX8_land_15 : decode cX8_land 15 = .ok (.return_, 1) := by decide +kernel
theorem dX8_create_0 : decode cX8_create 0 = .ok (.aload_n 0, 1) := by decide +kernel
theorem dX8_create_1 : decode cX8_create 1 = .ok (.getfield 150, 3) := by decide +kernel
theorem dX8_create_4 : decode cX8_create 4 = .ok (.aload_n 0, 1) := by decide +kernel
theorem dX8_create_5 : decode cX8_create 5 = .ok (.getfield 156, 3) := by decide +kernel
theorem dX8_create_8 : decode cX8_create 8 = .ok (.iadd, 1) := by decide +kernel
theorem dX8_create_9 : decode cX8_create 9 = .ok (.istore 6, 2) := by decide +kernel
theorem dX8_create_11 : decode cX8_create 11 = .ok (.aload_n 0, 1) := by decide +kernel
theorem dX8_create_12 : decode cX8_create 12 = .ok (.getfield 22, 3) := by decide +kernel
theorem dX8_create_15 : decode cX8_create 15 = .ok (.iload 6, 2) := by decide +kernel
theorem dX8_create_17 : decode cX8_create 17 = .ok (.iload_n 1, 1) := by decide +kernel
theorem dX8_create_18 : decode cX8_create 18 = .ok (.iastore, 1) := by decide +kernel
theorem dX8_create_19 : decode cX8_create 19 = .ok (.aload_n 0, 1) := by decide +kernel
theorem dX8_create_20 : decode cX8_create 20 = .ok (.getfield 25, 3) := by decide +kernel
theorem dX8_create_23 : decode cX8_create 23 = .ok (.iload 6, 2) := by decide +kernel
theorem dX8_create_25 : decode cX8_create 25 = .ok (.iload_n 2, 1) := by decide +kernel
theorem dX8_create_26 : decode cX8_create 26 = .ok (.iastore, 1) := by decide +kernel
theorem dX8_create_27 : decode cX8_create 27 = .ok (.aload_n 0, 1) := by decide +kernel
theorem dX8_create_28 : decode cX8_create 28 = .ok (.getfield 28, 3) := by decide +kernel
theorem dX8_create_31 : decode cX8_create 31 = .ok (.iload 6, 2) := by decide +kernel
theorem dX8_create_33 : decode cX8_create 33 = .ok (.iload_n 3, 1) := by decide +kernel
theorem dX8_create_34 : decode cX8_create 34 = .ok (.iastore, 1) := by decide +kernel
theorem dX8_create_35 : decode cX8_create 35 = .ok (.aload_n 0, 1) := by decide +kernel
theorem dX8_create_36 : decode cX8_create 36 = .ok (.getfield 31, 3) := by decide +kernel
theorem dX8_create_39 : decode cX8_create 39 = .ok (.iload 6, 2) := by decide +kernel
theorem dX8_create_41 : decode cX8_create 41 = .ok (.iload 4, 2) := by decide +kernel
theorem dX8_create_43 : decode cX8_create 43 = .ok (.iastore, 1) := by decide +kernel
theorem dX8_create_44 : decode cX8_create 44 = .ok (.aload_n 0, 1) := by decide +kernel
theorem dX8_create_45 : decode cX8_create 45 = .ok (.getfield 34, 3) := by decide +kernel
theorem dX8_create_48 : decode cX8_create 48 = .ok (.iload 6, 2) := by decide +kernel
theorem dX8_create_50 : decode cX8_create 50 = .ok (.iload 5, 2) := by decide +kernel
theorem dX8_create_52 : decode cX8_create 52 = .ok (.iastore, 1) := by decide +kernel
theorem dX8_create_53 : decode cX8_create 53 = .ok (.aload_n 0, 1) := by decide +kernel
theorem dX8_create_54 : decode cX8_create 54 = .ok (.dup, 1) := by decide +kernel
theorem dX8_create_55 : decode cX8_create 55 = .ok (.getfield 156, 3) := by decide +kernel
theorem dX8_create_58 : decode cX8_create 58 = .ok (.iconst 1, 1) := by decide +kernel
theorem dX8_create_59 : decode cX8_create 59 = .ok (.iadd, 1) := by decide +kernel
theorem dX8_create_60 : decode cX8_create 60 = .ok (.putfield 156, 3) := by decide +kernel
theorem dX8_create_63 : decode cX8_create 63 = .ok (.iload 6, 2) := by decide +kernel
theorem dX8_create_65 : decode cX8_create 65 = .ok (.ireturn, 1) := by decide +kernel
theorem dX8_push_0 : decode cX8_push 0 = .ok (.aload_n 0, 1) := by decide +kernel
theorem dX8_push_1 : decode cX8_push 1 = .ok (.getfield 37, 3) := by decide +kernel
theorem dX8_push_4 : decode cX8_push 4 = .ok (.aload_n 0, 1) := by decide +kernel
theorem dX8_push_5 : decode cX8_push 5 = .ok (.getfield 159, 3) := by decide +kernel
theorem dX8_push_8 : decode cX8_push 8 = .ok (.iload_n 1, 1) := by decide +kernel
theorem dX8_push_9 : decode cX8_push 9 = .ok (.iastore, 1) := by decide +kernel
theorem dX8_push_10 : decode cX8_push 10 = .ok (.aload_n 0, 1) := by decide +kernel
theorem dX8_push_11 : decode cX8_push 11 = .ok (.getfield 40, 3) := by decide +kernel
theorem dX8_push_14 : decode cX8_push 14 = .ok (.aload_n 0, 1) := by decide +kernel
theorem dX8_push_15 : decode cX8_push 15 = .ok (.getfield 159, 3) := by decide +kernel
theorem dX8_push_18 : decode cX8_push 18 = .ok (.iconst 0, 1) := by decide +kernel
theorem dX8_push_19 : decode cX8_push 19 = .ok (.iastore, 1) := by decide +kernel
theorem dX8_push_20 : decode cX8_push 20 = .ok (.aload_n 0, 1) := by decide +kernel
theorem dX8_push_21 : decode cX8_push 21 = .ok (.getfield 43, 3) := by decide +kernel
theorem dX8_push_24 : decode cX8_push 24 = .ok (.aload_n 0, 1) := by decide +kernel
theorem dX8_push_25 : decode cX8_push 25 = .ok (.getfield 159, 3) := by decide +kernel
theorem dX8_push_28 : decode cX8_push 28 = .ok (.iconst (-1), 1) := by decide +kernel
theorem dX8_push_29 : decode cX8_push 29 = .ok (.iastore, 1) := by decide +kernel
theorem dX8_push_30 : decode cX8_push 30 = .ok (.aload_n 0, 1) := by decide +kernel
theorem dX8_push_31 : decode cX8_push 31 = .ok (.dup, 1) := by decide +kernel
theorem dX8_push_32 : decode cX8_push 32 = .ok (.getfield 159, 3) := by decide +kernel
theorem dX8_push_35 : decode cX8_push 35 = .ok (.iconst 1, 1) := by decide +kernel
theorem dX8_push_36 : decode cX8_push 36 = .ok (.iadd, 1) := by decide +kernel
theorem dX8_push_37 : decode cX8_push 37 = .ok (.putfield 159, 3) := by decide +kernel
theorem dX8_push_40 : decode cX8_push 40 = .ok (.return_, 1) := by decide +kernel
theorem dX8_finish_0 : decode cX8_finish 0 = .ok (.aload_n 0, 1) := by decide +kernel
theorem dX8_finish_1 : decode cX8_finish 1 = .ok (.iload_n 1, 1) := by decide +kernel
theorem dX8_finish_2 : decode cX8_finish 2 = .ok (.putfield 162, 3) := by decide +kernel
theorem dX8_finish_5 : decode cX8_finish 5 = .ok (.aload_n 0, 1) := by decide +kernel
theorem dX8_finish_6 : decode cX8_finish 6 = .ok (.dup, 1) := by decide +kernel
theorem dX8_finish_7 : decode cX8_finish 7 = .ok (.getfield 159, 3) := by decide +kernel
theorem dX8_finish_10 : decode cX8_finish 10 = .ok (.iconst 1, 1) := by decide +kernel
theorem dX8_finish_11 : decode cX8_finish 11 = .ok (.isub, 1) := by decide +kernel
theorem dX8_finish_12 : decode cX8_finish 12 = .ok (.putfield 159, 3) := by decide +kernel
theorem dX8_finish_15 : decode cX8_finish 15 = .ok (.return_, 1) := by decide +kernel
theorem dX8_read_0 : decode cX8_read 0 = .ok (.aload_n 0, 1) := by decide +kernel
theorem dX8_read_1 : decode cX8_read 1 = .ok (.sipush 256, 3) := by decide +kernel
theorem dX8_read_4 : decode cX8_read 4 = .ok (.aload_n 0, 1) := by decide +kernel
theorem dX8_read_5 : decode cX8_read 5 = .ok (.getfield 165, 3) := by decide +kernel
theorem dX8_read_8 : decode cX8_read 8 = .ok (.isub, 1) := by decide +kernel
theorem dX8_read_9 : decode cX8_read 9 = .ok (.putfield 150, 3) := by decide +kernel
theorem dX8_read_12 : decode cX8_read 12 = .ok (.aload_n 0, 1) := by decide +kernel
theorem dX8_read_13 : decode cX8_read 13 = .ok (.iconst 0, 1) := by decide +kernel
theorem dX8_read_14 : decode cX8_read 14 = .ok (.putfield 153, 3) := by decide +kernel
theorem dX8_read_17 : decode cX8_read 17 = .ok (.aload_n 0, 1) := by decide +kernel
theorem dX8_read_18 : decode cX8_read 18 = .ok (.iconst 0, 1) := by decide +kernel
theorem dX8_read_19 : decode cX8_read 19 = .ok (.putfield 156, 3) := by decide +kernel
theorem dX8_read_22 : decode cX8_read 22 = .ok (.aload_n 0, 1) := by decide +kernel
theorem dX8_read_23 : decode cX8_read 23 = .ok (.iconst 0, 1) := by decide +kernel
theorem dX8_read_24 : decode cX8_read 24 = .ok (.putfield 132, 3) := by decide +kernel
theorem dX8_read_27 : decode cX8_read 27 = .ok (.aload_n 0, 1) := by decide +kernel
theorem dX8_read_28 : decode cX8_read 28 = .ok (.iconst 0, 1) := by decide +kernel
theorem dX8_read_29 : decode cX8_read 29 = .ok (.putfield 147, 3) := by decide +kernel
theorem dX8_read_32 : decode cX8_read 32 = .ok (.aload_n 0, 1) := by decide +kernel
theorem dX8_read_33 : decode cX8_read 33 = .ok (.iconst 0, 1) := by decide +kernel
theorem dX8_read_34 : decode cX8_read 34 = .ok (.putfield 159, 3) := by decide +kernel
theorem dX8_read_37 : decode cX8_read 37 = .ok (.aload_n 0, 1) := by decide +kernel
theorem dX8_read_38 : decode cX8_read 38 = .ok (.iconst 0, 1) := by decide +kernel
theorem dX8_read_39 : decode cX8_read 39 = .ok (.putfield 168, 3) := by decide +kernel
theorem dX8_read_42 : decode cX8_read 42 = .ok (.aload_n 0, 1) := by decide +kernel
theorem dX8_read_43 : decode cX8_read 43 = .ok (.iconst 0, 1) := by decide +kernel
theorem dX8_read_44 : decode cX8_read 44 = .ok (.putfield 135, 3) := by decide +kernel
theorem dX8_read_47 : decode cX8_read 47 = .ok (.aload_n 0, 1) := by decide +kernel
theorem dX8_read_48 : decode cX8_read 48 = .ok (.iconst 0, 1) := by decide +kernel
theorem dX8_read_49 : decode cX8_read 49 = .ok (.invokevirtual 171, 3) := by decide +kernel
theorem dX8_read_52 : decode cX8_read 52 = .ok (.aload_n 0, 1) := by decide +kernel
theorem dX8_read_53 : decode cX8_read 53 = .ok (.getfield 159, 3) := by decide +kernel
theorem dX8_read_56 : decode cX8_read 56 = .ok (.ifCond .le 23, 3) := by decide +kernel
theorem dX8_read_59 : decode cX8_read 59 = .ok (.aload_n 0, 1) := by decide +kernel
theorem dX8_read_60 : decode cX8_read 60 = .ok (.getfield 135, 3) := by decide +kernel
theorem dX8_read_63 : decode cX8_read 63 = .ok (.ifCond .ne 16, 3) := by decide +kernel
theorem dX8_read_66 : decode cX8_read 66 = .ok (.aload_n 0, 1) := by decide +kernel
theorem dX8_read_67 : decode cX8_read 67 = .ok (.aload_n 0, 1) := by decide +kernel
theorem dX8_read_68 : decode cX8_read 68 = .ok (.getfield 159, 3) := by decide +kernel
theorem dX8_read_71 : decode cX8_read 71 = .ok (.iconst 1, 1) := by decide +kernel
theorem dX8_read_72 : decode cX8_read 72 = .ok (.isub, 1) := by decide +kernel
theorem dX8_read_73 : decode cX8_read 73 = .ok (.invokevirtual 175, 3) := by decide +kernel
theorem dX8_read_76 : decode cX8_read 76 = .ok (.goto (-24), 3) := by decide +kernel
theorem dX8_read_79 : decode cX8_read 79 = .ok (.aload_n 0, 1) := by decide +kernel
theorem dX8_read_80 : decode cX8_read 80 = .ok (.bipush 14, 2) := by decide +kernel
theorem dX8_read_82 : decode cX8_read 82 = .ok (.iconst 0, 1) := by decide +kernel
theorem dX8_read_83 : decode cX8_read 83 = .ok (.iconst (-1), 1) := by decide +kernel
theorem dX8_read_84 : decode cX8_read 84 = .ok (.invokevirtual 178, 3) := by decide +kernel
theorem dX8_read_87 : decode cX8_read 87 = .ok (.pop, 1) := by decide +kernel
theorem dX8_read_88 : decode cX8_read 88 = .ok (.aload_n 0, 1) := by decide +kernel
theorem dX8_read_89 : decode cX8_read 89 = .ok (.aload_n 0, 1) := by decide +kernel
theorem dX8_read_90 : decode cX8_read 90 = .ok (.getfield 162, 3) := by decide +kernel
theorem dX8_read_93 : decode cX8_read 93 = .ok (.putfield 182, 3) := by decide +kernel
theorem dX8_read_96 : decode cX8_read 96 = .ok (.aload_n 0, 1) := by decide +kernel
theorem dX8_read_97 : decode cX8_read 97 = .ok (.getfield 135, 3) := by decide +kernel
theorem dX8_read_100 : decode cX8_read 100 = .ok (.ifCond .ne 18, 3) := by decide +kernel
theorem dX8_read_103 : decode cX8_read 103 = .ok (.aload_n 0, 1) := by decide +kernel
theorem dX8_read_104 : decode cX8_read 104 = .ok (.getfield 132, 3) := by decide +kernel
theorem dX8_read_107 : decode cX8_read 107 = .ok (.aload_n 0, 1) := by decide +kernel
theorem dX8_read_108 : decode cX8_read 108 = .ok (.getfield 129, 3) := by decide +kernel
theorem dX8_read_111 : decode cX8_read 111 = .ok (.if_icmp .ne 7, 3) := by decide +kernel
theorem dX8_read_114 : decode cX8_read 114 = .ok (.iconst 1, 1) := by decide +kernel
theorem dX8_read_115 : decode cX8_read 115 = .ok (.goto 4, 3) := by decide +kernel
theorem dX8_read_118 : decode cX8_read 118 = .ok (.iconst 0, 1) := by decide +kernel
theorem dX8_read_119 : decode cX8_read 119 = .ok (.ireturn, 1) := by decide +kernel
theorem dX8_step_0 : decode cX8_step 0 = .ok (.aload_n 0, 1) := by decide +kernel
theorem dX8_step_1 : decode cX8_step 1 = .ok (.getfield 37, 3) := by decide +kernel
theorem dX8_step_4 : decode cX8_step 4 = .ok (.iload_n 1, 1) := by decide +kernel
theorem dX8_step_5 : decode cX8_step 5 = .ok (.iaload, 1) := by decide +kernel
theorem dX8_step_6 : decode cX8_step 6 = .ok (.tableswitch 108 0 6 #[42, 50, 58, 69, 80, 88, 98], 42) := by decide +kernel
theorem dX8_step_48 : decode cX8_step 48 = .ok (.aload_n 0, 1) := by decide +kernel
theorem dX8_step_49 : decode cX8_step 49 = .ok (.iload_n 1, 1) := by decide +kernel
theorem dX8_step_50 : decode cX8_step 50 = .ok (.invokevirtual 185, 3) := by decide +kernel
theorem dX8_step_53 : decode cX8_step 53 = .ok (.goto 66, 3) := by decide +kernel
theorem dX8_step_56 : decode cX8_step 56 = .ok (.aload_n 0, 1) := by decide +kernel
theorem dX8_step_57 : decode cX8_step 57 = .ok (.iload_n 1, 1) := by decide +kernel
theorem dX8_step_58 : decode cX8_step 58 = .ok (.invokevirtual 188, 3) := by decide +kernel
theorem dX8_step_61 : decode cX8_step 61 = .ok (.goto 58, 3) := by decide +kernel
theorem dX8_step_64 : decode cX8_step 64 = .ok (.aload_n 0, 1) := by decide +kernel
theorem dX8_step_65 : decode cX8_step 65 = .ok (.iload_n 1, 1) := by decide +kernel
theorem dX8_step_66 : decode cX8_step 66 = .ok (.bipush 124, 2) := by decide +kernel
theorem dX8_step_68 : decode cX8_step 68 = .ok (.iconst 3, 1) := by decide +kernel
theorem dX8_step_69 : decode cX8_step 69 = .ok (.invokevirtual 191, 3) := by decide +kernel
theorem dX8_step_72 : decode cX8_step 72 = .ok (.goto 47, 3) := by decide +kernel
theorem dX8_step_75 : decode cX8_step 75 = .ok (.aload_n 0, 1) := by decide +kernel
theorem dX8_step_76 : decode cX8_step 76 = .ok (.iload_n 1, 1) := by decide +kernel
theorem dX8_step_77 : decode cX8_step 77 = .ok (.bipush 38, 2) := by decide +kernel
theorem dX8_step_79 : decode cX8_step 79 = .ok (.iconst 4, 1) := by decide +kernel
theorem dX8_step_80 : decode cX8_step 80 = .ok (.invokevirtual 191, 3) := by decide +kernel
theorem dX8_step_83 : decode cX8_step 83 = .ok (.goto 36, 3) := by decide +kernel
theorem dX8_step_86 : decode cX8_step 86 = .ok (.aload_n 0, 1) := by decide +kernel
theorem dX8_step_87 : decode cX8_step 87 = .ok (.iload_n 1, 1) := by decide +kernel
theorem dX8_step_88 : decode cX8_step 88 = .ok (.invokevirtual 195, 3) := by decide +kernel
theorem dX8_step_91 : decode cX8_step 91 = .ok (.goto 28, 3) := by decide +kernel
theorem dX8_step_94 : decode cX8_step 94 = .ok (.aload_n 0, 1) := by decide +kernel
theorem dX8_step_95 : decode cX8_step 95 = .ok (.iload_n 1, 1) := by decide +kernel
theorem dX8_step_96 : decode cX8_step 96 = .ok (.bipush 6, 2) := by decide +kernel
theorem dX8_step_98 : decode cX8_step 98 = .ok (.invokevirtual 198, 3) := by decide +kernel
theorem dX8_step_101 : decode cX8_step 101 = .ok (.goto 18, 3) := by decide +kernel
theorem dX8_step_104 : decode cX8_step 104 = .ok (.aload_n 0, 1) := by decide +kernel
theorem dX8_step_105 : decode cX8_step 105 = .ok (.iload_n 1, 1) := by decide +kernel
theorem dX8_step_106 : decode cX8_step 106 = .ok (.bipush 7, 2) := by decide +kernel
theorem dX8_step_108 : decode cX8_step 108 = .ok (.invokevirtual 198, 3) := by decide +kernel
theorem dX8_step_111 : decode cX8_step 111 = .ok (.goto 8, 3) := by decide +kernel
theorem dX8_step_114 : decode cX8_step 114 = .ok (.aload_n 0, 1) := by decide +kernel
theorem dX8_step_115 : decode cX8_step 115 = .ok (.iload_n 1, 1) := by decide +kernel
theorem dX8_step_116 : decode cX8_step 116 = .ok (.invokevirtual 202, 3) := by decide +kernel
theorem dX8_step_119 : decode cX8_step 119 = .ok (.return_, 1) := by decide +kernel
theorem dX8_stepRow_0 : decode cX8_stepRow 0 = .ok (.aload_n 0, 1) := by decide +kernel
theorem dX8_stepRow_1 : decode cX8_stepRow 1 = .ok (.getfield 40, 3) := by decide +kernel
theorem dX8_stepRow_4 : decode cX8_stepRow 4 = .ok (.iload_n 1, 1) := by decide +kernel
theorem dX8_stepRow_5 : decode cX8_stepRow 5 = .ok (.iaload, 1) := by decide +kernel
theorem dX8_stepRow_6 : decode cX8_stepRow 6 = .ok (.ifCond .ne 13, 3) := by decide +kernel
theorem dX8_stepRow_9 : decode cX8_stepRow 9 = .ok (.aload_n 0, 1) := by decide +kernel
theorem dX8_stepRow_10 : decode cX8_stepRow 10 = .ok (.getfield 43, 3) := by decide +kernel
theorem dX8_stepRow_13 : decode cX8_stepRow 13 = .ok (.iload_n 1, 1) := by decide +kernel
theorem dX8_stepRow_14 : decode cX8_stepRow 14 = .ok (.aload_n 0, 1) := by decide +kernel
theorem dX8_stepRow_15 : decode cX8_stepRow 15 = .ok (.getfield 168, 3) := by decide +kernel
theorem dX8_stepRow_18 : decode cX8_stepRow 18 = .ok (.iastore, 1) := by decide +kernel
theorem dX8_stepRow_19 : decode cX8_stepRow 19 = .ok (.aload_n 0, 1) := by decide +kernel
theorem dX8_stepRow_20 : decode cX8_stepRow 20 = .ok (.getfield 40, 3) := by decide +kernel
theorem dX8_stepRow_23 : decode cX8_stepRow 23 = .ok (.iload_n 1, 1) := by decide +kernel
theorem dX8_stepRow_24 : decode cX8_stepRow 24 = .ok (.iaload, 1) := by decide +kernel
theorem dX8_stepRow_25 : decode cX8_stepRow 25 = .ok (.iconst 1, 1) := by decide +kernel
theorem dX8_stepRow_26 : decode cX8_stepRow 26 = .ok (.if_icmp .ne 26, 3) := by decide +kernel
theorem dX8_stepRow_29 : decode cX8_stepRow 29 = .ok (.aload_n 0, 1) := by decide +kernel
theorem dX8_stepRow_30 : decode cX8_stepRow 30 = .ok (.getfield 58, 3) := by decide +kernel
theorem dX8_stepRow_33 : decode cX8_stepRow 33 = .ok (.aload_n 0, 1) := by decide +kernel
theorem dX8_stepRow_34 : decode cX8_stepRow 34 = .ok (.getfield 168, 3) := by decide +kernel
theorem dX8_stepRow_37 : decode cX8_stepRow 37 = .ok (.aload_n 0, 1) := by decide +kernel
theorem dX8_stepRow_38 : decode cX8_stepRow 38 = .ok (.getfield 162, 3) := by decide +kernel
theorem dX8_stepRow_41 : decode cX8_stepRow 41 = .ok (.iastore, 1) := by decide +kernel
theorem dX8_stepRow_42 : decode cX8_stepRow 42 = .ok (.aload_n 0, 1) := by decide +kernel
theorem dX8_stepRow_43 : decode cX8_stepRow 43 = .ok (.dup, 1) := by decide +kernel
theorem dX8_stepRow_44 : decode cX8_stepRow 44 = .ok (.getfield 168, 3) := by decide +kernel
theorem dX8_stepRow_47 : decode cX8_stepRow 47 = .ok (.iconst 1, 1) := by decide +kernel
theorem dX8_stepRow_48 : decode cX8_stepRow 48 = .ok (.iadd, 1) := by decide +kernel
theorem dX8_stepRow_49 : decode cX8_stepRow 49 = .ok (.putfield 168, 3) := by decide +kernel
theorem dX8_stepRow_52 : decode cX8_stepRow 52 = .ok (.aload_n 0, 1) := by decide +kernel
theorem dX8_stepRow_53 : decode cX8_stepRow 53 = .ok (.getfield 40, 3) := by decide +kernel
theorem dX8_stepRow_56 : decode cX8_stepRow 56 = .ok (.iload_n 1, 1) := by decide +kernel
theorem dX8_stepRow_57 : decode cX8_stepRow 57 = .ok (.iconst 1, 1) := by decide +kernel
theorem dX8_stepRow_58 : decode cX8_stepRow 58 = .ok (.iastore, 1) := by decide +kernel
theorem dX8_stepRow_59 : decode cX8_stepRow 59 = .ok (.aload_n 0, 1) := by decide +kernel
theorem dX8_stepRow_60 : decode cX8_stepRow 60 = .ok (.getfield 132, 3) := by decide +kernel
theorem dX8_stepRow_63 : decode cX8_stepRow 63 = .ok (.aload_n 0, 1) := by decide +kernel
theorem dX8_stepRow_64 : decode cX8_stepRow 64 = .ok (.getfield 129, 3) := by decide +kernel
theorem dX8_stepRow_67 : decode cX8_stepRow 67 = .ok (.if_icmp .ge 25, 3) := by decide +kernel
theorem dX8_stepRow_70 : decode cX8_stepRow 70 = .ok (.aload_n 0, 1) := by decide +kernel
theorem dX8_stepRow_71 : decode cX8_stepRow 71 = .ok (.invokevirtual 139, 3) := by decide +kernel
theorem dX8_stepRow_74 : decode cX8_stepRow 74 = .ok (.bipush 125, 2) := by decide +kernel
theorem dX8_stepRow_76 : decode cX8_stepRow 76 = .ok (.if_icmp .ne 10, 3) := by decide +kernel
theorem dX8_stepRow_79 : decode cX8_stepRow 79 = .ok (.aload_n 0, 1) := by decide +kernel
theorem dX8_stepRow_80 : decode cX8_stepRow 80 = .ok (.getfield 147, 3) := by decide +kernel
theorem dX8_stepRow_83 : decode cX8_stepRow 83 = .ok (.ifCond .ne 9, 3) := by decide +kernel
theorem dX8_stepRow_86 : decode cX8_stepRow 86 = .ok (.aload_n 0, 1) := by decide +kernel
theorem dX8_stepRow_87 : decode cX8_stepRow 87 = .ok (.iconst 1, 1) := by decide +kernel
theorem dX8_stepRow_88 : decode cX8_stepRow 88 = .ok (.invokevirtual 171, 3) := by decide +kernel
theorem dX8_stepRow_91 : decode cX8_stepRow 91 = .ok (.return_, 1) := by decide +kernel
theorem dX8_stepRow_92 : decode cX8_stepRow 92 = .ok (.iconst (-1), 1) := by decide +kernel
theorem dX8_stepRow_93 : decode cX8_stepRow 93 = .ok (.istore_n 2, 1) := by decide +kernel
theorem dX8_stepRow_94 : decode cX8_stepRow 94 = .ok (.aload_n 0, 1) := by decide +kernel
theorem dX8_stepRow_95 : decode cX8_stepRow 95 = .ok (.getfield 168, 3) := by decide +kernel
theorem dX8_stepRow_98 : decode cX8_stepRow 98 = .ok (.aload_n 0, 1) := by decide +kernel
theorem dX8_stepRow_99 : decode cX8_stepRow 99 = .ok (.getfield 43, 3) := by decide +kernel
theorem dX8_stepRow_102 : decode cX8_stepRow 102 = .ok (.iload_n 1, 1) := by decide +kernel
theorem dX8_stepRow_103 : decode cX8_stepRow 103 = .ok (.iaload, 1) := by decide +kernel
theorem dX8_stepRow_104 : decode cX8_stepRow 104 = .ok (.if_icmp .le 35, 3) := by decide +kernel
theorem dX8_stepRow_107 : decode cX8_stepRow 107 = .ok (.aload_n 0, 1) := by decide +kernel
theorem dX8_stepRow_108 : decode cX8_stepRow 108 = .ok (.dup, 1) := by decide +kernel
theorem dX8_stepRow_109 : decode cX8_stepRow 109 = .ok (.getfield 168, 3) := by decide +kernel
theorem dX8_stepRow_112 : decode cX8_stepRow 112 = .ok (.iconst 1, 1) := by decide +kernel
theorem dX8_stepRow_113 : decode cX8_stepRow 113 = .ok (.isub, 1) := by decide +kernel
theorem dX8_stepRow_114 : decode cX8_stepRow 114 = .ok (.putfield 168, 3) := by decide +kernel
theorem dX8_stepRow_117 : decode cX8_stepRow 117 = .ok (.aload_n 0, 1) := by decide +kernel
theorem dX8_stepRow_118 : decode cX8_stepRow 118 = .ok (.bipush 11, 2) := by decide +kernel
theorem dX8_stepRow_120 : decode cX8_stepRow 120 = .ok (.aload_n 0, 1) := by decide +kernel
theorem dX8_stepRow_121 : decode cX8_stepRow 121 = .ok (.getfield 58, 3) := by decide +kernel
theorem dX8_stepRow_124 : decode cX8_stepRow 124 = .ok (.aload_n 0, 1) := by decide +kernel
theorem dX8_stepRow_125 : decode cX8_stepRow 125 = .ok (.getfield 168, 3) := by decide +kernel
theorem dX8_stepRow_128 : decode cX8_stepRow 128 = .ok (.iaload, 1) := by decide +kernel
theorem dX8_stepRow_129 : decode cX8_stepRow 129 = .ok (.iload_n 2, 1) := by decide +kernel
theorem dX8_stepRow_130 : decode cX8_stepRow 130 = .ok (.iconst 0, 1) := by decide +kernel
theorem dX8_stepRow_131 : decode cX8_stepRow 131 = .ok (.iconst (-1), 1) := by decide +kernel
theorem dX8_stepRow_132 : decode cX8_stepRow 132 = .ok (.invokevirtual 205, 3) := by decide +kernel
theorem dX8_stepRow_135 : decode cX8_stepRow 135 = .ok (.istore_n 2, 1) := by decide +kernel
theorem dX8_stepRow_136 : decode cX8_stepRow 136 = .ok (.goto (-42), 3) := by decide +kernel
theorem dX8_stepRow_139 : decode cX8_stepRow 139 = .ok (.aload_n 0, 1) := by decide +kernel
theorem dX8_stepRow_140 : decode cX8_stepRow 140 = .ok (.iload_n 2, 1) := by decide +kernel
theorem dX8_stepRow_141 : decode cX8_stepRow 141 = .ok (.invokevirtual 209, 3) := by decide +kernel
theorem dX8_stepRow_144 : decode cX8_stepRow 144 = .ok (.return_, 1) := by decide +kernel
theorem dX8_stepStatement_0 : decode cX8_stepStatement 0 = .ok (.aload_n 0, 1) := by decide +kernel
theorem dX8_stepStatement_1 : decode cX8_stepStatement 1 = .ok (.getfield 40, 3) := by decide +kernel
theorem dX8_stepStatement_4 : decode cX8_stepStatement 4 = .ok (.iload_n 1, 1) := by decide +kernel
theorem dX8_stepStatement_5 : decode cX8_stepStatement 5 = .ok (.iaload, 1) := by decide +kernel
theorem dX8_stepStatement_6 : decode cX8_stepStatement 6 = .ok (.ifCond .ne 9, 3) := by decide +kernel
theorem dX8_stepStatement_9 : decode cX8_stepStatement 9 = .ok (.aload_n 0, 1) := by decide +kernel
theorem dX8_stepStatement_10 : decode cX8_stepStatement 10 = .ok (.iload_n 1, 1) := by decide +kernel
theorem dX8_stepStatement_11 : decode cX8_stepStatement 11 = .ok (.invokevirtual 212, 3) := by decide +kernel
theorem dX8_stepStatement_14 : decode cX8_stepStatement 14 = .ok (.return_, 1) := by decide +kernel
theorem dX8_stepStatement_15 : decode cX8_stepStatement 15 = .ok (.aload_n 0, 1) := by decide +kernel
theorem dX8_stepStatement_16 : decode cX8_stepStatement 16 = .ok (.getfield 19, 3) := by decide +kernel
theorem dX8_stepStatement_19 : decode cX8_stepStatement 19 = .ok (.aload_n 0, 1) := by decide +kernel
theorem dX8_stepStatement_20 : decode cX8_stepStatement 20 = .ok (.getfield 46, 3) := by decide +kernel
theorem dX8_stepStatement_23 : decode cX8_stepStatement 23 = .ok (.iload_n 1, 1) := by decide +kernel
theorem dX8_stepStatement_24 : decode cX8_stepStatement 24 = .ok (.iaload, 1) := by decide +kernel
theorem dX8_stepStatement_25 : decode cX8_stepStatement 25 = .ok (.iaload, 1) := by decide +kernel
theorem dX8_stepStatement_26 : decode cX8_stepStatement 26 = .ok (.istore_n 2, 1) := by decide +kernel
theorem dX8_stepStatement_27 : decode cX8_stepStatement 27 = .ok (.aload_n 0, 1) := by decide +kernel
theorem dX8_stepStatement_28 : decode cX8_stepStatement 28 = .ok (.getfield 40, 3) := by decide +kernel
theorem dX8_stepStatement_31 : decode cX8_stepStatement 31 = .ok (.iload_n 1, 1) := by decide +kernel
theorem dX8_stepStatement_32 : decode cX8_stepStatement 32 = .ok (.iaload, 1) := by decide +kernel
theorem dX8_stepStatement_33 : decode cX8_stepStatement 33 = .ok (.tableswitch 339 1 7 #[43, 90, 135, 144, 191, 246, 302], 43) := by decide +kernel
theorem dX8_stepStatement_76 : decode cX8_stepStatement 76 = .ok (.aload_n 0, 1) := by decide +kernel
theorem dX8_stepStatement_77 : decode cX8_stepStatement 77 = .ok (.bipush 59, 2) := by decide +kernel
theorem dX8_stepStatement_79 : decode cX8_stepStatement 79 = .ok (.invokevirtual 143, 3) := by decide +kernel
theorem dX8_stepStatement_82 : decode cX8_stepStatement 82 = .ok (.pop, 1) := by decide +kernel
theorem dX8_stepStatement_83 : decode cX8_stepStatement 83 = .ok (.aload_n 0, 1) := by decide +kernel
theorem dX8_stepStatement_84 : decode cX8_stepStatement 84 = .ok (.bipush 8, 2) := by decide +kernel
theorem dX8_stepStatement_86 : decode cX8_stepStatement 86 = .ok (.aload_n 0, 1) := by decide +kernel
theorem dX8_stepStatement_87 : decode cX8_stepStatement 87 = .ok (.getfield 49, 3) := by decide +kernel
theorem dX8_stepStatement_90 : decode cX8_stepStatement 90 = .ok (.iload_n 1, 1) := by decide +kernel
theorem dX8_stepStatement_91 : decode cX8_stepStatement 91 = .ok (.iaload, 1) := by decide +kernel
theorem dX8_stepStatement_92 : decode cX8_stepStatement 92 = .ok (.iconst (-1), 1) := by decide +kernel
theorem dX8_stepStatement_93 : decode cX8_stepStatement 93 = .ok (.invokevirtual 178, 3) := by decide +kernel
theorem dX8_stepStatement_96 : decode cX8_stepStatement 96 = .ok (.pop, 1) := by decide +kernel
theorem dX8_stepStatement_97 : decode cX8_stepStatement 97 = .ok (.aload_n 0, 1) := by decide +kernel
theorem dX8_stepStatement_98 : decode cX8_stepStatement 98 = .ok (.iload_n 1, 1) := by decide +kernel
theorem dX8_stepStatement_99 : decode cX8_stepStatement 99 = .ok (.aload_n 0, 1) := by decide +kernel
theorem dX8_stepStatement_100 : decode cX8_stepStatement 100 = .ok (.bipush 6, 2) := by decide +kernel
theorem dX8_stepStatement_102 : decode cX8_stepStatement 102 = .ok (.aload_n 0, 1) := by decide +kernel
theorem dX8_stepStatement_103 : decode cX8_stepStatement 103 = .ok (.getfield 49, 3) := by decide +kernel
theorem dX8_stepStatement_106 : decode cX8_stepStatement 106 = .ok (.iload_n 1, 1) := by decide +kernel
theorem dX8_stepStatement_107 : decode cX8_stepStatement 107 = .ok (.iaload, 1) := by decide +kernel
theorem dX8_stepStatement_108 : decode cX8_stepStatement 108 = .ok (.aload_n 0, 1) := by decide +kernel
theorem dX8_stepStatement_109 : decode cX8_stepStatement 109 = .ok (.getfield 162, 3) := by decide +kernel
theorem dX8_stepStatement_112 : decode cX8_stepStatement 112 = .ok (.iconst 0, 1) := by decide +kernel
theorem dX8_stepStatement_113 : decode cX8_stepStatement 113 = .ok (.iload_n 2, 1) := by decide +kernel
theorem dX8_stepStatement_114 : decode cX8_stepStatement 114 = .ok (.invokevirtual 205, 3) := by decide +kernel
theorem dX8_stepStatement_117 : decode cX8_stepStatement 117 = .ok (.invokevirtual 215, 3) := by decide +kernel
theorem dX8_stepStatement_120 : decode cX8_stepStatement 120 = .ok (.goto 286, 3) := by decide +kernel
theorem dX8_stepStatement_123 : decode cX8_stepStatement 123 = .ok (.aload_n 0, 1) := by decide +kernel
theorem dX8_stepStatement_124 : decode cX8_stepStatement 124 = .ok (.getfield 43, 3) := by decide +kernel
theorem dX8_stepStatement_127 : decode cX8_stepStatement 127 = .ok (.iload_n 1, 1) := by decide +kernel
theorem dX8_stepStatement_128 : decode cX8_stepStatement 128 = .ok (.aload_n 0, 1) := by decide +kernel
theorem dX8_stepStatement_129 : decode cX8_stepStatement 129 = .ok (.getfield 162, 3) := by decide +kernel
theorem dX8_stepStatement_132 : decode cX8_stepStatement 132 = .ok (.iastore, 1) := by decide +kernel
theorem dX8_stepStatement_133 : decode cX8_stepStatement 133 = .ok (.aload_n 0, 1) := by decide +kernel
theorem dX8_stepStatement_134 : decode cX8_stepStatement 134 = .ok (.bipush 123, 2) := by decide +kernel
theorem dX8_stepStatement_136 : decode cX8_stepStatement 136 = .ok (.invokevirtual 218, 3) := by decide +kernel
theorem dX8_stepStatement_139 : decode cX8_stepStatement 139 = .ok (.aload_n 0, 1) := by decide +kernel
theorem dX8_stepStatement_140 : decode cX8_stepStatement 140 = .ok (.getfield 52, 3) := by decide +kernel
theorem dX8_stepStatement_143 : decode cX8_stepStatement 143 = .ok (.iload_n 1, 1) := by decide +kernel
theorem dX8_stepStatement_144 : decode cX8_stepStatement 144 = .ok (.aload_n 0, 1) := by decide +kernel
theorem dX8_stepStatement_145 : decode cX8_stepStatement 145 = .ok (.bipush 9, 2) := by decide +kernel
theorem dX8_stepStatement_147 : decode cX8_stepStatement 147 = .ok (.iconst 0, 1) := by decide +kernel
theorem dX8_stepStatement_148 : decode cX8_stepStatement 148 = .ok (.iconst (-1), 1) := by decide +kernel
theorem dX8_stepStatement_149 : decode cX8_stepStatement 149 = .ok (.invokevirtual 178, 3) := by decide +kernel
theorem dX8_stepStatement_152 : decode cX8_stepStatement 152 = .ok (.iastore, 1) := by decide +kernel
theorem dX8_stepStatement_153 : decode cX8_stepStatement 153 = .ok (.aload_n 0, 1) := by decide +kernel
theorem dX8_stepStatement_154 : decode cX8_stepStatement 154 = .ok (.getfield 40, 3) := by decide +kernel
theorem dX8_stepStatement_157 : decode cX8_stepStatement 157 = .ok (.iload_n 1, 1) := by decide +kernel
theorem dX8_stepStatement_158 : decode cX8_stepStatement 158 = .ok (.iconst 3, 1) := by decide +kernel
theorem dX8_stepStatement_159 : decode cX8_stepStatement 159 = .ok (.iastore, 1) := by decide +kernel
theorem dX8_stepStatement_160 : decode cX8_stepStatement 160 = .ok (.aload_n 0, 1) := by decide +kernel
theorem dX8_stepStatement_161 : decode cX8_stepStatement 161 = .ok (.iconst 0, 1) := by decide +kernel
theorem dX8_stepStatement_162 : decode cX8_stepStatement 162 = .ok (.invokevirtual 171, 3) := by decide +kernel
theorem dX8_stepStatement_165 : decode cX8_stepStatement 165 = .ok (.goto 241, 3) := by decide +kernel
theorem dX8_stepStatement_168 : decode cX8_stepStatement 168 = .ok (.aload_n 0, 1) := by decide +kernel
theorem dX8_stepStatement_169 : decode cX8_stepStatement 169 = .ok (.iload_n 1, 1) := by decide +kernel
theorem dX8_stepStatement_170 : decode cX8_stepStatement 170 = .ok (.iload_n 2, 1) := by decide +kernel
theorem dX8_stepStatement_171 : decode cX8_stepStatement 171 = .ok (.invokevirtual 221, 3) := by decide +kernel
