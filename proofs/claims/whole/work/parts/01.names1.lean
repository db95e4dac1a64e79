theorem dX0_init_0 : decode cX0_init 0 = .ok (.aload_n 0, 1) := by decide +kernel
theorem dX0_init_1 : decode cX0_init 1 = .ok (.invokespecial 1, 3) := by decide +kernel
theorem dX0_init_4 : decode cX0_init 4 = .ok (.aload_n 0, 1) := by decide +kernel
theorem dX0_init_5 : decode cX0_init 5 = .ok (.bipush 80, 2) := by decide +kernel
theorem dX0_init_7 : decode cX0_init 7 = .ok (.newarray .int, 2) := by decide +kernel
theorem dX0_init_9 : decode cX0_init 9 = .ok (.putfield 9, 3) := by decide +kernel
theorem dX0_init_12 : decode cX0_init 12 = .ok (.aload_n 0, 1) := by decide +kernel
theorem dX0_init_13 : decode cX0_init 13 = .ok (.bipush 80, 2) := by decide +kernel
theorem dX0_init_15 : decode cX0_init 15 = .ok (.newarray .int, 2) := by decide +kernel
theorem dX0_init_17 : decode cX0_init 17 = .ok (.putfield 13, 3) := by decide +kernel
theorem dX0_init_20 : decode cX0_init 20 = .ok (.aload_n 0, 1) := by decide +kernel
theorem dX0_init_21 : decode cX0_init 21 = .ok (.bipush 80, 2) := by decide +kernel
theorem dX0_init_23 : decode cX0_init 23 = .ok (.newarray .int, 2) := by decide +kernel
theorem dX0_init_25 : decode cX0_init 25 = .ok (.putfield 16, 3) := by decide +kernel
theorem dX0_init_28 : decode cX0_init 28 = .ok (.aload_n 0, 1) := by decide +kernel
theorem dX0_init_29 : decode cX0_init 29 = .ok (.bipush 80, 2) := by decide +kernel
theorem dX0_init_31 : decode cX0_init 31 = .ok (.newarray .int, 2) := by decide +kernel
theorem dX0_init_33 : decode cX0_init 33 = .ok (.putfield 19, 3) := by decide +kernel
theorem dX0_init_36 : decode cX0_init 36 = .ok (.aload_n 0, 1) := by decide +kernel
theorem dX0_init_37 : decode cX0_init 37 = .ok (.iconst 0, 1) := by decide +kernel
theorem dX0_init_38 : decode cX0_init 38 = .ok (.putfield 22, 3) := by decide +kernel
theorem dX0_init_41 : decode cX0_init 41 = .ok (.return_, 1) := by decide +kernel
theorem dX0_add_0 : decode cX0_add 0 = .ok (.aload_n 0, 1) := by decide +kernel
theorem dX0_add_1 : decode cX0_add 1 = .ok (.getfield 22, 3) := by decide +kernel
theorem dX0_add_4 : decode cX0_add 4 = .ok (.bipush 80, 2) := by decide +kernel
theorem dX0_add_6 : decode cX0_add 6 = .ok (.if_icmp .ne 6, 3) := by decide +kernel
theorem dX0_add_9 : decode cX0_add 9 = .ok (.bipush 79, 2) := by decide +kernel
theorem dX0_add_11 : decode cX0_add 11 = .ok (.ireturn, 1) := by decide +kernel
theorem dX0_add_12 : decode cX0_add 12 = .ok (.aload_n 0, 1) := by decide +kernel
theorem dX0_add_13 : decode cX0_add 13 = .ok (.getfield 9, 3) := by decide +kernel
theorem dX0_add_16 : decode cX0_add 16 = .ok (.aload_n 0, 1) := by decide +kernel
theorem dX0_add_17 : decode cX0_add 17 = .ok (.getfield 22, 3) := by decide +kernel
theorem dX0_add_20 : decode cX0_add 20 = .ok (.iload_n 1, 1) := by decide +kernel
theorem dX0_add_21 : decode cX0_add 21 = .ok (.iastore, 1) := by decide +kernel
theorem dX0_add_22 : decode cX0_add 22 = .ok (.aload_n 0, 1) := by decide +kernel
theorem dX0_add_23 : decode cX0_add 23 = .ok (.getfield 13, 3) := by decide +kernel
theorem dX0_add_26 : decode cX0_add 26 = .ok (.aload_n 0, 1) := by decide +kernel
theorem dX0_add_27 : decode cX0_add 27 = .ok (.getfield 22, 3) := by decide +kernel
theorem dX0_add_30 : decode cX0_add 30 = .ok (.iload_n 2, 1) := by decide +kernel
theorem dX0_add_31 : decode cX0_add 31 = .ok (.iastore, 1) := by decide +kernel
theorem dX0_add_32 : decode cX0_add 32 = .ok (.aload_n 0, 1) := by decide +kernel
theorem dX0_add_33 : decode cX0_add 33 = .ok (.getfield 16, 3) := by decide +kernel
theorem dX0_add_36 : decode cX0_add 36 = .ok (.aload_n 0, 1) := by decide +kernel
theorem dX0_add_37 : decode cX0_add 37 = .ok (.getfield 22, 3) := by decide +kernel
theorem dX0_add_40 : decode cX0_add 40 = .ok (.iload_n 3, 1) := by decide +kernel
theorem dX0_add_41 : decode cX0_add 41 = .ok (.iastore, 1) := by decide +kernel
theorem dX0_add_42 : decode cX0_add 42 = .ok (.aload_n 0, 1) := by decide +kernel
theorem dX0_add_43 : decode cX0_add 43 = .ok (.getfield 19, 3) := by decide +kernel
theorem dX0_add_46 : decode cX0_add 46 = .ok (.aload_n 0, 1) := by decide +kernel
theorem dX0_add_47 : decode cX0_add 47 = .ok (.getfield 22, 3) := by decide +kernel
theorem dX0_add_50 : decode cX0_add 50 = .ok (.iconst 0, 1) := by decide +kernel
theorem dX0_add_51 : decode cX0_add 51 = .ok (.iastore, 1) := by decide +kernel
theorem dX0_add_52 : decode cX0_add 52 = .ok (.aload_n 0, 1) := by decide +kernel
theorem dX0_add_53 : decode cX0_add 53 = .ok (.dup, 1) := by decide +kernel
theorem dX0_add_54 : decode cX0_add 54 = .ok (.getfield 22, 3) := by decide +kernel
theorem dX0_add_57 : decode cX0_add 57 = .ok (.iconst 1, 1) := by decide +kernel
theorem dX0_add_58 : decode cX0_add 58 = .ok (.iadd, 1) := by decide +kernel
theorem dX0_add_59 : decode cX0_add 59 = .ok (.putfield 22, 3) := by decide +kernel
theorem dX0_add_62 : decode cX0_add 62 = .ok (.aload_n 0, 1) := by decide +kernel
theorem dX0_add_63 : decode cX0_add 63 = .ok (.getfield 22, 3) := by decide +kernel
theorem dX0_add_66 : decode cX0_add 66 = .ok (.iconst 1, 1) := by decide +kernel
theorem dX0_add_67 : decode cX0_add 67 = .ok (.isub, 1) := by decide +kernel
theorem dX0_add_68 : decode cX0_add 68 = .ok (.ireturn, 1) := by decide +kernel
theorem dX0_jumpHere_0 : decode cX0_jumpHere 0 = .ok (.aload_n 0, 1) := by decide +kernel
theorem dX0_jumpHere_1 : decode cX0_jumpHere 1 = .ok (.getfield 19, 3) := by decide +kernel
theorem dX0_jumpHere_4 : decode cX0_jumpHere 4 = .ok (.iload_n 1, 1) := by decide +kernel
theorem dX0_jumpHere_5 : decode cX0_jumpHere 5 = .ok (.aload_n 0, 1) := by decide +kernel
theorem dX0_jumpHere_6 : decode cX0_jumpHere 6 = .ok (.getfield 22, 3) := by decide +kernel
theorem dX0_jumpHere_9 : decode cX0_jumpHere 9 = .ok (.iastore, 1) := by decide +kernel
theorem dX0_jumpHere_10 : decode cX0_jumpHere 10 = .ok (.return_, 1) := by decide +kernel
theorem dX0_numberAt_0 : decode cX0_numberAt 0 = .ok (.aload_n 0, 1) := by decide +kernel
theorem dX0_numberAt_1 : decode cX0_numberAt 1 = .ok (.getfield 13, 3) := by decide +kernel
theorem dX0_numberAt_4 : decode cX0_numberAt 4 = .ok (.iload_n 1, 1) := by decide +kernel
theorem dX0_numberAt_5 : decode cX0_numberAt 5 = .ok (.iaload, 1) := by decide +kernel
theorem dX0_numberAt_6 : decode cX0_numberAt 6 = .ok (.iload_n 2, 1) := by decide +kernel
theorem dX0_numberAt_7 : decode cX0_numberAt 7 = .ok (.if_icmp .ne 7, 3) := by decide +kernel
theorem dX0_numberAt_10 : decode cX0_numberAt 10 = .ok (.iload_n 3, 1) := by decide +kernel
theorem dX0_numberAt_11 : decode cX0_numberAt 11 = .ok (.goto 9, 3) := by decide +kernel
theorem dX0_numberAt_14 : decode cX0_numberAt 14 = .ok (.aload_n 0, 1) := by decide +kernel
theorem dX0_numberAt_15 : decode cX0_numberAt 15 = .ok (.getfield 16, 3) := by decide +kernel
theorem dX0_numberAt_18 : decode cX0_numberAt 18 = .ok (.iload_n 1, 1) := by decide +kernel
theorem dX0_numberAt_19 : decode cX0_numberAt 19 = .ok (.iaload, 1) := by decide +kernel
theorem dX0_numberAt_20 : decode cX0_numberAt 20 = .ok (.ireturn, 1) := by decide +kernel
theorem dX1_init_0 : decode cX1_init 0 = .ok (.aload_n 0, 1) := by decide +kernel
theorem dX1_init_1 : decode cX1_init 1 = .ok (.invokespecial 3, 3) := by decide +kernel
theorem dX1_init_4 : decode cX1_init 4 = .ok (.aload_n 0, 1) := by decide +kernel
theorem dX1_init_5 : decode cX1_init 5 = .ok (.new 9, 3) := by decide +kernel
theorem dX1_init_8 : decode cX1_init 8 = .ok (.dup, 1) := by decide +kernel
theorem dX1_init_9 : decode cX1_init 9 = .ok (.invokespecial 11, 3) := by decide +kernel
theorem dX1_init_12 : decode cX1_init 12 = .ok (.putfield 12, 3) := by decide +kernel
theorem dX1_init_15 : decode cX1_init 15 = .ok (.aload_n 0, 1) := by decide +kernel
theorem dX1_init_16 : decode cX1_init 16 = .ok (.bipush 121, 2) := by decide +kernel
theorem dX1_init_18 : decode cX1_init 18 = .ok (.newarray .int, 2) := by decide +kernel
theorem dX1_init_20 : decode cX1_init 20 = .ok (.putfield 18, 3) := by decide +kernel
theorem dX1_init_23 : decode cX1_init 23 = .ok (.aload_n 0, 1) := by decide +kernel
theorem dX1_init_24 : decode cX1_init 24 = .ok (.sipush 128, 3) := by decide +kernel
theorem dX1_init_27 : decode cX1_init 27 = .ok (.newarray .int, 2) := by decide +kernel
theorem dX1_init_29 : decode cX1_init 29 = .ok (.putfield 22, 3) := by decide +kernel
theorem dX1_init_32 : decode cX1_init 32 = .ok (.aload_n 0, 1) := by decide +kernel
theorem dX1_init_33 : decode cX1_init 33 = .ok (.iconst 0, 1) := by decide +kernel
theorem dX1_init_34 : decode cX1_init 34 = .ok (.putfield 25, 3) := by decide +kernel
theorem dX1_init_37 : decode cX1_init 37 = .ok (.aload_n 0, 1) := by decide +kernel
theorem dX1_init_38 : decode cX1_init 38 = .ok (.iconst 0, 1) := by decide +kernel
theorem dX1_init_39 : decode cX1_init 39 = .ok (.putfield 29, 3) := by decide +kernel
theorem dX1_init_42 : decode cX1_init 42 = .ok (.return_, 1) := by decide +kernel
theorem dX1_findClasses_0 : decode cX1_findClasses 0 = .ok (.aload_n 0, 1) := by decide +kernel
theorem dX1_findClasses_1 : decode cX1_findClasses 1 = .ok (.getfield 12, 3) := by decide +kernel
theorem dX1_findClasses_4 : decode cX1_findClasses 4 = .ok (.invokevirtual 32, 3) := by decide +kernel
theorem dX1_findClasses_7 : decode cX1_findClasses 7 = .ok (.iconst 0, 1) := by decide +kernel
theorem dX1_findClasses_8 : decode cX1_findClasses 8 = .ok (.istore_n 3, 1) := by decide +kernel
theorem dX1_findClasses_9 : decode cX1_findClasses 9 = .ok (.iload_n 3, 1) := by decide +kernel
theorem dX1_findClasses_10 : decode cX1_findClasses 10 = .ok (.aload_n 2, 1) := by decide +kernel
theorem dX1_findClasses_11 : decode cX1_findClasses 11 = .ok (.getfield 35, 3) := by decide +kernel
theorem dX1_findClasses_14 : decode cX1_findClasses 14 = .ok (.if_icmp .gt 43, 3) := by decide +kernel
theorem dX1_findClasses_17 : decode cX1_findClasses 17 = .ok (.aload_n 0, 1) := by decide +kernel
theorem dX1_findClasses_18 : decode cX1_findClasses 18 = .ok (.getfield 18, 3) := by decide +kernel
theorem dX1_findClasses_21 : decode cX1_findClasses 21 = .ok (.iload_n 3, 1) := by decide +kernel
theorem dX1_findClasses_22 : decode cX1_findClasses 22 = .ok (.aload_n 0, 1) := by decide +kernel
theorem dX1_findClasses_23 : decode cX1_findClasses 23 = .ok (.aload_n 1, 1) := by decide +kernel
theorem dX1_findClasses_24 : decode cX1_findClasses 24 = .ok (.aload_n 2, 1) := by decide +kernel
theorem dX1_findClasses_25 : decode cX1_findClasses 25 = .ok (.getfield 40, 3) := by decide +kernel
theorem dX1_findClasses_28 : decode cX1_findClasses 28 = .ok (.iload_n 3, 1) := by decide +kernel
theorem dX1_findClasses_29 : decode cX1_findClasses 29 = .ok (.iaload, 1) := by decide +kernel
theorem dX1_findClasses_30 : decode cX1_findClasses 30 = .ok (.aload_n 2, 1) := by decide +kernel
theorem dX1_findClasses_31 : decode cX1_findClasses 31 = .ok (.getfield 43, 3) := by decide +kernel
theorem dX1_findClasses_34 : decode cX1_findClasses 34 = .ok (.iload_n 3, 1) := by decide +kernel
theorem dX1_findClasses_35 : decode cX1_findClasses 35 = .ok (.iaload, 1) := by decide +kernel
theorem dX1_findClasses_36 : decode cX1_findClasses 36 = .ok (.invokevirtual 46, 3) := by decide +kernel
theorem dX1_findClasses_39 : decode cX1_findClasses 39 = .ok (.iastore, 1) := by decide +kernel
theorem dX1_findClasses_40 : decode cX1_findClasses 40 = .ok (.aload_n 2, 1) := by decide +kernel
theorem dX1_findClasses_41 : decode cX1_findClasses 41 = .ok (.getfield 50, 3) := by decide +kernel
theorem dX1_findClasses_44 : decode cX1_findClasses 44 = .ok (.iload_n 3, 1) := by decide +kernel
theorem dX1_findClasses_45 : decode cX1_findClasses 45 = .ok (.aload_n 0, 1) := by decide +kernel
theorem dX1_findClasses_46 : decode cX1_findClasses 46 = .ok (.iload_n 3, 1) := by decide +kernel
theorem dX1_findClasses_47 : decode cX1_findClasses 47 = .ok (.invokevirtual 53, 3) := by decide +kernel
theorem dX1_findClasses_50 : decode cX1_findClasses 50 = .ok (.iastore, 1) := by decide +kernel
theorem dX1_findClasses_51 : decode cX1_findClasses 51 = .ok (.iinc 3 1, 3) := by decide +kernel
theorem dX1_findClasses_54 : decode cX1_findClasses 54 = .ok (.goto (-45), 3) := by decide +kernel
theorem dX1_findClasses_57 : decode cX1_findClasses 57 = .ok (.return_, 1) := by decide +kernel
theorem dX1_firstLike_0 : decode cX1_firstLike 0 = .ok (.iconst 0, 1) := by decide +kernel
theorem dX1_firstLike_1 : decode cX1_firstLike 1 = .ok (.istore_n 2, 1) := by decide +kernel
theorem dX1_firstLike_2 : decode cX1_firstLike 2 = .ok (.iload_n 2, 1) := by decide +kernel
theorem dX1_firstLike_3 : decode cX1_firstLike 3 = .ok (.iload_n 1, 1) := by decide +kernel
theorem dX1_firstLike_4 : decode cX1_firstLike 4 = .ok (.if_icmp .ge 24, 3) := by decide +kernel
theorem dX1_firstLike_7 : decode cX1_firstLike 7 = .ok (.aload_n 0, 1) := by decide +kernel
theorem dX1_firstLike_8 : decode cX1_firstLike 8 = .ok (.getfield 18, 3) := by decide +kernel
theorem dX1_firstLike_11 : decode cX1_firstLike 11 = .ok (.iload_n 2, 1) := by decide +kernel
theorem dX1_firstLike_12 : decode cX1_firstLike 12 = .ok (.iaload, 1) := by decide +kernel
theorem dX1_firstLike_13 : decode cX1_firstLike 13 = .ok (.aload_n 0, 1) := by decide +kernel
theorem dX1_firstLike_14 : decode cX1_firstLike 14 = .ok (.getfield 18, 3) := by decide +kernel
theorem dX1_firstLike_17 : decode cX1_firstLike 17 = .ok (.iload_n 1, 1) := by decide +kernel
theorem dX1_firstLike_18 : decode cX1_firstLike 18 = .ok (.iaload, 1) := by decide +kernel
theorem dX1_firstLike_19 : decode cX1_firstLike 19 = .ok (.if_icmp .eq 9, 3) := by decide +kernel
theorem dX1_firstLike_22 : decode cX1_firstLike 22 = .ok (.iinc 2 1, 3) := by decide +kernel
theorem dX1_firstLike_25 : decode cX1_firstLike 25 = .ok (.goto (-23), 3) := by decide +kernel
theorem dX1_firstLike_28 : decode cX1_firstLike 28 = .ok (.iload_n 2, 1) := by decide +kernel
theorem dX1_firstLike_29 : decode cX1_firstLike 29 = .ok (.ireturn, 1) := by decide +kernel
theorem dX1_fold_0 : decode cX1_fold 0 = .ok (.aload_n 0, 1) := by decide +kernel
theorem dX1_fold_1 : decode cX1_fold 1 = .ok (.iconst 0, 1) := by decide +kernel
theorem dX1_fold_2 : decode cX1_fold 2 = .ok (.putfield 25, 3) := by decide +kernel
theorem dX1_fold_5 : decode cX1_fold 5 = .ok (.aload_n 0, 1) := by decide +kernel
theorem dX1_fold_6 : decode cX1_fold 6 = .ok (.iconst 0, 1) := by decide +kernel
theorem dX1_fold_7 : decode cX1_fold 7 = .ok (.putfield 29, 3) := by decide +kernel
theorem dX1_fold_10 : decode cX1_fold 10 = .ok (.aload_n 0, 1) := by decide +kernel
theorem dX1_fold_11 : decode cX1_fold 11 = .ok (.invokevirtual 57, 3) := by decide +kernel
theorem dX1_fold_14 : decode cX1_fold 14 = .ok (.iconst 0, 1) := by decide +kernel
theorem dX1_fold_15 : decode cX1_fold 15 = .ok (.istore 4, 2) := by decide +kernel
theorem dX1_fold_17 : decode cX1_fold 17 = .ok (.iconst 0, 1) := by decide +kernel
theorem dX1_fold_18 : decode cX1_fold 18 = .ok (.istore 5, 2) := by decide +kernel
theorem dX1_fold_20 : decode cX1_fold 20 = .ok (.iload 5, 2) := by decide +kernel
theorem dX1_fold_22 : decode cX1_fold 22 = .ok (.aload_n 1, 1) := by decide +kernel
theorem dX1_fold_23 : decode cX1_fold 23 = .ok (.getfield 60, 3) := by decide +kernel
theorem dX1_fold_26 : decode cX1_fold 26 = .ok (.if_icmp .ge 73, 3) := by decide +kernel
theorem dX1_fold_29 : decode cX1_fold 29 = .ok (.aload_n 1, 1) := by decide +kernel
theorem dX1_fold_30 : decode cX1_fold 30 = .ok (.getfield 65, 3) := by decide +kernel
theorem dX1_fold_33 : decode cX1_fold 33 = .ok (.iload 5, 2) := by decide +kernel
theorem dX1_fold_35 : decode cX1_fold 35 = .ok (.iaload, 1) := by decide +kernel
theorem dX1_fold_36 : decode cX1_fold 36 = .ok (.iconst 4, 1) := by decide +kernel
theorem dX1_fold_37 : decode cX1_fold 37 = .ok (.if_icmp .ne 23, 3) := by decide +kernel
theorem dX1_fold_40 : decode cX1_fold 40 = .ok (.aload_n 1, 1) := by decide +kernel
theorem dX1_fold_41 : decode cX1_fold 41 = .ok (.getfield 68, 3) := by decide +kernel
theorem dX1_fold_44 : decode cX1_fold 44 = .ok (.iload 5, 2) := by decide +kernel
theorem dX1_fold_46 : decode cX1_fold 46 = .ok (.iaload, 1) := by decide +kernel
theorem dX1_fold_47 : decode cX1_fold 47 = .ok (.iload_n 2, 1) := by decide +kernel
theorem dX1_fold_48 : decode cX1_fold 48 = .ok (.if_icmp .ne 12, 3) := by decide +kernel
theorem dX1_fold_51 : decode cX1_fold 51 = .ok (.aload_n 1, 1) := by decide +kernel
theorem dX1_fold_52 : decode cX1_fold 52 = .ok (.getfield 71, 3) := by decide +kernel
theorem dX1_fold_55 : decode cX1_fold 55 = .ok (.iload 5, 2) := by decide +kernel
theorem dX1_fold_57 : decode cX1_fold 57 = .ok (.iaload, 1) := by decide +kernel
theorem dX1_fold_58 : decode cX1_fold 58 = .ok (.istore 4, 2) := by decide +kernel
theorem dX1_fold_60 : decode cX1_fold 60 = .ok (.iload 5, 2) := by decide +kernel
theorem dX1_fold_62 : decode cX1_fold 62 = .ok (.iload 4, 2) := by decide +kernel
theorem dX1_fold_64 : decode cX1_fold 64 = .ok (.if_icmp .lt 29, 3) := by decide +kernel
theorem dX1_fold_67 : decode cX1_fold 67 = .ok (.aload_n 0, 1) := by decide +kernel
theorem dX1_fold_68 : decode cX1_fold 68 = .ok (.aload_n 1, 1) := by decide +kernel
theorem dX1_fold_69 : decode cX1_fold 69 = .ok (.getfield 65, 3) := by decide +kernel
theorem dX1_fold_72 : decode cX1_fold 72 = .ok (.iload 5, 2) := by decide +kernel
theorem dX1_fold_74 : decode cX1_fold 74 = .ok (.iaload, 1) := by decide +kernel
theorem dX1_fold_75 : decode cX1_fold 75 = .ok (.aload_n 1, 1) := by decide +kernel
theorem dX1_fold_76 : decode cX1_fold 76 = .ok (.getfield 74, 3) := by decide +kernel
theorem dX1_fold_79 : decode cX1_fold 79 = .ok (.iload 5, 2) := by decide +kernel
theorem dX1_fold_81 : decode cX1_fold 81 = .ok (.iaload, 1) := by decide +kernel
theorem dX1_fold_82 : decode cX1_fold 82 = .ok (.aload_n 1, 1) := by decide +kernel
theorem dX1_fold_83 : decode cX1_fold 83 = .ok (.iload 5, 2) := by decide +kernel
theorem dX1_fold_85 : decode cX1_fold 85 = .ok (.iload_n 2, 1) := by decide +kernel
theorem dX1_fold_86 : decode cX1_fold 86 = .ok (.iload_n 3, 1) := by decide +kernel
theorem dX1_fold_87 : decode cX1_fold 87 = .ok (.invokevirtual 77, 3) := by decide +kernel
theorem dX1_fold_90 : decode cX1_fold 90 = .ok (.invokevirtual 81, 3) := by decide +kernel
theorem dX1_fold_93 : decode cX1_fold 93 = .ok (.iinc 5 1, 3) := by decide +kernel
theorem dX1_fold_96 : decode cX1_fold 96 = .ok (.goto (-76), 3) := by decide +kernel
theorem dX1_fold_99 : decode cX1_fold 99 = .ok (.aload_n 0, 1) := by decide +kernel
theorem dX1_fold_100 : decode cX1_fold 100 = .ok (.invokevirtual 85, 3) := by decide +kernel
theorem dX1_fold_103 : decode cX1_fold 103 = .ok (.aload_n 0, 1) := by decide +kernel
theorem dX1_fold_104 : decode cX1_fold 104 = .ok (.invokevirtual 88, 3) := by decide +kernel
theorem dX1_fold_107 : decode cX1_fold 107 = .ok (.ireturn, 1) := by decide +kernel
theorem dX1_step_0 : decode cX1_step 0 = .ok (.iload_n 1, 1) := by decide +kernel
theorem dX1_step_1 : decode cX1_step 1 = .ok (.tableswitch 209 0 14 #[75, 83, 209, 99, 209, 114, 91, 132, 140, 147, 169, 176, 187, 169, 198], 75) := by decide +kernel
theorem dX1_step_76 : decode cX1_step 76 = .ok (.aload_n 0, 1) := by decide +kernel
theorem dX1_step_77 : decode cX1_step 77 = .ok (.iload_n 3, 1) := by decide +kernel
theorem dX1_step_78 : decode cX1_step 78 = .ok (.invokevirtual 92, 3) := by decide +kernel
theorem dX1_step_81 : decode cX1_step 81 = .ok (.goto 129, 3) := by decide +kernel
theorem dX1_step_84 : decode cX1_step 84 = .ok (.aload_n 0, 1) := by decide +kernel
theorem dX1_step_85 : decode cX1_step 85 = .ok (.iload_n 3, 1) := by decide +kernel
theorem dX1_step_86 : decode cX1_step 86 = .ok (.invokevirtual 96, 3) := by decide +kernel
theorem dX1_step_89 : decode cX1_step 89 = .ok (.goto 121, 3) := by decide +kernel
theorem dX1_step_92 : decode cX1_step 92 = .ok (.aload_n 0, 1) := by decide +kernel
theorem dX1_step_93 : decode cX1_step 93 = .ok (.iload_n 3, 1) := by decide +kernel
theorem dX1_step_94 : decode cX1_step 94 = .ok (.invokevirtual 99, 3) := by decide +kernel
theorem dX1_step_97 : decode cX1_step 97 = .ok (.goto 113, 3) := by decide +kernel
theorem dX1_step_100 : decode cX1_step 100 = .ok (.aload_n 0, 1) := by decide +kernel
theorem dX1_step_101 : decode cX1_step 101 = .ok (.aload_n 0, 1) := by decide +kernel
theorem dX1_step_102 : decode cX1_step 102 = .ok (.getfield 12, 3) := by decide +kernel
theorem dX1_step_105 : decode cX1_step 105 = .ok (.iload_n 3, 1) := by decide +kernel
theorem dX1_step_106 : decode cX1_step 106 = .ok (.invokevirtual 102, 3) := by decide +kernel
theorem dX1_step_109 : decode cX1_step 109 = .ok (.invokevirtual 105, 3) := by decide +kernel
theorem dX1_step_112 : decode cX1_step 112 = .ok (.goto 98, 3) := by decide +kernel
theorem dX1_step_115 : decode cX1_step 115 = .ok (.aload_n 0, 1) := by decide +kernel
theorem dX1_step_116 : decode cX1_step 116 = .ok (.aload_n 0, 1) := by decide +kernel
theorem dX1_step_117 : decode cX1_step 117 = .ok (.getfield 12, 3) := by decide +kernel
theorem dX1_step_120 : decode cX1_step 120 = .ok (.iconst 2, 1) := by decide +kernel
theorem dX1_step_121 : decode cX1_step 121 = .ok (.iload_n 2, 1) := by decide +kernel
theorem dX1_step_122 : decode cX1_step 122 = .ok (.iconst 0, 1) := by decide +kernel
theorem dX1_step_123 : decode cX1_step 123 = .ok (.iconst 0, 1) := by decide +kernel
theorem dX1_step_124 : decode cX1_step 124 = .ok (.invokevirtual 108, 3) := by decide +kernel
theorem dX1_step_127 : decode cX1_step 127 = .ok (.invokevirtual 105, 3) := by decide +kernel
theorem dX1_step_130 : decode cX1_step 130 = .ok (.goto 80, 3) := by decide +kernel
theorem dX1_step_133 : decode cX1_step 133 = .ok (.aload_n 0, 1) := by decide +kernel
theorem dX1_step_134 : decode cX1_step 134 = .ok (.iload_n 2, 1) := by decide +kernel
theorem dX1_step_135 : decode cX1_step 135 = .ok (.invokevirtual 112, 3) := by decide +kernel
theorem dX1_step_138 : decode cX1_step 138 = .ok (.goto 72, 3) := by decide +kernel
theorem dX1_step_141 : decode cX1_step 141 = .ok (.aload_n 0, 1) := by decide +kernel
theorem dX1_step_142 : decode cX1_step 142 = .ok (.invokevirtual 115, 3) := by decide +kernel
theorem dX1_step_145 : decode cX1_step 145 = .ok (.goto 65, 3) := by decide +kernel
theorem dX1_step_148 : decode cX1_step 148 = .ok (.aload_n 0, 1) := by decide +kernel
theorem dX1_step_149 : decode cX1_step 149 = .ok (.aload_n 0, 1) := by decide +kernel
theorem dX1_step_150 : decode cX1_step 150 = .ok (.getfield 12, 3) := by decide +kernel
theorem dX1_step_153 : decode cX1_step 153 = .ok (.bipush 6, 2) := by decide +kernel
theorem dX1_step_155 : decode cX1_step 155 = .ok (.aload_n 0, 1) := by decide +kernel
theorem dX1_step_156 : decode cX1_step 156 = .ok (.invokevirtual 88, 3) := by decide +kernel
theorem dX1_step_159 : decode cX1_step 159 = .ok (.iconst 0, 1) := by decide +kernel
theorem dX1_step_160 : decode cX1_step 160 = .ok (.iconst 0, 1) := by decide +kernel
theorem dX1_step_161 : decode cX1_step 161 = .ok (.invokevirtual 108, 3) := by decide +kernel
theorem dX1_step_164 : decode cX1_step 164 = .ok (.invokevirtual 118, 3) := by decide +kernel
theorem dX1_step_167 : decode cX1_step 167 = .ok (.goto 43, 3) := by decide +kernel
theorem dX1_step_170 : decode cX1_step 170 = .ok (.aload_n 0, 1) := by decide +kernel
theorem dX1_step_171 : decode cX1_step 171 = .ok (.invokevirtual 57, 3) := by decide +kernel
theorem dX1_step_174 : decode cX1_step 174 = .ok (.goto 36, 3) := by decide +kernel
theorem dX1_step_177 : decode cX1_step 177 = .ok (.aload_n 0, 1) := by decide +kernel
theorem dX1_step_178 : decode cX1_step 178 = .ok (.invokevirtual 85, 3) := by decide +kernel
theorem dX1_step_181 : decode cX1_step 181 = .ok (.aload_n 0, 1) := by decide +kernel
theorem dX1_step_182 : decode cX1_step 182 = .ok (.invokevirtual 57, 3) := by decide +kernel
theorem dX1_step_185 : decode cX1_step 185 = .ok (.goto 25, 3) := by decide +kernel
theorem dX1_step_188 : decode cX1_step 188 = .ok (.aload_n 0, 1) := by decide +kernel
theorem dX1_step_189 : decode cX1_step 189 = .ok (.invokevirtual 85, 3) := by decide +kernel
theorem dX1_step_192 : decode cX1_step 192 = .ok (.aload_n 0, 1) := by decide +kernel
theorem dX1_step_193 : decode cX1_step 193 = .ok (.invokevirtual 121, 3) := by decide +kernel
theorem dX1_step_196 : decode cX1_step 196 = .ok (.goto 14, 3) := by decide +kernel
theorem dX1_step_199 : decode cX1_step 199 = .ok (.aload_n 0, 1) := by decide +kernel
theorem dX1_step_200 : decode cX1_step 200 = .ok (.invokevirtual 85, 3) := by decide +kernel
theorem dX1_step_203 : decode cX1_step 203 = .ok (.aload_n 0, 1) := by decide +kernel
theorem dX1_step_204 : decode cX1_step 204 = .ok (.invokevirtual 124, 3) := by decide +kernel
theorem dX1_step_207 : decode cX1_step 207 = .ok (.goto 3, 3) := by decide +kernel
theorem dX1_step_210 : decode cX1_step 210 = .ok (.return_, 1) := by decide +kernel
theorem dX1_push_0 : decode cX1_push 0 = .ok (.aload_n 0, 1) := by decide +kernel
theorem dX1_push_1 : decode cX1_push 1 = .ok (.getfield 25, 3) := by decide +kernel
theorem dX1_push_4 : decode cX1_push 4 = .ok (.sipush 128, 3) := by decide +kernel
theorem dX1_push_7 : decode cX1_push 7 = .ok (.if_icmp .ge 23, 3) := by decide +kernel
theorem dX1_push_10 : decode cX1_push 10 = .ok (.aload_n 0, 1) := by decide +kernel
theorem dX1_push_11 : decode cX1_push 11 = .ok (.getfield 22, 3) := by decide +kernel
theorem dX1_push_14 : decode cX1_push 14 = .ok (.aload_n 0, 1) := by decide +kernel
theorem dX1_push_15 : decode cX1_push 15 = .ok (.getfield 25, 3) := by decide +kernel
theorem dX1_push_18 : decode cX1_push 18 = .ok (.iload_n 1, 1) := by decide +kernel
theorem dX1_push_19 : decode cX1_push 19 = .ok (.iastore, 1) := by decide +kernel
theorem dX1_push_20 : decode cX1_push 20 = .ok (.aload_n 0, 1) := by decide +kernel
theorem dX1_push_21 : decode cX1_push 21 = .ok (.dup, 1) := by decide +kernel
theorem dX1_push_22 : decode cX1_push 22 = .ok (.getfield 25, 3) := by decide +kernel
theorem dX1_push_25 : decode cX1_push 25 = .ok (.iconst 1, 1) := by decide +kernel
theorem dX1_push_26 : decode cX1_push 26 = .ok (.iadd, 1) := by decide +kernel
theorem dX1_push_27 : decode cX1_push 27 = .ok (.putfield 25, 3) := by decide +kernel
theorem dX1_push_30 : decode cX1_push 30 = .ok (.return_, 1) := by decide +kernel
theorem dX1_pop_0 : decode cX1_pop 0 = .ok (.aload_n 0, 1) := by decide +kernel
theorem dX1_pop_1 : decode cX1_pop 1 = .ok (.getfield 25, 3) := by decide +kernel
theorem dX1_pop_4 : decode cX1_pop 4 = .ok (.ifCond .ne 5, 3) := by decide +kernel
theorem dX1_pop_7 : decode cX1_pop 7 = .ok (.iconst 0, 1) := by decide +kernel
theorem dX1_pop_8 : decode cX1_pop 8 = .ok (.ireturn, 1) := by decide +kernel
theorem dX1_pop_9 : decode cX1_pop 9 = .ok (.aload_n 0, 1) := by decide +kernel
theorem dX1_pop_10 : decode cX1_pop 10 = .ok (.dup, 1) := by decide +kernel
theorem dX1_pop_11 : decode cX1_pop 11 = .ok (.getfield 25, 3) := by decide +kernel
theorem dX1_pop_14 : decode cX1_pop 14 = .ok (.iconst 1, 1) := by decide +kernel
theorem dX1_pop_15 : decode cX1_pop 15 = .ok (.isub, 1) := by decide +kernel
theorem dX1_pop_16 : decode cX1_pop 16 = .ok (.putfield 25, 3) := by decide +kernel
theorem dX1_pop_19 : decode cX1_pop 19 = .ok (.aload_n 0, 1) := by decide +kernel
theorem dX1_pop_20 : decode cX1_pop 20 = .ok (.getfield 22, 3) := by decide +kernel
theorem dX1_pop_23 : decode cX1_pop 23 = .ok (.aload_n 0, 1) := by decide +kernel
theorem dX1_pop_24 : decode cX1_pop 24 = .ok (.getfield 25, 3) := by decide +kernel
theorem dX1_pop_27 : decode cX1_pop 27 = .ok (.iaload, 1) := by decide +kernel
theorem dX1_pop_28 : decode cX1_pop 28 = .ok (.ireturn, 1) := by decide +kernel
theorem dX1_openRow_0 : decode cX1_openRow 0 = .ok (.aload_n 0, 1) := by decide +kernel
theorem dX1_openRow_1 : decode cX1_openRow 1 = .ok (.aload_n 0, 1) := by decide +kernel
theorem dX1_openRow_2 : decode cX1_openRow 2 = .ok (.getfield 29, 3) := by decide +kernel
theorem dX1_openRow_5 : decode cX1_openRow 5 = .ok (.invokevirtual 105, 3) := by decide +kernel
theorem dX1_openRow_8 : decode cX1_openRow 8 = .ok (.aload_n 0, 1) := by decide +kernel
theorem dX1_openRow_9 : decode cX1_openRow 9 = .ok (.aload_n 0, 1) := by decide +kernel
theorem dX1_openRow_10 : decode cX1_openRow 10 = .ok (.getfield 25, 3) := by decide +kernel
theorem dX1_openRow_13 : decode cX1_openRow 13 = .ok (.putfield 29, 3) := by decide +kernel
theorem dX1_openRow_16 : decode cX1_openRow 16 = .ok (.return_, 1) := by decide +kernel
theorem dX1_closeRow_0 : decode cX1_closeRow 0 = .ok (.iconst 1, 1) := by decide +kernel
theorem dX1_closeRow_1 : decode cX1_closeRow 1 = .ok (.istore_n 1, 1) := by decide +kernel
theorem dX1_closeRow_2 : decode cX1_closeRow 2 = .ok (.aload_n 0, 1) := by decide +kernel
theorem dX1_closeRow_3 : decode cX1_closeRow 3 = .ok (.getfield 29, 3) := by decide +kernel
theorem dX1_closeRow_6 : decode cX1_closeRow 6 = .ok (.istore_n 2, 1) := by decide +kernel
theorem dX1_closeRow_7 : decode cX1_closeRow 7 = .ok (.aload_n 0, 1) := by decide +kernel
theorem dX1_closeRow_8 : decode cX1_closeRow 8 = .ok (.getfield 25, 3) := by decide +kernel
theorem dX1_closeRow_11 : decode cX1_closeRow 11 = .ok (.iconst 1, 1) := by decide +kernel
theorem dX1_closeRow_12 : decode cX1_closeRow 12 = .ok (.isub, 1) := by decide +kernel
theorem dX1_closeRow_13 : decode cX1_closeRow 13 = .ok (.istore_n 3, 1) := by decide +kernel
theorem dX1_closeRow_14 : decode cX1_closeRow 14 = .ok (.iload_n 3, 1) := by decide +kernel
theorem dX1_closeRow_15 : decode cX1_closeRow 15 = .ok (.iload_n 2, 1) := by decide +kernel
theorem dX1_closeRow_16 : decode cX1_closeRow 16 = .ok (.if_icmp .lt 27, 3) := by decide +kernel
theorem dX1_closeRow_19 : decode cX1_closeRow 19 = .ok (.aload_n 0, 1) := by decide +kernel
theorem dX1_closeRow_20 : decode cX1_closeRow 20 = .ok (.getfield 12, 3) := by decide +kernel
theorem dX1_closeRow_23 : decode cX1_closeRow 23 = .ok (.bipush 9, 2) := by decide +kernel
theorem dX1_closeRow_25 : decode cX1_closeRow 25 = .ok (.aload_n 0, 1) := by decide +kernel
theorem dX1_closeRow_26 : decode cX1_closeRow 26 = .ok (.getfield 22, 3) := by decide +kernel
theorem dX1_closeRow_29 : decode cX1_closeRow 29 = .ok (.iload_n 3, 1) := by decide +kernel
theorem dX1_closeRow_30 : decode cX1_closeRow 30 = .ok (.iaload, 1) := by decide +kernel
theorem dX1_closeRow_31 : decode cX1_closeRow 31 = .ok (.iload_n 1, 1) := by decide +kernel
theorem dX1_closeRow_32 : decode cX1_closeRow 32 = .ok (.iconst 0, 1) := by decide +kernel
theorem dX1_closeRow_33 : decode cX1_closeRow 33 = .ok (.invokevirtual 108, 3) := by decide +kernel
theorem dX1_closeRow_36 : decode cX1_closeRow 36 = .ok (.istore_n 1, 1) := by decide +kernel
theorem dX1_closeRow_37 : decode cX1_closeRow 37 = .ok (.iinc 3 (-1), 3) := by decide +kernel
theorem dX1_closeRow_40 : decode cX1_closeRow 40 = .ok (.goto (-26), 3) := by decide +kernel
theorem dX1_closeRow_43 : decode cX1_closeRow 43 = .ok (.aload_n 0, 1) := by decide +kernel
theorem dX1_closeRow_44 : decode cX1_closeRow 44 = .ok (.iload_n 2, 1) := by decide +kernel
theorem dX1_closeRow_45 : decode cX1_closeRow 45 = .ok (.putfield 25, 3) := by decide +kernel
theorem dX1_closeRow_48 : decode cX1_closeRow 48 = .ok (.aload_n 0, 1) := by decide +kernel
theorem dX1_closeRow_49 : decode cX1_closeRow 49 = .ok (.aload_n 0, 1) := by decide +kernel
theorem dX1_closeRow_50 : decode cX1_closeRow 50 = .ok (.invokevirtual 88, 3) := by decide +kernel
theorem dX1_closeRow_53 : decode cX1_closeRow 53 = .ok (.putfield 29, 3) := by decide +kernel
theorem dX1_closeRow_56 : decode cX1_closeRow 56 = .ok (.aload_n 0, 1) := by decide +kernel
theorem dX1_closeRow_57 : decode cX1_closeRow 57 = .ok (.iload_n 1, 1) := by decide +kernel
theorem dX1_closeRow_58 : decode cX1_closeRow 58 = .ok (.invokevirtual 105, 3) := by decide +kernel
theorem dX1_closeRow_61 : decode cX1_closeRow 61 = .ok (.return_, 1) := by decide +kernel
theorem dX1_append_0 : decode cX1_append 0 = .ok (.aload_n 0, 1) := by decide +kernel
theorem dX1_append_1 : decode cX1_append 1 = .ok (.getfield 25, 3) := by decide +kernel
theorem dX1_append_4 : decode cX1_append 4 = .ok (.aload_n 0, 1) := by decide +kernel
theorem dX1_append_5 : decode cX1_append 5 = .ok (.getfield 29, 3) := by decide +kernel
theorem dX1_append_8 : decode cX1_append 8 = .ok (.if_icmp .le 31, 3) := by decide +kernel
theorem dX1_append_11 : decode cX1_append 11 = .ok (.aload_n 0, 1) := by decide +kernel
theorem dX1_append_12 : decode cX1_append 12 = .ok (.getfield 12, 3) := by decide +kernel
theorem dX1_append_15 : decode cX1_append 15 = .ok (.getfield 127, 3) := by decide +kernel
theorem dX1_append_18 : decode cX1_append 18 = .ok (.aload_n 0, 1) := by decide +kernel
theorem dX1_append_19 : decode cX1_append 19 = .ok (.getfield 22, 3) := by decide +kernel
theorem dX1_append_22 : decode cX1_append 22 = .ok (.aload_n 0, 1) := by decide +kernel
theorem dX1_append_23 : decode cX1_append 23 = .ok (.getfield 25, 3) := by decide +kernel
theorem dX1_append_26 : decode cX1_append 26 = .ok (.iconst 1, 1) := by decide +kernel
theorem dX1_append_27 : decode cX1_append 27 = .ok (.isub, 1) := by decide +kernel
theorem dX1_append_28 : decode cX1_append 28 = .ok (.iaload, 1) := by decide +kernel
theorem dX1_append_29 : decode cX1_append 29 = .ok (.iaload, 1) := by decide +kernel
theorem dX1_append_30 : decode cX1_append 30 = .ok (.bipush 6, 2) := by decide +kernel
theorem dX1_append_32 : decode cX1_append 32 = .ok (.if_icmp .ne 7, 3) := by decide +kernel
theorem dX1_append_35 : decode cX1_append 35 = .ok (.iconst 1, 1) := by decide +kernel
theorem dX1_append_36 : decode cX1_append 36 = .ok (.goto 4, 3) := by decide +kernel
theorem dX1_append_39 : decode cX1_append 39 = .ok (.iconst 0, 1) := by decide +kernel
theorem dX1_append_40 : decode cX1_append 40 = .ok (.istore_n 2, 1) := by decide +kernel
theorem dX1_append_41 : decode cX1_append 41 = .ok (.iload_n 2, 1) := by decide +kernel
theorem dX1_append_42 : decode cX1_append 42 = .ok (.ifCond .ne 8, 3) := by decide +kernel
theorem dX1_append_45 : decode cX1_append 45 = .ok (.aload_n 0, 1) := by decide +kernel
theorem dX1_append_46 : decode cX1_append 46 = .ok (.iload_n 1, 1) := by decide +kernel
theorem dX1_append_47 : decode cX1_append 47 = .ok (.invokevirtual 105, 3) := by decide +kernel
theorem dX1_append_50 : decode cX1_append 50 = .ok (.return_, 1) := by decide +kernel
theorem dX1_appendAll_0 : decode cX1_appendAll 0 = .ok (.iload_n 1, 1) := by decide +kernel
theorem dX1_appendAll_1 : decode cX1_appendAll 1 = .ok (.istore_n 2, 1) := by decide +kernel
theorem dX1_appendAll_2 : decode cX1_appendAll 2 = .ok (.iconst 0, 1) := by decide +kernel
theorem dX1_appendAll_3 : decode cX1_appendAll 3 = .ok (.istore_n 3, 1) := by decide +kernel
theorem dX1_appendAll_4 : decode cX1_appendAll 4 = .ok (.iload_n 3, 1) := by decide +kernel
theorem dX1_appendAll_5 : decode cX1_appendAll 5 = .ok (.bipush 60, 2) := by decide +kernel
theorem dX1_appendAll_7 : decode cX1_appendAll 7 = .ok (.if_icmp .ge 46, 3) := by decide +kernel
theorem dX1_appendAll_10 : decode cX1_appendAll 10 = .ok (.aload_n 0, 1) := by decide +kernel
theorem dX1_appendAll_11 : decode cX1_appendAll 11 = .ok (.getfield 12, 3) := by decide +kernel
theorem dX1_appendAll_14 : decode cX1_appendAll 14 = .ok (.getfield 127, 3) := by decide +kernel
theorem dX1_appendAll_17 : decode cX1_appendAll 17 = .ok (.iload_n 2, 1) := by decide +kernel
theorem dX1_appendAll_18 : decode cX1_appendAll 18 = .ok (.iaload, 1) := by decide +kernel
theorem dX1_appendAll_19 : decode cX1_appendAll 19 = .ok (.bipush 9, 2) := by decide +kernel
theorem dX1_appendAll_21 : decode cX1_appendAll 21 = .ok (.if_icmp .ne 32, 3) := by decide +kernel
theorem dX1_appendAll_24 : decode cX1_appendAll 24 = .ok (.aload_n 0, 1) := by decide +kernel
theorem dX1_appendAll_25 : decode cX1_appendAll 25 = .ok (.aload_n 0, 1) := by decide +kernel
theorem dX1_appendAll_26 : decode cX1_appendAll 26 = .ok (.getfield 12, 3) := by decide +kernel
theorem dX1_appendAll_29 : decode cX1_appendAll 29 = .ok (.getfield 130, 3) := by decide +kernel
theorem dX1_appendAll_32 : decode cX1_appendAll 32 = .ok (.iload_n 2, 1) := by decide +kernel
theorem dX1_appendAll_33 : decode cX1_appendAll 33 = .ok (.iaload, 1) := by decide +kernel
theorem dX1_appendAll_34 : decode cX1_appendAll 34 = .ok (.invokevirtual 118, 3) := by decide +kernel
theorem dX1_appendAll_37 : decode cX1_appendAll 37 = .ok (.aload_n 0, 1) := by decide +kernel
theorem dX1_appendAll_38 : decode cX1_appendAll 38 = .ok (.getfield 12, 3) := by decide +kernel
theorem dX1_appendAll_41 : decode cX1_appendAll 41 = .ok (.getfield 133, 3) := by decide +kernel
theorem dX1_appendAll_44 : decode cX1_appendAll 44 = .ok (.iload_n 2, 1) := by decide +kernel
theorem dX1_appendAll_45 : decode cX1_appendAll 45 = .ok (.iaload, 1) := by decide +kernel
theorem dX1_appendAll_46 : decode cX1_appendAll 46 = .ok (.istore_n 2, 1) := by decide +kernel
theorem dX1_appendAll_47 : decode cX1_appendAll 47 = .ok (.iinc 3 1, 3) := by decide +kernel
theorem dX1_appendAll_50 : decode cX1_appendAll 50 = .ok (.goto (-46), 3) := by decide +kernel
theorem dX1_appendAll_53 : decode cX1_appendAll 53 = .ok (.return_, 1) := by decide +kernel
theorem dX1_apply_0 : decode cX1_apply 0 = .ok (.aload_n 0, 1) := by decide +kernel
theorem dX1_apply_1 : decode cX1_apply 1 = .ok (.invokevirtual 88, 3) := by decide +kernel
theorem dX1_apply_4 : decode cX1_apply 4 = .ok (.istore_n 2, 1) := by decide +kernel
theorem dX1_apply_5 : decode cX1_apply 5 = .ok (.aload_n 0, 1) := by decide +kernel
theorem dX1_apply_6 : decode cX1_apply 6 = .ok (.invokevirtual 88, 3) := by decide +kernel
theorem dX1_apply_9 : decode cX1_apply 9 = .ok (.istore_n 3, 1) := by decide +kernel
theorem dX1_apply_10 : decode cX1_apply 10 = .ok (.aload_n 0, 1) := by decide +kernel
theorem dX1_apply_11 : decode cX1_apply 11 = .ok (.getfield 12, 3) := by decide +kernel
theorem dX1_apply_14 : decode cX1_apply 14 = .ok (.iload_n 3, 1) := by decide +kernel
theorem dX1_apply_15 : decode cX1_apply 15 = .ok (.invokevirtual 136, 3) := by decide +kernel
theorem dX1_apply_18 : decode cX1_apply 18 = .ok (.ifCond .eq 18, 3) := by decide +kernel
theorem dX1_apply_21 : decode cX1_apply 21 = .ok (.aload_n 0, 1) := by decide +kernel
theorem dX1_apply_22 : decode cX1_apply 22 = .ok (.getfield 12, 3) := by decide +kernel
theorem dX1_apply_25 : decode cX1_apply 25 = .ok (.iload_n 2, 1) := by decide +kernel
theorem dX1_apply_26 : decode cX1_apply 26 = .ok (.invokevirtual 136, 3) := by decide +kernel
theorem dX1_apply_29 : decode cX1_apply 29 = .ok (.ifCond .eq 7, 3) := by decide +kernel
theorem dX1_apply_32 : decode cX1_apply 32 = .ok (.iconst 1, 1) := by decide +kernel
theorem dX1_apply_33 : decode cX1_apply 33 = .ok (.goto 4, 3) := by decide +kernel
theorem dX1_apply_36 : decode cX1_apply 36 = .ok (.iconst 0, 1) := by decide +kernel
theorem dX1_apply_37 : decode cX1_apply 37 = .ok (.istore 4, 2) := by decide +kernel
theorem dX1_apply_39 : decode cX1_apply 39 = .ok (.iload 4, 2) := by decide +kernel
theorem dX1_apply_41 : decode cX1_apply 41 = .ok (.ifCond .eq 55, 3) := by decide +kernel
theorem dX1_apply_44 : decode cX1_apply 44 = .ok (.iload_n 1, 1) := by decide +kernel
theorem dX1_apply_45 : decode cX1_apply 45 = .ok (.aload_n 0, 1) := by decide +kernel
theorem dX1_apply_46 : decode cX1_apply 46 = .ok (.getfield 12, 3) := by decide +kernel
theorem dX1_apply_49 : decode cX1_apply 49 = .ok (.getfield 130, 3) := by decide +kernel
theorem dX1_apply_52 : decode cX1_apply 52 = .ok (.iload_n 2, 1) := by decide +kernel
theorem dX1_apply_53 : decode cX1_apply 53 = .ok (.iaload, 1) := by decide +kernel
theorem dX1_apply_54 : decode cX1_apply 54 = .ok (.invokestatic 140, 3) := by decide +kernel
theorem dX1_apply_57 : decode cX1_apply 57 = .ok (.ifCond .ne 39, 3) := by decide +kernel
theorem dX1_apply_60 : decode cX1_apply 60 = .ok (.aload_n 0, 1) := by decide +kernel
theorem dX1_apply_61 : decode cX1_apply 61 = .ok (.aload_n 0, 1) := by decide +kernel
theorem dX1_apply_62 : decode cX1_apply 62 = .ok (.getfield 12, 3) := by decide +kernel
theorem dX1_apply_65 : decode cX1_apply 65 = .ok (.iload_n 1, 1) := by decide +kernel
theorem dX1_apply_66 : decode cX1_apply 66 = .ok (.aload_n 0, 1) := by decide +kernel
theorem dX1_apply_67 : decode cX1_apply 67 = .ok (.getfield 12, 3) := by decide +kernel
theorem dX1_apply_70 : decode cX1_apply 70 = .ok (.getfield 130, 3) := by decide +kernel
theorem dX1_apply_73 : decode cX1_apply 73 = .ok (.iload_n 3, 1) := by decide +kernel
theorem dX1_apply_74 : decode cX1_apply 74 = .ok (.iaload, 1) := by decide +kernel
theorem dX1_apply_75 : decode cX1_apply 75 = .ok (.aload_n 0, 1) := by decide +kernel
theorem dX1_apply_76 : decode cX1_apply 76 = .ok (.getfield 12, 3) := by decide +kernel
theorem dX1_apply_79 : decode cX1_apply 79 = .ok (.getfield 130, 3) := by decide +kernel
theorem dX1_apply_82 : decode cX1_apply 82 = .ok (.iload_n 2, 1) := by decide +kernel
theorem dX1_apply_83 : decode cX1_apply 83 = .ok (.iaload, 1) := by decide +kernel
theorem dX1_apply_84 : decode cX1_apply 84 = .ok (.invokestatic 144, 3) := by decide +kernel
theorem dX1_apply_87 : decode cX1_apply 87 = .ok (.invokevirtual 102, 3) := by decide +kernel
theorem dX1_apply_90 : decode cX1_apply 90 = .ok (.invokevirtual 105, 3) := by decide +kernel
theorem dX1_apply_93 : decode cX1_apply 93 = .ok (.goto 52, 3) := by decide +kernel
theorem dX1_apply_96 : decode cX1_apply 96 = .ok (.aload_n 0, 1) := by decide +kernel
theorem dX1_apply_97 : decode cX1_apply 97 = .ok (.iload_n 1, 1) := by decide +kernel
theorem dX1_apply_98 : decode cX1_apply 98 = .ok (.iload_n 2, 1) := by decide +kernel
theorem dX1_apply_99 : decode cX1_apply 99 = .ok (.invokevirtual 147, 3) := by decide +kernel
theorem dX1_apply_102 : decode cX1_apply 102 = .ok (.ifCond .eq 11, 3) := by decide +kernel
theorem dX1_apply_105 : decode cX1_apply 105 = .ok (.aload_n 0, 1) := by decide +kernel
theorem dX1_apply_106 : decode cX1_apply 106 = .ok (.iload_n 3, 1) := by decide +kernel
theorem dX1_apply_107 : decode cX1_apply 107 = .ok (.invokevirtual 105, 3) := by decide +kernel
theorem dX1_apply_110 : decode cX1_apply 110 = .ok (.goto 35, 3) := by decide +kernel
theorem dX1_apply_113 : decode cX1_apply 113 = .ok (.aload_n 0, 1) := by decide +kernel
theorem dX1_apply_114 : decode cX1_apply 114 = .ok (.iload_n 1, 1) := by decide +kernel
theorem dX1_apply_115 : decode cX1_apply 115 = .ok (.iload_n 3, 1) := by decide +kernel
theorem dX1_apply_116 : decode cX1_apply 116 = .ok (.invokevirtual 150, 3) := by decide +kernel
theorem dX1_apply_119 : decode cX1_apply 119 = .ok (.ifCond .eq 11, 3) := by decide +kernel
theorem dX1_apply_122 : decode cX1_apply 122 = .ok (.aload_n 0, 1) := by decide +kernel
theorem dX1_apply_123 : decode cX1_apply 123 = .ok (.iload_n 2, 1) := by decide +kernel
theorem dX1_apply_124 : decode cX1_apply 124 = .ok (.invokevirtual 105, 3) := by decide +kernel
theorem dX1_apply_127 : decode cX1_apply 127 = .ok (.goto 18, 3) := by decide +kernel
theorem dX1_apply_130 : decode cX1_apply 130 = .ok (.aload_n 0, 1) := by decide +kernel
theorem dX1_apply_131 : decode cX1_apply 131 = .ok (.aload_n 0, 1) := by decide +kernel
theorem dX1_apply_132 : decode cX1_apply 132 = .ok (.getfield 12, 3) := by decide +kernel
theorem dX1_apply_135 : decode cX1_apply 135 = .ok (.iconst 3, 1) := by decide +kernel
theorem dX1_apply_136 : decode cX1_apply 136 = .ok (.iload_n 1, 1) := by decide +kernel
theorem dX1_apply_137 : decode cX1_apply 137 = .ok (.iload_n 3, 1) := by decide +kernel
theorem dX1_apply_138 : decode cX1_apply 138 = .ok (.iload_n 2, 1) := by decide +kernel
theorem dX1_apply_139 : decode cX1_apply 139 = .ok (.invokevirtual 108, 3) := by decide +kernel
theorem dX1_apply_142 : decode cX1_apply 142 = .ok (.invokevirtual 105, 3) := by decide +kernel
theorem dX1_apply_145 : decode cX1_apply 145 = .ok (.return_, 1) := by decide +kernel
theorem dX1_changesNothingOnTheRight_0 : decode cX1_changesNothingOnTheRight 0 = .ok (.iload_n 1, 1) := by decide +kernel
theorem dX1_changesNothingOnTheRight_1 : decode cX1_changesNothingOnTheRight 1 = .ok (.bipush 43, 2) := by decide +kernel
theorem dX1_changesNothingOnTheRight_3 : decode cX1_changesNothingOnTheRight 3 = .ok (.if_icmp .eq 9, 3) := by decide +kernel
theorem dX1_changesNothingOnTheRight_6 : decode cX1_changesNothingOnTheRight 6 = .ok (.iload_n 1, 1) := by decide +kernel
theorem dX1_changesNothingOnTheRight_7 : decode cX1_changesNothingOnTheRight 7 = .ok (.bipush 45, 2) := by decide +kernel
theorem dX1_changesNothingOnTheRight_9 : decode cX1_changesNothingOnTheRight 9 = .ok (.if_icmp .ne 13, 3) := by decide +kernel
theorem dX1_changesNothingOnTheRight_12 : decode cX1_changesNothingOnTheRight 12 = .ok (.aload_n 0, 1) := by decide +kernel
theorem dX1_changesNothingOnTheRight_13 : decode cX1_changesNothingOnTheRight 13 = .ok (.getfield 12, 3) := by decide +kernel
theorem dX1_changesNothingOnTheRight_16 : decode cX1_changesNothingOnTheRight 16 = .ok (.iload_n 2, 1) := by decide +kernel
theorem dX1_changesNothingOnTheRight_17 : decode cX1_changesNothingOnTheRight 17 = .ok (.iconst 0, 1) := by decide +kernel
theorem dX1_changesNothingOnTheRight_18 : decode cX1_changesNothingOnTheRight 18 = .ok (.invokevirtual 153, 3) := by decide +kernel
theorem dX1_changesNothingOnTheRight_21 : decode cX1_changesNothingOnTheRight 21 = .ok (.ireturn, 1) := by decide +kernel
theorem dX1_changesNothingOnTheRight_22 : decode cX1_changesNothingOnTheRight 22 = .ok (.iload_n 1, 1) := by decide +kernel
theorem dX1_changesNothingOnTheRight_23 : decode cX1_changesNothingOnTheRight 23 = .ok (.bipush 42, 2) := by decide +kernel
theorem dX1_changesNothingOnTheRight_25 : decode cX1_changesNothingOnTheRight 25 = .ok (.if_icmp .eq 9, 3) := by decide +kernel
theorem dX1_changesNothingOnTheRight_28 : decode cX1_changesNothingOnTheRight 28 = .ok (.iload_n 1, 1) := by decide +kernel
theorem dX1_changesNothingOnTheRight_29 : decode cX1_changesNothingOnTheRight 29 = .ok (.bipush 47, 2) := by decide +kernel
theorem dX1_changesNothingOnTheRight_31 : decode cX1_changesNothingOnTheRight 31 = .ok (.if_icmp .ne 19, 3) := by decide +kernel
theorem dX1_changesNothingOnTheRight_34 : decode cX1_changesNothingOnTheRight 34 = .ok (.aload_n 0, 1) := by decide +kernel
theorem dX1_changesNothingOnTheRight_35 : decode cX1_changesNothingOnTheRight 35 = .ok (.getfield 12, 3) := by decide +kernel
theorem dX1_changesNothingOnTheRight_38 : decode cX1_changesNothingOnTheRight 38 = .ok (.iload_n 2, 1) := by decide +kernel
theorem dX1_changesNothingOnTheRight_39 : decode cX1_changesNothingOnTheRight 39 = .ok (.iconst 1, 1) := by decide +kernel
theorem dX1_changesNothingOnTheRight_40 : decode cX1_changesNothingOnTheRight 40 = .ok (.invokevirtual 153, 3) := by decide +kernel
theorem dX1_changesNothingOnTheRight_43 : decode cX1_changesNothingOnTheRight 43 = .ok (.ifCond .eq 7, 3) := by decide +kernel
theorem dX1_changesNothingOnTheRight_46 : decode cX1_changesNothingOnTheRight 46 = .ok (.iconst 1, 1) := by decide +kernel
theorem dX1_changesNothingOnTheRight_47 : decode cX1_changesNothingOnTheRight 47 = .ok (.goto 4, 3) := by decide +kernel
theorem dX1_changesNothingOnTheRight_50 : decode cX1_changesNothingOnTheRight 50 = .ok (.iconst 0, 1) := by decide +kernel
theorem dX1_changesNothingOnTheRight_51 : decode cX1_changesNothingOnTheRight 51 = .ok (.ireturn, 1) := by decide +kernel
theorem dX1_changesNothingOnTheLeft_0 : decode cX1_changesNothingOnTheLeft 0 = .ok (.iload_n 1, 1) := by decide +kernel
theorem dX1_changesNothingOnTheLeft_1 : decode cX1_changesNothingOnTheLeft 1 = .ok (.bipush 43, 2) := by decide +kernel
theorem dX1_changesNothingOnTheLeft_3 : decode cX1_changesNothingOnTheLeft 3 = .ok (.if_icmp .ne 15, 3) := by decide +kernel
theorem dX1_changesNothingOnTheLeft_6 : decode cX1_changesNothingOnTheLeft 6 = .ok (.aload_n 0, 1) := by decide +kernel
theorem dX1_changesNothingOnTheLeft_7 : decode cX1_changesNothingOnTheLeft 7 = .ok (.getfield 12, 3) := by decide +kernel
theorem dX1_changesNothingOnTheLeft_10 : decode cX1_changesNothingOnTheLeft 10 = .ok (.iload_n 2, 1) := by decide +kernel
theorem dX1_changesNothingOnTheLeft_11 : decode cX1_changesNothingOnTheLeft 11 = .ok (.iconst 0, 1) := by decide +kernel
theorem dX1_changesNothingOnTheLeft_12 : decode cX1_changesNothingOnTheLeft 12 = .ok (.invokevirtual 153, 3) := by decide +kernel
theorem dX1_changesNothingOnTheLeft_15 : decode cX1_changesNothingOnTheLeft 15 = .ok (.ifCond .ne 21, 3) := by decide +kernel
theorem dX1_changesNothingOnTheLeft_18 : decode cX1_changesNothingOnTheLeft 18 = .ok (.iload_n 1, 1) := by decide +kernel
theorem dX1_changesNothingOnTheLeft_19 : decode cX1_changesNothingOnTheLeft 19 = .ok (.bipush 42, 2) := by decide +kernel
theorem dX1_changesNothingOnTheLeft_21 : decode cX1_changesNothingOnTheLeft 21 = .ok (.if_icmp .ne 19, 3) := by decide +kernel
theorem dX1_changesNothingOnTheLeft_24 : decode cX1_changesNothingOnTheLeft 24 = .ok (.aload_n 0, 1) := by decide +kernel
theorem dX1_changesNothingOnTheLeft_25 : decode cX1_changesNothingOnTheLeft 25 = .ok (.getfield 12, 3) := by decide +kernel
theorem dX1_changesNothingOnTheLeft_28 : decode cX1_changesNothingOnTheLeft 28 = .ok (.iload_n 2, 1) := by decide +kernel
theorem dX1_changesNothingOnTheLeft_29 : decode cX1_changesNothingOnTheLeft 29 = .ok (.iconst 1, 1) := by decide +kernel
theorem dX1_changesNothingOnTheLeft_30 : decode cX1_changesNothingOnTheLeft 30 = .ok (.invokevirtual 153, 3) := by decide +kernel
theorem dX1_changesNothingOnTheLeft_33 : decode cX1_changesNothingOnTheLeft 33 = .ok (.ifCond .eq 7, 3) := by decide +kernel
theorem dX1_changesNothingOnTheLeft_36 : decode cX1_changesNothingOnTheLeft 36 = .ok (.iconst 1, 1) := by decide +kernel
theorem dX1_changesNothingOnTheLeft_37 : decode cX1_changesNothingOnTheLeft 37 = .ok (.goto 4, 3) := by decide +kernel
theorem dX1_changesNothingOnTheLeft_40 : decode cX1_changesNothingOnTheLeft 40 = .ok (.iconst 0, 1) := by decide +kernel
theorem dX1_changesNothingOnTheLeft_41 : decode cX1_changesNothingOnTheLeft 41 = .ok (.ireturn, 1) := by decide +kernel
theorem dX1_compare_0 : decode cX1_compare 0 = .ok (.aload_n 0, 1) := by decide +kernel
theorem dX1_compare_1 : decode cX1_compare 1 = .ok (.invokevirtual 88, 3) := by decide +kernel
theorem dX1_compare_4 : decode cX1_compare 4 = .ok (.istore_n 2, 1) := by decide +kernel
theorem dX1_compare_5 : decode cX1_compare 5 = .ok (.aload_n 0, 1) := by decide +kernel
theorem dX1_compare_6 : decode cX1_compare 6 = .ok (.invokevirtual 88, 3) := by decide +kernel
theorem dX1_compare_9 : decode cX1_compare 9 = .ok (.istore_n 3, 1) := by decide +kernel
theorem dX1_compare_10 : decode cX1_compare 10 = .ok (.aload_n 0, 1) := by decide +kernel
theorem dX1_compare_11 : decode cX1_compare 11 = .ok (.getfield 12, 3) := by decide +kernel
theorem dX1_compare_14 : decode cX1_compare 14 = .ok (.iload_n 3, 1) := by decide +kernel
theorem dX1_compare_15 : decode cX1_compare 15 = .ok (.invokevirtual 136, 3) := by decide +kernel
theorem dX1_compare_18 : decode cX1_compare 18 = .ok (.ifCond .eq 55, 3) := by decide +kernel
theorem dX1_compare_21 : decode cX1_compare 21 = .ok (.aload_n 0, 1) := by decide +kernel
theorem dX1_compare_22 : decode cX1_compare 22 = .ok (.getfield 12, 3) := by decide +kernel
theorem dX1_compare_25 : decode cX1_compare 25 = .ok (.iload_n 2, 1) := by decide +kernel
theorem dX1_compare_26 : decode cX1_compare 26 = .ok (.invokevirtual 136, 3) := by decide +kernel
theorem dX1_compare_29 : decode cX1_compare 29 = .ok (.ifCond .eq 44, 3) := by decide +kernel
theorem dX1_compare_32 : decode cX1_compare 32 = .ok (.iload_n 1, 1) := by decide +kernel
theorem dX1_compare_33 : decode cX1_compare 33 = .ok (.aload_n 0, 1) := by decide +kernel
theorem dX1_compare_34 : decode cX1_compare 34 = .ok (.getfield 12, 3) := by decide +kernel
theorem dX1_compare_37 : decode cX1_compare 37 = .ok (.getfield 130, 3) := by decide +kernel
theorem dX1_compare_40 : decode cX1_compare 40 = .ok (.iload_n 3, 1) := by decide +kernel
theorem dX1_compare_41 : decode cX1_compare 41 = .ok (.iaload, 1) := by decide +kernel
theorem dX1_compare_42 : decode cX1_compare 42 = .ok (.aload_n 0, 1) := by decide +kernel
theorem dX1_compare_43 : decode cX1_compare 43 = .ok (.getfield 12, 3) := by decide +kernel
theorem dX1_compare_46 : decode cX1_compare 46 = .ok (.getfield 130, 3) := by decide +kernel
theorem dX1_compare_49 : decode cX1_compare 49 = .ok (.iload_n 2, 1) := by decide +kernel
theorem dX1_compare_50 : decode cX1_compare 50 = .ok (.iaload, 1) := by decide +kernel
theorem dX1_compare_51 : decode cX1_compare 51 = .ok (.invokestatic 156, 3) := by decide +kernel
theorem dX1_compare_54 : decode cX1_compare 54 = .ok (.istore 4, 2) := by decide +kernel
theorem dX1_compare_56 : decode cX1_compare 56 = .ok (.aload_n 0, 1) := by decide +kernel
theorem dX1_compare_57 : decode cX1_compare 57 = .ok (.iload 4, 2) := by decide +kernel
theorem dX1_compare_59 : decode cX1_compare 59 = .ok (.ifCond .eq 7, 3) := by decide +kernel
theorem dX1_compare_62 : decode cX1_compare 62 = .ok (.iconst 2, 1) := by decide +kernel
theorem dX1_compare_63 : decode cX1_compare 63 = .ok (.goto 4, 3) := by decide +kernel
theorem dX1_compare_66 : decode cX1_compare 66 = .ok (.iconst 3, 1) := by decide +kernel
theorem dX1_compare_67 : decode cX1_compare 67 = .ok (.invokevirtual 105, 3) := by decide +kernel
theorem dX1_compare_70 : decode cX1_compare 70 = .ok (.goto 18, 3) := by decide +kernel
theorem dX1_compare_73 : decode cX1_compare 73 = .ok (.aload_n 0, 1) := by decide +kernel
theorem dX1_compare_74 : decode cX1_compare 74 = .ok (.aload_n 0, 1) := by decide +kernel
theorem dX1_compare_75 : decode cX1_compare 75 = .ok (.getfield 12, 3) := by decide +kernel
theorem dX1_compare_78 : decode cX1_compare 78 = .ok (.iconst 3, 1) := by decide +kernel
theorem dX1_compare_79 : decode cX1_compare 79 = .ok (.iload_n 1, 1) := by decide +kernel
theorem dX1_compare_80 : decode cX1_compare 80 = .ok (.iload_n 3, 1) := by decide +kernel
theorem dX1_compare_81 : decode cX1_compare 81 = .ok (.iload_n 2, 1) := by decide +kernel
theorem dX1_compare_82 : decode cX1_compare 82 = .ok (.invokevirtual 108, 3) := by decide +kernel
theorem dX1_compare_85 : decode cX1_compare 85 = .ok (.invokevirtual 105, 3) := by decide +kernel
theorem dX1_compare_88 : decode cX1_compare 88 = .ok (.return_, 1) := by decide +kernel
theorem dX1_join_0 : decode cX1_join 0 = .ok (.aload_n 0, 1) := by decide +kernel
theorem dX1_join_1 : decode cX1_join 1 = .ok (.invokevirtual 88, 3) := by decide +kernel
theorem dX1_join_4 : decode cX1_join 4 = .ok (.istore_n 2, 1) := by decide +kernel
theorem dX1_join_5 : decode cX1_join 5 = .ok (.aload_n 0, 1) := by decide +kernel
theorem dX1_join_6 : decode cX1_join 6 = .ok (.invokevirtual 88, 3) := by decide +kernel
theorem dX1_join_9 : decode cX1_join 9 = .ok (.istore_n 3, 1) := by decide +kernel
theorem dX1_join_10 : decode cX1_join 10 = .ok (.iload_n 1, 1) := by decide +kernel
theorem dX1_join_11 : decode cX1_join 11 = .ok (.bipush 38, 2) := by decide +kernel
theorem dX1_join_13 : decode cX1_join 13 = .ok (.if_icmp .ne 7, 3) := by decide +kernel
theorem dX1_join_16 : decode cX1_join 16 = .ok (.iconst 2, 1) := by decide +kernel
theorem dX1_join_17 : decode cX1_join 17 = .ok (.goto 4, 3) := by decide +kernel
theorem dX1_join_20 : decode cX1_join 20 = .ok (.iconst 3, 1) := by decide +kernel
theorem dX1_join_21 : decode cX1_join 21 = .ok (.istore 4, 2) := by decide +kernel
theorem dX1_join_23 : decode cX1_join 23 = .ok (.iload_n 1, 1) := by decide +kernel
theorem dX1_join_24 : decode cX1_join 24 = .ok (.bipush 38, 2) := by decide +kernel
theorem dX1_join_26 : decode cX1_join 26 = .ok (.if_icmp .ne 7, 3) := by decide +kernel
theorem dX1_join_29 : decode cX1_join 29 = .ok (.iconst 3, 1) := by decide +kernel
theorem dX1_join_30 : decode cX1_join 30 = .ok (.goto 4, 3) := by decide +kernel
theorem dX1_join_33 : decode cX1_join 33 = .ok (.iconst 2, 1) := by decide +kernel
theorem dX1_join_34 : decode cX1_join 34 = .ok (.istore 5, 2) := by decide +kernel
theorem dX1_join_36 : decode cX1_join 36 = .ok (.iload_n 3, 1) := by decide +kernel
theorem dX1_join_37 : decode cX1_join 37 = .ok (.iload 4, 2) := by decide +kernel
theorem dX1_join_39 : decode cX1_join 39 = .ok (.if_icmp .ne 11, 3) := by decide +kernel
theorem dX1_join_42 : decode cX1_join 42 = .ok (.aload_n 0, 1) := by decide +kernel
theorem dX1_join_43 : decode cX1_join 43 = .ok (.iload_n 2, 1) := by decide +kernel
theorem dX1_join_44 : decode cX1_join 44 = .ok (.invokevirtual 105, 3) := by decide +kernel
theorem dX1_join_47 : decode cX1_join 47 = .ok (.goto 38, 3) := by decide +kernel
theorem dX1_join_50 : decode cX1_join 50 = .ok (.iload_n 3, 1) := by decide +kernel
theorem dX1_join_51 : decode cX1_join 51 = .ok (.iload 5, 2) := by decide +kernel
theorem dX1_join_53 : decode cX1_join 53 = .ok (.if_icmp .eq 9, 3) := by decide +kernel
theorem dX1_join_56 : decode cX1_join 56 = .ok (.iload_n 2, 1) := by decide +kernel
theorem dX1_join_57 : decode cX1_join 57 = .ok (.iload 4, 2) := by decide +kernel
theorem dX1_join_59 : decode cX1_join 59 = .ok (.if_icmp .ne 11, 3) := by decide +kernel
theorem dX1_join_62 : decode cX1_join 62 = .ok (.aload_n 0, 1) := by decide +kernel
theorem dX1_join_63 : decode cX1_join 63 = .ok (.iload_n 3, 1) := by decide +kernel
theorem dX1_join_64 : decode cX1_join 64 = .ok (.invokevirtual 105, 3) := by decide +kernel
theorem dX1_join_67 : decode cX1_join 67 = .ok (.goto 18, 3) := by decide +kernel
theorem dX1_join_70 : decode cX1_join 70 = .ok (.aload_n 0, 1) := by decide +kernel
theorem dX1_join_71 : decode cX1_join 71 = .ok (.aload_n 0, 1) := by decide +kernel
theorem dX1_join_72 : decode cX1_join 72 = .ok (.getfield 12, 3) := by decide +kernel
theorem dX1_join_75 : decode cX1_join 75 = .ok (.iconst 3, 1) := by decide +kernel
theorem dX1_join_76 : decode cX1_join 76 = .ok (.iload_n 1, 1) := by decide +kernel
theorem dX1_join_77 : decode cX1_join 77 = .ok (.iload_n 3, 1) := by decide +kernel
theorem dX1_join_78 : decode cX1_join 78 = .ok (.iload_n 2, 1) := by decide +kernel
theorem dX1_join_79 : decode cX1_join 79 = .ok (.invokevirtual 108, 3) := by decide +kernel
theorem dX1_join_82 : decode cX1_join 82 = .ok (.invokevirtual 105, 3) := by decide +kernel
theorem dX1_join_85 : decode cX1_join 85 = .ok (.return_, 1) := by decide +kernel
theorem dX1_store_0 : decode cX1_store 0 = .ok (.aload_n 0, 1) := by decide +kernel
theorem dX1_store_1 : decode cX1_store 1 = .ok (.invokevirtual 88, 3) := by decide +kernel
theorem dX1_store_4 : decode cX1_store 4 = .ok (.istore_n 2, 1) := by decide +kernel
theorem dX1_store_5 : decode cX1_store 5 = .ok (.aload_n 0, 1) := by decide +kernel
theorem dX1_store_6 : decode cX1_store 6 = .ok (.getfield 12, 3) := by decide +kernel
theorem dX1_store_9 : decode cX1_store 9 = .ok (.getfield 127, 3) := by decide +kernel
theorem dX1_store_12 : decode cX1_store 12 = .ok (.iload_n 2, 1) := by decide +kernel
theorem dX1_store_13 : decode cX1_store 13 = .ok (.iaload, 1) := by decide +kernel
theorem dX1_store_14 : decode cX1_store 14 = .ok (.iconst 2, 1) := by decide +kernel
theorem dX1_store_15 : decode cX1_store 15 = .ok (.if_icmp .ne 20, 3) := by decide +kernel
theorem dX1_store_18 : decode cX1_store 18 = .ok (.aload_n 0, 1) := by decide +kernel
theorem dX1_store_19 : decode cX1_store 19 = .ok (.getfield 12, 3) := by decide +kernel
theorem dX1_store_22 : decode cX1_store 22 = .ok (.getfield 130, 3) := by decide +kernel
theorem dX1_store_25 : decode cX1_store 25 = .ok (.iload_n 2, 1) := by decide +kernel
theorem dX1_store_26 : decode cX1_store 26 = .ok (.iaload, 1) := by decide +kernel
theorem dX1_store_27 : decode cX1_store 27 = .ok (.iload_n 1, 1) := by decide +kernel
theorem dX1_store_28 : decode cX1_store 28 = .ok (.if_icmp .ne 7, 3) := by decide +kernel
theorem dX1_store_31 : decode cX1_store 31 = .ok (.iconst 1, 1) := by decide +kernel
theorem dX1_store_32 : decode cX1_store 32 = .ok (.goto 4, 3) := by decide +kernel
theorem dX1_store_35 : decode cX1_store 35 = .ok (.iconst 0, 1) := by decide +kernel
theorem dX1_store_36 : decode cX1_store 36 = .ok (.istore_n 3, 1) := by decide +kernel
theorem dX1_store_37 : decode cX1_store 37 = .ok (.iload_n 3, 1) := by decide +kernel
theorem dX1_store_38 : decode cX1_store 38 = .ok (.ifCond .ne 18, 3) := by decide +kernel
theorem dX1_store_41 : decode cX1_store 41 = .ok (.aload_n 0, 1) := by decide +kernel
theorem dX1_store_42 : decode cX1_store 42 = .ok (.aload_n 0, 1) := by decide +kernel
theorem dX1_store_43 : decode cX1_store 43 = .ok (.getfield 12, 3) := by decide +kernel
theorem dX1_store_46 : decode cX1_store 46 = .ok (.iconst 4, 1) := by decide +kernel
theorem dX1_store_47 : decode cX1_store 47 = .ok (.iload_n 1, 1) := by decide +kernel
theorem dX1_store_48 : decode cX1_store 48 = .ok (.iload_n 2, 1) := by decide +kernel
theorem dX1_store_49 : decode cX1_store 49 = .ok (.iconst 0, 1) := by decide +kernel
theorem dX1_store_50 : decode cX1_store 50 = .ok (.invokevirtual 108, 3) := by decide +kernel
theorem dX1_store_53 : decode cX1_store 53 = .ok (.invokevirtual 118, 3) := by decide +kernel
theorem dX1_store_56 : decode cX1_store 56 = .ok (.return_, 1) := by decide +kernel
theorem dX1_check_0 : decode cX1_check 0 = .ok (.aload_n 0, 1) := by decide +kernel
theorem dX1_check_1 : decode cX1_check 1 = .ok (.invokevirtual 88, 3) := by decide +kernel
theorem dX1_check_4 : decode cX1_check 4 = .ok (.istore_n 1, 1) := by decide +kernel
theorem dX1_check_5 : decode cX1_check 5 = .ok (.iload_n 1, 1) := by decide +kernel
theorem dX1_check_6 : decode cX1_check 6 = .ok (.iconst 2, 1) := by decide +kernel
theorem dX1_check_7 : decode cX1_check 7 = .ok (.if_icmp .eq 18, 3) := by decide +kernel
theorem dX1_check_10 : decode cX1_check 10 = .ok (.aload_n 0, 1) := by decide +kernel
theorem dX1_check_11 : decode cX1_check 11 = .ok (.aload_n 0, 1) := by decide +kernel
theorem dX1_check_12 : decode cX1_check 12 = .ok (.getfield 12, 3) := by decide +kernel
theorem dX1_check_15 : decode cX1_check 15 = .ok (.iconst 5, 1) := by decide +kernel
theorem dX1_check_16 : decode cX1_check 16 = .ok (.iload_n 1, 1) := by decide +kernel
theorem dX1_check_17 : decode cX1_check 17 = .ok (.iconst 0, 1) := by decide +kernel
theorem dX1_check_18 : decode cX1_check 18 = .ok (.iconst 0, 1) := by decide +kernel
theorem dX1_check_19 : decode cX1_check 19 = .ok (.invokevirtual 108, 3) := by decide +kernel
theorem dX1_check_22 : decode cX1_check 22 = .ok (.invokevirtual 118, 3) := by decide +kernel
theorem dX1_check_25 : decode cX1_check 25 = .ok (.return_, 1) := by decide +kernel
theorem dX1_endIf_0 : decode cX1_endIf 0 = .ok (.aload_n 0, 1) := by decide +kernel
theorem dX1_endIf_1 : decode cX1_endIf 1 = .ok (.invokevirtual 88, 3) := by decide +kernel
theorem dX1_endIf_4 : decode cX1_endIf 4 = .ok (.istore_n 1, 1) := by decide +kernel
theorem dX1_endIf_5 : decode cX1_endIf 5 = .ok (.aload_n 0, 1) := by decide +kernel
theorem dX1_endIf_6 : decode cX1_endIf 6 = .ok (.invokevirtual 88, 3) := by decide +kernel
theorem dX1_endIf_9 : decode cX1_endIf 9 = .ok (.istore_n 2, 1) := by decide +kernel
theorem dX1_endIf_10 : decode cX1_endIf 10 = .ok (.aload_n 0, 1) := by decide +kernel
theorem dX1_endIf_11 : decode cX1_endIf 11 = .ok (.invokevirtual 88, 3) := by decide +kernel
theorem dX1_endIf_14 : decode cX1_endIf 14 = .ok (.istore_n 3, 1) := by decide +kernel
theorem dX1_endIf_15 : decode cX1_endIf 15 = .ok (.iload_n 3, 1) := by decide +kernel
theorem dX1_endIf_16 : decode cX1_endIf 16 = .ok (.iconst 2, 1) := by decide +kernel
theorem dX1_endIf_17 : decode cX1_endIf 17 = .ok (.if_icmp .ne 11, 3) := by decide +kernel
theorem dX1_endIf_20 : decode cX1_endIf 20 = .ok (.aload_n 0, 1) := by decide +kernel
theorem dX1_endIf_21 : decode cX1_endIf 21 = .ok (.iload_n 2, 1) := by decide +kernel
theorem dX1_endIf_22 : decode cX1_endIf 22 = .ok (.invokevirtual 160, 3) := by decide +kernel
theorem dX1_endIf_25 : decode cX1_endIf 25 = .ok (.goto 32, 3) := by decide +kernel
theorem dX1_endIf_28 : decode cX1_endIf 28 = .ok (.iload_n 3, 1) := by decide +kernel
theorem dX1_endIf_29 : decode cX1_endIf 29 = .ok (.iconst 3, 1) := by decide +kernel
theorem dX1_endIf_30 : decode cX1_endIf 30 = .ok (.if_icmp .ne 11, 3) := by decide +kernel
theorem dX1_endIf_33 : decode cX1_endIf 33 = .ok (.aload_n 0, 1) := by decide +kernel
theorem dX1_endIf_34 : decode cX1_endIf 34 = .ok (.iload_n 1, 1) := by decide +kernel
theorem dX1_endIf_35 : decode cX1_endIf 35 = .ok (.invokevirtual 160, 3) := by decide +kernel
theorem dX1_endIf_38 : decode cX1_endIf 38 = .ok (.goto 19, 3) := by decide +kernel
theorem dX1_endIf_41 : decode cX1_endIf 41 = .ok (.aload_n 0, 1) := by decide +kernel
theorem dX1_endIf_42 : decode cX1_endIf 42 = .ok (.aload_n 0, 1) := by decide +kernel
theorem dX1_endIf_43 : decode cX1_endIf 43 = .ok (.getfield 12, 3) := by decide +kernel
theorem dX1_endIf_46 : decode cX1_endIf 46 = .ok (.bipush 7, 2) := by decide +kernel
theorem dX1_endIf_48 : decode cX1_endIf 48 = .ok (.iload_n 3, 1) := by decide +kernel
theorem dX1_endIf_49 : decode cX1_endIf 49 = .ok (.iload_n 2, 1) := by decide +kernel
theorem dX1_endIf_50 : decode cX1_endIf 50 = .ok (.iload_n 1, 1) := by decide +kernel
theorem dX1_endIf_51 : decode cX1_endIf 51 = .ok (.invokevirtual 108, 3) := by decide +kernel
theorem dX1_endIf_54 : decode cX1_endIf 54 = .ok (.invokevirtual 118, 3) := by decide +kernel
theorem dX1_endIf_57 : decode cX1_endIf 57 = .ok (.return_, 1) := by decide +kernel
theorem dX1_endWhile_0 : decode cX1_endWhile 0 = .ok (.aload_n 0, 1) := by decide +kernel
theorem dX1_endWhile_1 : decode cX1_endWhile 1 = .ok (.invokevirtual 88, 3) := by decide +kernel
theorem dX1_endWhile_4 : decode cX1_endWhile 4 = .ok (.istore_n 1, 1) := by decide +kernel
theorem dX1_endWhile_5 : decode cX1_endWhile 5 = .ok (.aload_n 0, 1) := by decide +kernel
theorem dX1_endWhile_6 : decode cX1_endWhile 6 = .ok (.invokevirtual 88, 3) := by decide +kernel
theorem dX1_endWhile_9 : decode cX1_endWhile 9 = .ok (.istore_n 2, 1) := by decide +kernel
theorem dX1_endWhile_10 : decode cX1_endWhile 10 = .ok (.iload_n 2, 1) := by decide +kernel
theorem dX1_endWhile_11 : decode cX1_endWhile 11 = .ok (.iconst 3, 1) := by decide +kernel
theorem dX1_endWhile_12 : decode cX1_endWhile 12 = .ok (.if_icmp .eq 19, 3) := by decide +kernel
theorem dX1_endWhile_15 : decode cX1_endWhile 15 = .ok (.aload_n 0, 1) := by decide +kernel
theorem dX1_endWhile_16 : decode cX1_endWhile 16 = .ok (.aload_n 0, 1) := by decide +kernel
theorem dX1_endWhile_17 : decode cX1_endWhile 17 = .ok (.getfield 12, 3) := by decide +kernel
theorem dX1_endWhile_20 : decode cX1_endWhile 20 = .ok (.bipush 8, 2) := by decide +kernel
theorem dX1_endWhile_22 : decode cX1_endWhile 22 = .ok (.iload_n 2, 1) := by decide +kernel
theorem dX1_endWhile_23 : decode cX1_endWhile 23 = .ok (.iload_n 1, 1) := by decide +kernel
theorem dX1_endWhile_24 : decode cX1_endWhile 24 = .ok (.iconst 0, 1) := by decide +kernel
theorem dX1_endWhile_25 : decode cX1_endWhile 25 = .ok (.invokevirtual 108, 3) := by decide +kernel
theorem dX1_endWhile_28 : decode cX1_endWhile 28 = .ok (.invokevirtual 118, 3) := by decide +kernel
theorem dX1_endWhile_31 : decode cX1_endWhile 31 = .ok (.return_, 1) := by decide +kernel
theorem dX2_init_0 : decode cX2_init 0 = .ok (.aload_n 0, 1) := by decide +kernel
theorem dX2_init_1 : decode cX2_init 1 = .ok (.invokespecial 5, 3) := by decide +kernel
theorem dX2_init_4 : decode cX2_init 4 = .ok (.aload_n 0, 1) := by decide +kernel
theorem dX2_init_5 : decode cX2_init 5 = .ok (.iconst 0, 1) := by decide +kernel
theorem dX2_init_6 : decode cX2_init 6 = .ok (.putfield 11, 3) := by decide +kernel
theorem dX2_init_9 : decode cX2_init 9 = .ok (.aload_n 0, 1) := by decide +kernel
theorem dX2_init_10 : decode cX2_init 10 = .ok (.iconst 0, 1) := by decide +kernel
theorem dX2_init_11 : decode cX2_init 11 = .ok (.putfield 17, 3) := by decide +kernel
theorem dX2_init_14 : decode cX2_init 14 = .ok (.aload_n 0, 1) := by decide +kernel
theorem dX2_init_15 : decode cX2_init 15 = .ok (.lconst 0, 1) := by decide +kernel
theorem dX2_init_16 : decode cX2_init 16 = .ok (.putfield 20, 3) := by decide +kernel
theorem dX2_init_19 : decode cX2_init 19 = .ok (.aload_n 0, 1) := by decide +kernel
theorem dX2_init_20 : decode cX2_init 20 = .ok (.bipush 32, 2) := by decide +kernel
theorem dX2_init_22 : decode cX2_init 22 = .ok (.newarray .int, 2) := by decide +kernel
theorem dX2_init_24 : decode cX2_init 24 = .ok (.putfield 24, 3) := by decide +kernel
theorem dX2_init_27 : decode cX2_init 27 = .ok (.aload_n 0, 1) := by decide +kernel
theorem dX2_init_28 : decode cX2_init 28 = .ok (.bipush 8, 2) := by decide +kernel
theorem dX2_init_30 : decode cX2_init 30 = .ok (.newarray .int, 2) := by decide +kernel
theorem dX2_init_32 : decode cX2_init 32 = .ok (.putfield 28, 3) := by decide +kernel
theorem dX2_init_35 : decode cX2_init 35 = .ok (.aload_n 0, 1) := by decide +kernel
theorem dX2_init_36 : decode cX2_init 36 = .ok (.iconst 0, 1) := by decide +kernel
theorem dX2_init_37 : decode cX2_init 37 = .ok (.putfield 31, 3) := by decide +kernel
theorem dX2_init_40 : decode cX2_init 40 = .ok (.aload_n 0, 1) := by decide +kernel
theorem dX2_init_41 : decode cX2_init 41 = .ok (.iconst 0, 1) := by decide +kernel
theorem dX2_init_42 : decode cX2_init 42 = .ok (.putfield 34, 3) := by decide +kernel
theorem dX2_init_45 : decode cX2_init 45 = .ok (.aload_n 0, 1) := by decide +kernel
theorem dX2_init_46 : decode cX2_init 46 = .ok (.iconst 0, 1) := by decide +kernel
theorem dX2_init_47 : decode cX2_init 47 = .ok (.putfield 37, 3) := by decide +kernel
theorem dX2_init_50 : decode cX2_init 50 = .ok (.aload_n 0, 1) := by decide +kernel
theorem dX2_init_51 : decode cX2_init 51 = .ok (.iconst 0, 1) := by decide +kernel
theorem dX2_init_52 : decode cX2_init 52 = .ok (.putfield 40, 3) := by decide +kernel
theorem dX2_init_55 : decode cX2_init 55 = .ok (.aload_n 0, 1) := by decide +kernel
theorem dX2_init_56 : decode cX2_init 56 = .ok (.iconst (-1), 1) := by decide +kernel
theorem dX2_init_57 : decode cX2_init 57 = .ok (.putfield 43, 3) := by decide +kernel
theorem dX2_init_60 : decode cX2_init 60 = .ok (.aload_n 0, 1) := by decide +kernel
theorem dX2_init_61 : decode cX2_init 61 = .ok (.iconst 0, 1) := by decide +kernel
theorem dX2_init_62 : decode cX2_init 62 = .ok (.putfield 46, 3) := by decide +kernel
theorem dX2_init_65 : decode cX2_init 65 = .ok (.aload_n 0, 1) := by decide +kernel
theorem dX2_init_66 : decode cX2_init 66 = .ok (.new 1, 3) := by decide +kernel
theorem dX2_init_69 : decode cX2_init 69 = .ok (.dup, 1) := by decide +kernel
theorem dX2_init_70 : decode cX2_init 70 = .ok (.invokespecial 49, 3) := by decide +kernel
theorem dX2_init_73 : decode cX2_init 73 = .ok (.putfield 50, 3) := by decide +kernel
theorem dX2_init_76 : decode cX2_init 76 = .ok (.return_, 1) := by decide +kernel
theorem dX2_execute_0 : decode cX2_execute 0 = .ok (.aload_n 0, 1) := by decide +kernel
theorem dX2_execute_1 : decode cX2_execute 1 = .ok (.aload_n 1, 1) := by decide +kernel
theorem dX2_execute_2 : decode cX2_execute 2 = .ok (.putfield 50, 3) := by decide +kernel
theorem dX2_execute_5 : decode cX2_execute 5 = .ok (.aload_n 0, 1) := by decide +kernel
theorem dX2_execute_6 : decode cX2_execute 6 = .ok (.iload_n 2, 1) := by decide +kernel
theorem dX2_execute_7 : decode cX2_execute 7 = .ok (.putfield 43, 3) := by decide +kernel
theorem dX2_execute_10 : decode cX2_execute 10 = .ok (.aload_n 0, 1) := by decide +kernel
theorem dX2_execute_11 : decode cX2_execute 11 = .ok (.iload_n 3, 1) := by decide +kernel
theorem dX2_execute_12 : decode cX2_execute 12 = .ok (.putfield 46, 3) := by decide +kernel
theorem dX2_execute_15 : decode cX2_execute 15 = .ok (.aload_n 0, 1) := by decide +kernel
theorem dX2_execute_16 : decode cX2_execute 16 = .ok (.iload 6, 2) := by decide +kernel
theorem dX2_execute_18 : decode cX2_execute 18 = .ok (.putfield 40, 3) := by decide +kernel
theorem dX2_execute_21 : decode cX2_execute 21 = .ok (.aload_n 0, 1) := by decide +kernel
theorem dX2_execute_22 : decode cX2_execute 22 = .ok (.getfield 28, 3) := by decide +kernel
theorem dX2_execute_25 : decode cX2_execute 25 = .ok (.iconst 0, 1) := by decide +kernel
theorem dX2_execute_26 : decode cX2_execute 26 = .ok (.invokestatic 54, 3) := by decide +kernel
theorem dX2_execute_29 : decode cX2_execute 29 = .ok (.aload_n 0, 1) := by decide +kernel
theorem dX2_execute_30 : decode cX2_execute 30 = .ok (.getfield 28, 3) := by decide +kernel
theorem dX2_execute_33 : decode cX2_execute 33 = .ok (.bipush 6, 2) := by decide +kernel
theorem dX2_execute_35 : decode cX2_execute 35 = .ok (.iload 4, 2) := by decide +kernel
theorem dX2_execute_37 : decode cX2_execute 37 = .ok (.iastore, 1) := by decide +kernel
theorem dX2_execute_38 : decode cX2_execute 38 = .ok (.aload_n 0, 1) := by decide +kernel
theorem dX2_execute_39 : decode cX2_execute 39 = .ok (.getfield 28, 3) := by decide +kernel
theorem dX2_execute_42 : decode cX2_execute 42 = .ok (.bipush 7, 2) := by decide +kernel
theorem dX2_execute_44 : decode cX2_execute 44 = .ok (.iload 5, 2) := by decide +kernel
theorem dX2_execute_46 : decode cX2_execute 46 = .ok (.iastore, 1) := by decide +kernel
theorem dX2_execute_47 : decode cX2_execute 47 = .ok (.aload_n 0, 1) := by decide +kernel
theorem dX2_execute_48 : decode cX2_execute 48 = .ok (.iconst 0, 1) := by decide +kernel
theorem dX2_execute_49 : decode cX2_execute 49 = .ok (.putfield 31, 3) := by decide +kernel
theorem dX2_execute_52 : decode cX2_execute 52 = .ok (.aload_n 0, 1) := by decide +kernel
theorem dX2_execute_53 : decode cX2_execute 53 = .ok (.iconst 0, 1) := by decide +kernel
theorem dX2_execute_54 : decode cX2_execute 54 = .ok (.putfield 34, 3) := by decide +kernel
theorem dX2_execute_57 : decode cX2_execute 57 = .ok (.aload_n 0, 1) := by decide +kernel
theorem dX2_execute_58 : decode cX2_execute 58 = .ok (.iconst 0, 1) := by decide +kernel
theorem dX2_execute_59 : decode cX2_execute 59 = .ok (.putfield 11, 3) := by decide +kernel
theorem dX2_execute_62 : decode cX2_execute 62 = .ok (.aload_n 0, 1) := by decide +kernel
theorem dX2_execute_63 : decode cX2_execute 63 = .ok (.iconst 0, 1) := by decide +kernel
theorem dX2_execute_64 : decode cX2_execute 64 = .ok (.putfield 17, 3) := by decide +kernel
theorem dX2_execute_67 : decode cX2_execute 67 = .ok (.aload_n 0, 1) := by decide +kernel
theorem dX2_execute_68 : decode cX2_execute 68 = .ok (.lconst 0, 1) := by decide +kernel
theorem dX2_execute_69 : decode cX2_execute 69 = .ok (.putfield 20, 3) := by decide +kernel
theorem dX2_execute_72 : decode cX2_execute 72 = .ok (.aload_n 0, 1) := by decide +kernel
theorem dX2_execute_73 : decode cX2_execute 73 = .ok (.iconst (-1), 1) := by decide +kernel
theorem dX2_execute_74 : decode cX2_execute 74 = .ok (.putfield 37, 3) := by decide +kernel
theorem dX2_execute_77 : decode cX2_execute 77 = .ok (.iconst 0, 1) := by decide +kernel
theorem dX2_execute_78 : decode cX2_execute 78 = .ok (.istore 7, 2) := by decide +kernel
theorem dX2_execute_80 : decode cX2_execute 80 = .ok (.iload 7, 2) := by decide +kernel
theorem dX2_execute_82 : decode cX2_execute 82 = .ok (.sipush 4080, 3) := by decide +kernel
theorem dX2_execute_85 : decode cX2_execute 85 = .ok (.if_icmp .ge 51, 3) := by decide +kernel
theorem dX2_execute_88 : decode cX2_execute 88 = .ok (.aload_n 0, 1) := by decide +kernel
theorem dX2_execute_89 : decode cX2_execute 89 = .ok (.getfield 37, 3) := by decide +kernel
theorem dX2_execute_92 : decode cX2_execute 92 = .ok (.iconst (-1), 1) := by decide +kernel
theorem dX2_execute_93 : decode cX2_execute 93 = .ok (.if_icmp .ne 43, 3) := by decide +kernel
theorem dX2_execute_96 : decode cX2_execute 96 = .ok (.aload_n 0, 1) := by decide +kernel
theorem dX2_execute_97 : decode cX2_execute 97 = .ok (.getfield 34, 3) := by decide +kernel
theorem dX2_execute_100 : decode cX2_execute 100 = .ok (.aload_n 0, 1) := by decide +kernel
theorem dX2_execute_101 : decode cX2_execute 101 = .ok (.getfield 50, 3) := by decide +kernel
theorem dX2_execute_104 : decode cX2_execute 104 = .ok (.getfield 60, 3) := by decide +kernel
theorem dX2_execute_107 : decode cX2_execute 107 = .ok (.if_icmp .ge 29, 3) := by decide +kernel
theorem dX2_execute_110 : decode cX2_execute 110 = .ok (.aload_n 0, 1) := by decide +kernel
theorem dX2_execute_111 : decode cX2_execute 111 = .ok (.dup, 1) := by decide +kernel
theorem dX2_execute_112 : decode cX2_execute 112 = .ok (.getfield 34, 3) := by decide +kernel
theorem dX2_execute_115 : decode cX2_execute 115 = .ok (.iconst 1, 1) := by decide +kernel
theorem dX2_execute_116 : decode cX2_execute 116 = .ok (.iadd, 1) := by decide +kernel
theorem dX2_execute_117 : decode cX2_execute 117 = .ok (.putfield 34, 3) := by decide +kernel
theorem dX2_execute_120 : decode cX2_execute 120 = .ok (.aload_n 0, 1) := by decide +kernel
theorem dX2_execute_121 : decode cX2_execute 121 = .ok (.aload_n 0, 1) := by decide +kernel
theorem dX2_execute_122 : decode cX2_execute 122 = .ok (.getfield 34, 3) := by decide +kernel
theorem dX2_execute_125 : decode cX2_execute 125 = .ok (.iconst 1, 1) := by decide +kernel
theorem dX2_execute_126 : decode cX2_execute 126 = .ok (.isub, 1) := by decide +kernel
theorem dX2_execute_127 : decode cX2_execute 127 = .ok (.invokevirtual 63, 3) := by decide +kernel
theorem dX2_execute_130 : decode cX2_execute 130 = .ok (.iinc 7 1, 3) := by decide +kernel
theorem dX2_execute_133 : decode cX2_execute 133 = .ok (.goto (-53), 3) := by decide +kernel
theorem dX2_execute_136 : decode cX2_execute 136 = .ok (.aload_n 0, 1) := by decide +kernel
theorem dX2_execute_137 : decode cX2_execute 137 = .ok (.getfield 37, 3) := by decide +kernel
theorem dX2_execute_140 : decode cX2_execute 140 = .ok (.iconst (-1), 1) := by decide +kernel
theorem dX2_execute_141 : decode cX2_execute 141 = .ok (.if_icmp .ne 7, 3) := by decide +kernel
theorem dX2_execute_144 : decode cX2_execute 144 = .ok (.iconst 0, 1) := by decide +kernel
theorem dX2_execute_145 : decode cX2_execute 145 = .ok (.goto 7, 3) := by decide +kernel
theorem dX2_execute_148 : decode cX2_execute 148 = .ok (.aload_n 0, 1) := by decide +kernel
theorem dX2_execute_149 : decode cX2_execute 149 = .ok (.getfield 37, 3) := by decide +kernel
theorem dX2_execute_152 : decode cX2_execute 152 = .ok (.ireturn, 1) := by decide +kernel
theorem dX2_step_0 : decode cX2_step 0 = .ok (.aload_n 0, 1) := by decide +kernel
theorem dX2_step_1 : decode cX2_step 1 = .ok (.getfield 50, 3) := by decide +kernel
theorem dX2_step_4 : decode cX2_step 4 = .ok (.getfield 67, 3) := by decide +kernel
theorem dX2_step_7 : decode cX2_step 7 = .ok (.iload_n 1, 1) := by decide +kernel
theorem dX2_step_8 : decode cX2_step 8 = .ok (.iaload, 1) := by decide +kernel
theorem dX2_step_9 : decode cX2_step 9 = .ok (.tableswitch 254 0 14 #[75, 83, 91, 99, 127, 135, 254, 156, 177, 184, 200, 238, 254, 230, 238], 75) := by decide +kernel
theorem dX2_step_84 : decode cX2_step 84 = .ok (.aload_n 0, 1) := by decide +kernel
theorem dX2_step_85 : decode cX2_step 85 = .ok (.iload_n 1, 1) := by decide +kernel
theorem dX2_step_86 : decode cX2_step 86 = .ok (.invokevirtual 70, 3) := by decide +kernel
theorem dX2_step_89 : decode cX2_step 89 = .ok (.goto 174, 3) := by decide +kernel
theorem dX2_step_92 : decode cX2_step 92 = .ok (.aload_n 0, 1) := by decide +kernel
theorem dX2_step_93 : decode cX2_step 93 = .ok (.iload_n 1, 1) := by decide +kernel
theorem dX2_step_94 : decode cX2_step 94 = .ok (.invokevirtual 73, 3) := by decide +kernel
theorem dX2_step_97 : decode cX2_step 97 = .ok (.goto 166, 3) := by decide +kernel
theorem dX2_step_100 : decode cX2_step 100 = .ok (.aload_n 0, 1) := by decide +kernel
theorem dX2_step_101 : decode cX2_step 101 = .ok (.iload_n 1, 1) := by decide +kernel
theorem dX2_step_102 : decode cX2_step 102 = .ok (.invokevirtual 76, 3) := by decide +kernel
theorem dX2_step_105 : decode cX2_step 105 = .ok (.goto 158, 3) := by decide +kernel
theorem dX2_step_108 : decode cX2_step 108 = .ok (.aload_n 0, 1) := by decide +kernel
theorem dX2_step_109 : decode cX2_step 109 = .ok (.iload_n 1, 1) := by decide +kernel
theorem dX2_step_110 : decode cX2_step 110 = .ok (.invokevirtual 79, 3) := by decide +kernel
theorem dX2_step_113 : decode cX2_step 113 = .ok (.aload_n 0, 1) := by decide +kernel
theorem dX2_step_114 : decode cX2_step 114 = .ok (.aload_n 0, 1) := by decide +kernel
theorem dX2_step_115 : decode cX2_step 115 = .ok (.getfield 50, 3) := by decide +kernel
theorem dX2_step_118 : decode cX2_step 118 = .ok (.iload_n 1, 1) := by decide +kernel
theorem dX2_step_119 : decode cX2_step 119 = .ok (.aload_n 0, 1) := by decide +kernel
theorem dX2_step_120 : decode cX2_step 120 = .ok (.getfield 43, 3) := by decide +kernel
theorem dX2_step_123 : decode cX2_step 123 = .ok (.aload_n 0, 1) := by decide +kernel
theorem dX2_step_124 : decode cX2_step 124 = .ok (.getfield 46, 3) := by decide +kernel
theorem dX2_step_127 : decode cX2_step 127 = .ok (.invokevirtual 82, 3) := by decide +kernel
theorem dX2_step_130 : decode cX2_step 130 = .ok (.invokevirtual 86, 3) := by decide +kernel
theorem dX2_step_133 : decode cX2_step 133 = .ok (.goto 130, 3) := by decide +kernel
theorem dX2_step_136 : decode cX2_step 136 = .ok (.aload_n 0, 1) := by decide +kernel
theorem dX2_step_137 : decode cX2_step 137 = .ok (.iload_n 1, 1) := by decide +kernel
theorem dX2_step_138 : decode cX2_step 138 = .ok (.invokevirtual 89, 3) := by decide +kernel
theorem dX2_step_141 : decode cX2_step 141 = .ok (.goto 122, 3) := by decide +kernel
theorem dX2_step_144 : decode cX2_step 144 = .ok (.aload_n 0, 1) := by decide +kernel
theorem dX2_step_145 : decode cX2_step 145 = .ok (.aload_n 0, 1) := by decide +kernel
theorem dX2_step_146 : decode cX2_step 146 = .ok (.getfield 28, 3) := by decide +kernel
theorem dX2_step_149 : decode cX2_step 149 = .ok (.aload_n 0, 1) := by decide +kernel
theorem dX2_step_150 : decode cX2_step 150 = .ok (.getfield 50, 3) := by decide +kernel
theorem dX2_step_153 : decode cX2_step 153 = .ok (.getfield 92, 3) := by decide +kernel
theorem dX2_step_156 : decode cX2_step 156 = .ok (.iload_n 1, 1) := by decide +kernel
theorem dX2_step_157 : decode cX2_step 157 = .ok (.iaload, 1) := by decide +kernel
theorem dX2_step_158 : decode cX2_step 158 = .ok (.iaload, 1) := by decide +kernel
theorem dX2_step_159 : decode cX2_step 159 = .ok (.invokevirtual 86, 3) := by decide +kernel
theorem dX2_step_162 : decode cX2_step 162 = .ok (.goto 101, 3) := by decide +kernel
theorem dX2_step_165 : decode cX2_step 165 = .ok (.aload_n 0, 1) := by decide +kernel
theorem dX2_step_166 : decode cX2_step 166 = .ok (.getfield 28, 3) := by decide +kernel
theorem dX2_step_169 : decode cX2_step 169 = .ok (.aload_n 0, 1) := by decide +kernel
theorem dX2_step_170 : decode cX2_step 170 = .ok (.getfield 50, 3) := by decide +kernel
theorem dX2_step_173 : decode cX2_step 173 = .ok (.getfield 92, 3) := by decide +kernel
theorem dX2_step_176 : decode cX2_step 176 = .ok (.iload_n 1, 1) := by decide +kernel
theorem dX2_step_177 : decode cX2_step 177 = .ok (.iaload, 1) := by decide +kernel
theorem dX2_step_178 : decode cX2_step 178 = .ok (.aload_n 0, 1) := by decide +kernel
theorem dX2_step_179 : decode cX2_step 179 = .ok (.invokevirtual 95, 3) := by decide +kernel
theorem dX2_step_182 : decode cX2_step 182 = .ok (.iastore, 1) := by decide +kernel
theorem dX2_step_183 : decode cX2_step 183 = .ok (.goto 80, 3) := by decide +kernel
theorem dX2_step_186 : decode cX2_step 186 = .ok (.aload_n 0, 1) := by decide +kernel
theorem dX2_step_187 : decode cX2_step 187 = .ok (.invokevirtual 99, 3) := by decide +kernel
theorem dX2_step_190 : decode cX2_step 190 = .ok (.goto 73, 3) := by decide +kernel
theorem dX2_step_193 : decode cX2_step 193 = .ok (.aload_n 0, 1) := by decide +kernel
theorem dX2_step_194 : decode cX2_step 194 = .ok (.aload_n 0, 1) := by decide +kernel
theorem dX2_step_195 : decode cX2_step 195 = .ok (.invokevirtual 95, 3) := by decide +kernel
theorem dX2_step_198 : decode cX2_step 198 = .ok (.putfield 11, 3) := by decide +kernel
theorem dX2_step_201 : decode cX2_step 201 = .ok (.aload_n 0, 1) := by decide +kernel
theorem dX2_step_202 : decode cX2_step 202 = .ok (.iconst 0, 1) := by decide +kernel
theorem dX2_step_203 : decode cX2_step 203 = .ok (.putfield 37, 3) := by decide +kernel
theorem dX2_step_206 : decode cX2_step 206 = .ok (.goto 57, 3) := by decide +kernel
theorem dX2_step_209 : decode cX2_step 209 = .ok (.aload_n 0, 1) := by decide +kernel
theorem dX2_step_210 : decode cX2_step 210 = .ok (.aload_n 0, 1) := by decide +kernel
theorem dX2_step_211 : decode cX2_step 211 = .ok (.invokevirtual 95, 3) := by decide +kernel
theorem dX2_step_214 : decode cX2_step 214 = .ok (.ifCond .ne 15, 3) := by decide +kernel
theorem dX2_step_217 : decode cX2_step 217 = .ok (.aload_n 0, 1) := by decide +kernel
theorem dX2_step_218 : decode cX2_step 218 = .ok (.getfield 50, 3) := by decide +kernel
theorem dX2_step_221 : decode cX2_step 221 = .ok (.getfield 102, 3) := by decide +kernel
theorem dX2_step_224 : decode cX2_step 224 = .ok (.iload_n 1, 1) := by decide +kernel
theorem dX2_step_225 : decode cX2_step 225 = .ok (.iaload, 1) := by decide +kernel
theorem dX2_step_226 : decode cX2_step 226 = .ok (.goto 7, 3) := by decide +kernel
theorem dX2_step_229 : decode cX2_step 229 = .ok (.aload_n 0, 1) := by decide +kernel
theorem dX2_step_230 : decode cX2_step 230 = .ok (.getfield 34, 3) := by decide +kernel
theorem dX2_step_233 : decode cX2_step 233 = .ok (.putfield 34, 3) := by decide +kernel
theorem dX2_step_236 : decode cX2_step 236 = .ok (.goto 27, 3) := by decide +kernel
theorem dX2_step_239 : decode cX2_step 239 = .ok (.aload_n 0, 1) := by decide +kernel
theorem dX2_step_240 : decode cX2_step 240 = .ok (.iload_n 1, 1) := by decide +kernel
theorem dX2_step_241 : decode cX2_step 241 = .ok (.invokevirtual 105, 3) := by decide +kernel
theorem dX2_step_244 : decode cX2_step 244 = .ok (.goto 19, 3) := by decide +kernel
theorem dX2_step_247 : decode cX2_step 247 = .ok (.aload_n 0, 1) := by decide +kernel
theorem dX2_step_248 : decode cX2_step 248 = .ok (.aload_n 0, 1) := by decide +kernel
theorem dX2_step_249 : decode cX2_step 249 = .ok (.getfield 50, 3) := by decide +kernel
theorem dX2_step_252 : decode cX2_step 252 = .ok (.getfield 102, 3) := by decide +kernel
theorem dX2_step_255 : decode cX2_step 255 = .ok (.iload_n 1, 1) := by decide +kernel
theorem dX2_step_256 : decode cX2_step 256 = .ok (.iaload, 1) := by decide +kernel
theorem dX2_step_257 : decode cX2_step 257 = .ok (.putfield 34, 3) := by decide +kernel
theorem dX2_step_260 : decode cX2_step 260 = .ok (.goto 3, 3) := by decide +kernel
theorem dX2_step_263 : decode cX2_step 263 = .ok (.return_, 1) := by decide +kernel
theorem dX2_reach_0 : decode cX2_reach 0 = .ok (.aload_n 0, 1) := by decide +kernel
theorem dX2_reach_1 : decode cX2_reach 1 = .ok (.dup, 1) := by decide +kernel
theorem dX2_reach_2 : decode cX2_reach 2 = .ok (.getfield 20, 3) := by decide +kernel
theorem dX2_reach_5 : decode cX2_reach 5 = .ok (.lconst 1, 1) := by decide +kernel
theorem dX2_reach_6 : decode cX2_reach 6 = .ok (.aload_n 0, 1) := by decide +kernel
theorem dX2_reach_7 : decode cX2_reach 7 = .ok (.getfield 50, 3) := by decide +kernel
theorem dX2_reach_10 : decode cX2_reach 10 = .ok (.getfield 108, 3) := by decide +kernel
theorem dX2_reach_13 : decode cX2_reach 13 = .ok (.iload_n 1, 1) := by decide +kernel
theorem dX2_reach_14 : decode cX2_reach 14 = .ok (.iaload, 1) := by decide +kernel
theorem dX2_reach_15 : decode cX2_reach 15 = .ok (.lshl, 1) := by decide +kernel
theorem dX2_reach_16 : decode cX2_reach 16 = .ok (.lor, 1) := by decide +kernel
theorem dX2_reach_17 : decode cX2_reach 17 = .ok (.putfield 20, 3) := by decide +kernel
theorem dX2_reach_20 : decode cX2_reach 20 = .ok (.return_, 1) := by decide +kernel
theorem dX2_push_0 : decode cX2_push 0 = .ok (.aload_n 0, 1) := by decide +kernel
theorem dX2_push_1 : decode cX2_push 1 = .ok (.getfield 31, 3) := by decide +kernel
theorem dX2_push_4 : decode cX2_push 4 = .ok (.bipush 32, 2) := by decide +kernel
theorem dX2_push_6 : decode cX2_push 6 = .ok (.if_icmp .ge 23, 3) := by decide +kernel
theorem dX2_push_9 : decode cX2_push 9 = .ok (.aload_n 0, 1) := by decide +kernel
theorem dX2_push_10 : decode cX2_push 10 = .ok (.getfield 24, 3) := by decide +kernel
theorem dX2_push_13 : decode cX2_push 13 = .ok (.aload_n 0, 1) := by decide +kernel
theorem dX2_push_14 : decode cX2_push 14 = .ok (.getfield 31, 3) := by decide +kernel
theorem dX2_push_17 : decode cX2_push 17 = .ok (.iload_n 1, 1) := by decide +kernel
theorem dX2_push_18 : decode cX2_push 18 = .ok (.iastore, 1) := by decide +kernel
theorem dX2_push_19 : decode cX2_push 19 = .ok (.aload_n 0, 1) := by decide +kernel
theorem dX2_push_20 : decode cX2_push 20 = .ok (.dup, 1) := by decide +kernel
theorem dX2_push_21 : decode cX2_push 21 = .ok (.getfield 31, 3) := by decide +kernel
theorem dX2_push_24 : decode cX2_push 24 = .ok (.iconst 1, 1) := by decide +kernel
theorem dX2_push_25 : decode cX2_push 25 = .ok (.iadd, 1) := by decide +kernel
theorem dX2_push_26 : decode cX2_push 26 = .ok (.putfield 31, 3) := by decide +kernel
theorem dX2_push_29 : decode cX2_push 29 = .ok (.return_, 1) := by decide +kernel
theorem dX2_pop_0 : decode cX2_pop 0 = .ok (.aload_n 0, 1) := by decide +kernel
theorem dX2_pop_1 : decode cX2_pop 1 = .ok (.getfield 31, 3) := by decide +kernel
theorem dX2_pop_4 : decode cX2_pop 4 = .ok (.ifCond .ne 5, 3) := by decide +kernel
theorem dX2_pop_7 : decode cX2_pop 7 = .ok (.iconst 0, 1) := by decide +kernel
theorem dX2_pop_8 : decode cX2_pop 8 = .ok (.ireturn, 1) := by decide +kernel
theorem dX2_pop_9 : decode cX2_pop 9 = .ok (.aload_n 0, 1) := by decide +kernel
theorem dX2_pop_10 : decode cX2_pop 10 = .ok (.dup, 1) := by decide +kernel
theorem dX2_pop_11 : decode cX2_pop 11 = .ok (.getfield 31, 3) := by decide +kernel
theorem dX2_pop_14 : decode cX2_pop 14 = .ok (.iconst 1, 1) := by decide +kernel
theorem dX2_pop_15 : decode cX2_pop 15 = .ok (.isub, 1) := by decide +kernel
theorem dX2_pop_16 : decode cX2_pop 16 = .ok (.putfield 31, 3) := by decide +kernel
theorem dX2_pop_19 : decode cX2_pop 19 = .ok (.aload_n 0, 1) := by decide +kernel
theorem dX2_pop_20 : decode cX2_pop 20 = .ok (.getfield 24, 3) := by decide +kernel
theorem dX2_pop_23 : decode cX2_pop 23 = .ok (.aload_n 0, 1) := by decide +kernel
theorem dX2_pop_24 : decode cX2_pop 24 = .ok (.getfield 31, 3) := by decide +kernel
theorem dX2_pop_27 : decode cX2_pop 27 = .ok (.iaload, 1) := by decide +kernel
theorem dX2_pop_28 : decode cX2_pop 28 = .ok (.ireturn, 1) := by decide +kernel
theorem dX2_apply_0 : decode cX2_apply 0 = .ok (.aload_n 0, 1) := by decide +kernel
theorem dX2_apply_1 : decode cX2_apply 1 = .ok (.invokevirtual 95, 3) := by decide +kernel
theorem dX2_apply_4 : decode cX2_apply 4 = .ok (.istore_n 2, 1) := by decide +kernel
theorem dX2_apply_5 : decode cX2_apply 5 = .ok (.aload_n 0, 1) := by decide +kernel
theorem dX2_apply_6 : decode cX2_apply 6 = .ok (.invokevirtual 95, 3) := by decide +kernel
theorem dX2_apply_9 : decode cX2_apply 9 = .ok (.istore_n 3, 1) := by decide +kernel
theorem dX2_apply_10 : decode cX2_apply 10 = .ok (.aload_n 0, 1) := by decide +kernel
theorem dX2_apply_11 : decode cX2_apply 11 = .ok (.getfield 50, 3) := by decide +kernel
theorem dX2_apply_14 : decode cX2_apply 14 = .ok (.iload_n 1, 1) := by decide +kernel
theorem dX2_apply_15 : decode cX2_apply 15 = .ok (.aload_n 0, 1) := by decide +kernel
theorem dX2_apply_16 : decode cX2_apply 16 = .ok (.getfield 43, 3) := by decide +kernel
theorem dX2_apply_19 : decode cX2_apply 19 = .ok (.aload_n 0, 1) := by decide +kernel
theorem dX2_apply_20 : decode cX2_apply 20 = .ok (.getfield 46, 3) := by decide +kernel
theorem dX2_apply_23 : decode cX2_apply 23 = .ok (.invokevirtual 82, 3) := by decide +kernel
theorem dX2_apply_26 : decode cX2_apply 26 = .ok (.istore 4, 2) := by decide +kernel
theorem dX2_apply_28 : decode cX2_apply 28 = .ok (.aload_n 0, 1) := by decide +kernel
theorem dX2_apply_29 : decode cX2_apply 29 = .ok (.iload_n 1, 1) := by decide +kernel
theorem dX2_apply_30 : decode cX2_apply 30 = .ok (.invokevirtual 79, 3) := by decide +kernel
theorem dX2_apply_33 : decode cX2_apply 33 = .ok (.iload 4, 2) := by decide +kernel
theorem dX2_apply_35 : decode cX2_apply 35 = .ok (.iload_n 2, 1) := by decide +kernel
theorem dX2_apply_36 : decode cX2_apply 36 = .ok (.invokestatic 111, 3) := by decide +kernel
theorem dX2_apply_39 : decode cX2_apply 39 = .ok (.ifCond .eq 11, 3) := by decide +kernel
theorem dX2_apply_42 : decode cX2_apply 42 = .ok (.aload_n 0, 1) := by decide +kernel
theorem dX2_apply_43 : decode cX2_apply 43 = .ok (.iconst 1, 1) := by decide +kernel
theorem dX2_apply_44 : decode cX2_apply 44 = .ok (.putfield 37, 3) := by decide +kernel
theorem dX2_apply_47 : decode cX2_apply 47 = .ok (.goto 14, 3) := by decide +kernel
theorem dX2_apply_50 : decode cX2_apply 50 = .ok (.aload_n 0, 1) := by decide +kernel
theorem dX2_apply_51 : decode cX2_apply 51 = .ok (.iload 4, 2) := by decide +kernel
theorem dX2_apply_53 : decode cX2_apply 53 = .ok (.iload_n 3, 1) := by decide +kernel
theorem dX2_apply_54 : decode cX2_apply 54 = .ok (.iload_n 2, 1) := by decide +kernel
theorem dX2_apply_55 : decode cX2_apply 55 = .ok (.invokestatic 115, 3) := by decide +kernel
theorem dX2_apply_58 : decode cX2_apply 58 = .ok (.invokevirtual 86, 3) := by decide +kernel
theorem dX2_apply_61 : decode cX2_apply 61 = .ok (.return_, 1) := by decide +kernel
theorem dX2_compare_0 : decode cX2_compare 0 = .ok (.aload_n 0, 1) := by decide +kernel
theorem dX2_compare_1 : decode cX2_compare 1 = .ok (.invokevirtual 95, 3) := by decide +kernel
theorem dX2_compare_4 : decode cX2_compare 4 = .ok (.istore_n 2, 1) := by decide +kernel
theorem dX2_compare_5 : decode cX2_compare 5 = .ok (.aload_n 0, 1) := by decide +kernel
theorem dX2_compare_6 : decode cX2_compare 6 = .ok (.invokevirtual 95, 3) := by decide +kernel
theorem dX2_compare_9 : decode cX2_compare 9 = .ok (.istore_n 3, 1) := by decide +kernel
theorem dX2_compare_10 : decode cX2_compare 10 = .ok (.aload_n 0, 1) := by decide +kernel
theorem dX2_compare_11 : decode cX2_compare 11 = .ok (.iload_n 1, 1) := by decide +kernel
theorem dX2_compare_12 : decode cX2_compare 12 = .ok (.invokevirtual 79, 3) := by decide +kernel
theorem dX2_compare_15 : decode cX2_compare 15 = .ok (.aload_n 0, 1) := by decide +kernel
theorem dX2_compare_16 : decode cX2_compare 16 = .ok (.aload_n 0, 1) := by decide +kernel
theorem dX2_compare_17 : decode cX2_compare 17 = .ok (.getfield 50, 3) := by decide +kernel
theorem dX2_compare_20 : decode cX2_compare 20 = .ok (.iload_n 1, 1) := by decide +kernel
theorem dX2_compare_21 : decode cX2_compare 21 = .ok (.aload_n 0, 1) := by decide +kernel
theorem dX2_compare_22 : decode cX2_compare 22 = .ok (.getfield 43, 3) := by decide +kernel
theorem dX2_compare_25 : decode cX2_compare 25 = .ok (.aload_n 0, 1) := by decide +kernel
theorem dX2_compare_26 : decode cX2_compare 26 = .ok (.getfield 46, 3) := by decide +kernel
theorem dX2_compare_29 : decode cX2_compare 29 = .ok (.invokevirtual 82, 3) := by decide +kernel
theorem dX2_compare_32 : decode cX2_compare 32 = .ok (.iload_n 3, 1) := by decide +kernel
theorem dX2_compare_33 : decode cX2_compare 33 = .ok (.iload_n 2, 1) := by decide +kernel
theorem dX2_compare_34 : decode cX2_compare 34 = .ok (.invokestatic 118, 3) := by decide +kernel
theorem dX2_compare_37 : decode cX2_compare 37 = .ok (.ifCond .eq 7, 3) := by decide +kernel
theorem dX2_compare_40 : decode cX2_compare 40 = .ok (.iconst 1, 1) := by decide +kernel
theorem dX2_compare_41 : decode cX2_compare 41 = .ok (.goto 4, 3) := by decide +kernel
theorem dX2_compare_44 : decode cX2_compare 44 = .ok (.iconst 0, 1) := by decide +kernel
theorem dX2_compare_45 : decode cX2_compare 45 = .ok (.invokevirtual 86, 3) := by decide +kernel
theorem dX2_compare_48 : decode cX2_compare 48 = .ok (.return_, 1) := by decide +kernel
theorem dX2_decide_0 : decode cX2_decide 0 = .ok (.aload_n 0, 1) := by decide +kernel
theorem dX2_decide_1 : decode cX2_decide 1 = .ok (.invokevirtual 95, 3) := by decide +kernel
theorem dX2_decide_4 : decode cX2_decide 4 = .ok (.istore_n 2, 1) := by decide +kernel
theorem dX2_decide_5 : decode cX2_decide 5 = .ok (.aload_n 0, 1) := by decide +kernel
theorem dX2_decide_6 : decode cX2_decide 6 = .ok (.getfield 50, 3) := by decide +kernel
theorem dX2_decide_9 : decode cX2_decide 9 = .ok (.iload_n 1, 1) := by decide +kernel
theorem dX2_decide_10 : decode cX2_decide 10 = .ok (.aload_n 0, 1) := by decide +kernel
theorem dX2_decide_11 : decode cX2_decide 11 = .ok (.getfield 43, 3) := by decide +kernel
theorem dX2_decide_14 : decode cX2_decide 14 = .ok (.aload_n 0, 1) := by decide +kernel
theorem dX2_decide_15 : decode cX2_decide 15 = .ok (.getfield 46, 3) := by decide +kernel
theorem dX2_decide_18 : decode cX2_decide 18 = .ok (.invokevirtual 82, 3) := by decide +kernel
theorem dX2_decide_21 : decode cX2_decide 21 = .ok (.bipush 38, 2) := by decide +kernel
theorem dX2_decide_23 : decode cX2_decide 23 = .ok (.if_icmp .ne 7, 3) := by decide +kernel
theorem dX2_decide_26 : decode cX2_decide 26 = .ok (.iconst 0, 1) := by decide +kernel
theorem dX2_decide_27 : decode cX2_decide 27 = .ok (.goto 4, 3) := by decide +kernel
theorem dX2_decide_30 : decode cX2_decide 30 = .ok (.iconst 1, 1) := by decide +kernel
theorem dX2_decide_31 : decode cX2_decide 31 = .ok (.istore_n 3, 1) := by decide +kernel
theorem dX2_decide_32 : decode cX2_decide 32 = .ok (.aload_n 0, 1) := by decide +kernel
theorem dX2_decide_33 : decode cX2_decide 33 = .ok (.iload_n 1, 1) := by decide +kernel
theorem dX2_decide_34 : decode cX2_decide 34 = .ok (.invokevirtual 79, 3) := by decide +kernel
theorem dX2_decide_37 : decode cX2_decide 37 = .ok (.iload_n 2, 1) := by decide +kernel
theorem dX2_decide_38 : decode cX2_decide 38 = .ok (.iload_n 3, 1) := by decide +kernel
theorem dX2_decide_39 : decode cX2_decide 39 = .ok (.if_icmp .ne 21, 3) := by decide +kernel
theorem dX2_decide_42 : decode cX2_decide 42 = .ok (.aload_n 0, 1) := by decide +kernel
theorem dX2_decide_43 : decode cX2_decide 43 = .ok (.iload_n 2, 1) := by decide +kernel
theorem dX2_decide_44 : decode cX2_decide 44 = .ok (.invokevirtual 86, 3) := by decide +kernel
theorem dX2_decide_47 : decode cX2_decide 47 = .ok (.aload_n 0, 1) := by decide +kernel
theorem dX2_decide_48 : decode cX2_decide 48 = .ok (.aload_n 0, 1) := by decide +kernel
theorem dX2_decide_49 : decode cX2_decide 49 = .ok (.getfield 50, 3) := by decide +kernel
theorem dX2_decide_52 : decode cX2_decide 52 = .ok (.getfield 102, 3) := by decide +kernel
theorem dX2_decide_55 : decode cX2_decide 55 = .ok (.iload_n 1, 1) := by decide +kernel
theorem dX2_decide_56 : decode cX2_decide 56 = .ok (.iaload, 1) := by decide +kernel
theorem dX2_decide_57 : decode cX2_decide 57 = .ok (.putfield 34, 3) := by decide +kernel
theorem dX2_decide_60 : decode cX2_decide 60 = .ok (.return_, 1) := by decide +kernel
theorem dX2_begin_0 : decode cX2_begin 0 = .ok (.aload_n 0, 1) := by decide +kernel
theorem dX2_begin_1 : decode cX2_begin 1 = .ok (.iload_n 1, 1) := by decide +kernel
theorem dX2_begin_2 : decode cX2_begin 2 = .ok (.invokevirtual 79, 3) := by decide +kernel
theorem dX2_begin_5 : decode cX2_begin 5 = .ok (.aload_n 0, 1) := by decide +kernel
theorem dX2_begin_6 : decode cX2_begin 6 = .ok (.getfield 50, 3) := by decide +kernel
theorem dX2_begin_9 : decode cX2_begin 9 = .ok (.getfield 108, 3) := by decide +kernel
theorem dX2_begin_12 : decode cX2_begin 12 = .ok (.iload_n 1, 1) := by decide +kernel
theorem dX2_begin_13 : decode cX2_begin 13 = .ok (.iaload, 1) := by decide +kernel
theorem dX2_begin_14 : decode cX2_begin 14 = .ok (.aload_n 0, 1) := by decide +kernel
theorem dX2_begin_15 : decode cX2_begin 15 = .ok (.getfield 43, 3) := by decide +kernel
theorem dX2_begin_18 : decode cX2_begin 18 = .ok (.if_icmp .ne 16, 3) := by decide +kernel
theorem dX2_begin_21 : decode cX2_begin 21 = .ok (.aload_n 0, 1) := by decide +kernel
theorem dX2_begin_22 : decode cX2_begin 22 = .ok (.aload_n 0, 1) := by decide +kernel
theorem dX2_begin_23 : decode cX2_begin 23 = .ok (.getfield 50, 3) := by decide +kernel
theorem dX2_begin_26 : decode cX2_begin 26 = .ok (.getfield 102, 3) := by decide +kernel
theorem dX2_begin_29 : decode cX2_begin 29 = .ok (.iload_n 1, 1) := by decide +kernel
theorem dX2_begin_30 : decode cX2_begin 30 = .ok (.iaload, 1) := by decide +kernel
theorem dX2_begin_31 : decode cX2_begin 31 = .ok (.putfield 34, 3) := by decide +kernel
theorem dX2_begin_34 : decode cX2_begin 34 = .ok (.return_, 1) := by decide +kernel
theorem dX2_check_0 : decode cX2_check 0 = .ok (.aload_n 0, 1) := by decide +kernel
theorem dX2_check_1 : decode cX2_check 1 = .ok (.invokevirtual 95, 3) := by decide +kernel
theorem dX2_check_4 : decode cX2_check 4 = .ok (.ifCond .ne 8, 3) := by decide +kernel
theorem dX2_check_7 : decode cX2_check 7 = .ok (.aload_n 0, 1) := by decide +kernel
theorem dX2_check_8 : decode cX2_check 8 = .ok (.iconst 2, 1) := by decide +kernel
theorem dX2_check_9 : decode cX2_check 9 = .ok (.putfield 37, 3) := by decide +kernel
theorem dX2_check_12 : decode cX2_check 12 = .ok (.return_, 1) := by decide +kernel
theorem dX2_enterBody_0 : decode cX2_enterBody 0 = .ok (.aload_n 0, 1) := by decide +kernel
theorem dX2_enterBody_1 : decode cX2_enterBody 1 = .ok (.invokevirtual 95, 3) := by decide +kernel
theorem dX2_enterBody_4 : decode cX2_enterBody 4 = .ok (.ifCond .ne 19, 3) := by decide +kernel
theorem dX2_enterBody_7 : decode cX2_enterBody 7 = .ok (.aload_n 0, 1) := by decide +kernel
theorem dX2_enterBody_8 : decode cX2_enterBody 8 = .ok (.aload_n 0, 1) := by decide +kernel
theorem dX2_enterBody_9 : decode cX2_enterBody 9 = .ok (.getfield 50, 3) := by decide +kernel
theorem dX2_enterBody_12 : decode cX2_enterBody 12 = .ok (.getfield 102, 3) := by decide +kernel
theorem dX2_enterBody_15 : decode cX2_enterBody 15 = .ok (.iload_n 1, 1) := by decide +kernel
theorem dX2_enterBody_16 : decode cX2_enterBody 16 = .ok (.iaload, 1) := by decide +kernel
theorem dX2_enterBody_17 : decode cX2_enterBody 17 = .ok (.putfield 34, 3) := by decide +kernel
theorem dX2_enterBody_20 : decode cX2_enterBody 20 = .ok (.goto 32, 3) := by decide +kernel
theorem dX2_enterBody_23 : decode cX2_enterBody 23 = .ok (.aload_n 0, 1) := by decide +kernel
theorem dX2_enterBody_24 : decode cX2_enterBody 24 = .ok (.getfield 17, 3) := by decide +kernel
theorem dX2_enterBody_27 : decode cX2_enterBody 27 = .ok (.aload_n 0, 1) := by decide +kernel
theorem dX2_enterBody_28 : decode cX2_enterBody 28 = .ok (.getfield 40, 3) := by decide +kernel
theorem dX2_enterBody_31 : decode cX2_enterBody 31 = .ok (.if_icmp .ne 11, 3) := by decide +kernel
theorem dX2_enterBody_34 : decode cX2_enterBody 34 = .ok (.aload_n 0, 1) := by decide +kernel
theorem dX2_enterBody_35 : decode cX2_enterBody 35 = .ok (.iconst 3, 1) := by decide +kernel
theorem dX2_enterBody_36 : decode cX2_enterBody 36 = .ok (.putfield 37, 3) := by decide +kernel
theorem dX2_enterBody_39 : decode cX2_enterBody 39 = .ok (.goto 13, 3) := by decide +kernel
theorem dX2_enterBody_42 : decode cX2_enterBody 42 = .ok (.aload_n 0, 1) := by decide +kernel
theorem dX2_enterBody_43 : decode cX2_enterBody 43 = .ok (.dup, 1) := by decide +kernel
theorem dX2_enterBody_44 : decode cX2_enterBody 44 = .ok (.getfield 17, 3) := by decide +kernel
theorem dX2_enterBody_47 : decode cX2_enterBody 47 = .ok (.iconst 1, 1) := by decide +kernel
theorem dX2_enterBody_48 : decode cX2_enterBody 48 = .ok (.iadd, 1) := by decide +kernel
theorem dX2_enterBody_49 : decode cX2_enterBody 49 = .ok (.putfield 17, 3) := by decide +kernel
theorem dX2_enterBody_52 : decode cX2_enterBody 52 = .ok (.return_, 1) := by decide +kernel
theorem dX3_init_0 : decode cX3_init 0 = .ok (.aload_n 0, 1) := by decide +kernel
theorem dX3_init_1 : decode cX3_init 1 = .ok (.invokespecial 3, 3) := by decide +kernel
theorem dX3_init_4 : decode cX3_init 4 = .ok (.aload_n 0, 1) := by decide +kernel
theorem dX3_init_5 : decode cX3_init 5 = .ok (.iconst 0, 1) := by decide +kernel
theorem dX3_init_6 : decode cX3_init 6 = .ok (.putfield 9, 3) := by decide +kernel
theorem dX3_init_9 : decode cX3_init 9 = .ok (.aload_n 0, 1) := by decide +kernel
theorem dX3_init_10 : decode cX3_init 10 = .ok (.iconst 0, 1) := by decide +kernel
theorem dX3_init_11 : decode cX3_init 11 = .ok (.putfield 15, 3) := by decide +kernel
theorem dX3_init_14 : decode cX3_init 14 = .ok (.aload_n 0, 1) := by decide +kernel
theorem dX3_init_15 : decode cX3_init 15 = .ok (.bipush 8, 2) := by decide +kernel
theorem dX3_init_17 : decode cX3_init 17 = .ok (.newarray .long, 2) := by decide +kernel
theorem dX3_init_19 : decode cX3_init 19 = .ok (.putfield 19, 3) := by decide +kernel
theorem dX3_init_22 : decode cX3_init 22 = .ok (.aload_n 0, 1) := by decide +kernel
theorem dX3_init_23 : decode cX3_init 23 = .ok (.bipush 121, 2) := by decide +kernel
theorem dX3_init_25 : decode cX3_init 25 = .ok (.newarray .int, 2) := by decide +kernel
theorem dX3_init_27 : decode cX3_init 27 = .ok (.putfield 23, 3) := by decide +kernel
theorem dX3_init_30 : decode cX3_init 30 = .ok (.aload_n 0, 1) := by decide +kernel
theorem dX3_init_31 : decode cX3_init 31 = .ok (.bipush 8, 2) := by decide +kernel
theorem dX3_init_33 : decode cX3_init 33 = .ok (.newarray .int, 2) := by decide +kernel
theorem dX3_init_35 : decode cX3_init 35 = .ok (.putfield 27, 3) := by decide +kernel
theorem dX3_init_38 : decode cX3_init 38 = .ok (.aload_n 0, 1) := by decide +kernel
theorem dX3_init_39 : decode cX3_init 39 = .ok (.bipush 8, 2) := by decide +kernel
theorem dX3_init_41 : decode cX3_init 41 = .ok (.newarray .int, 2) := by decide +kernel
theorem dX3_init_43 : decode cX3_init 43 = .ok (.putfield 30, 3) := by decide +kernel
theorem dX3_init_46 : decode cX3_init 46 = .ok (.return_, 1) := by decide +kernel
theorem dX3_forgetTests_0 : decode cX3_forgetTests 0 = .ok (.aload_n 0, 1) := by decide +kernel
theorem dX3_forgetTests_1 : decode cX3_forgetTests 1 = .ok (.iconst 0, 1) := by decide +kernel
theorem dX3_forgetTests_2 : decode cX3_forgetTests 2 = .ok (.putfield 9, 3) := by decide +kernel
theorem dX3_forgetTests_5 : decode cX3_forgetTests 5 = .ok (.aload_n 0, 1) := by decide +kernel
theorem dX3_forgetTests_6 : decode cX3_forgetTests 6 = .ok (.iconst 0, 1) := by decide +kernel
theorem dX3_forgetTests_7 : decode cX3_forgetTests 7 = .ok (.putfield 15, 3) := by decide +kernel
theorem dX3_forgetTests_10 : decode cX3_forgetTests 10 = .ok (.return_, 1) := by decide +kernel
theorem dX3_addTest_0 : decode cX3_addTest 0 = .ok (.aload_n 0, 1) := by decide +kernel
theorem dX3_addTest_1 : decode cX3_addTest 1 = .ok (.getfield 27, 3) := by decide +kernel
theorem dX3_addTest_4 : decode cX3_addTest 4 = .ok (.aload_n 0, 1) := by decide +kernel
theorem dX3_addTest_5 : decode cX3_addTest 5 = .ok (.getfield 9, 3) := by decide +kernel
theorem dX3_addTest_8 : decode cX3_addTest 8 = .ok (.iload_n 1, 1) := by decide +kernel
theorem dX3_addTest_9 : decode cX3_addTest 9 = .ok (.iastore, 1) := by decide +kernel
theorem dX3_addTest_10 : decode cX3_addTest 10 = .ok (.aload_n 0, 1) := by decide +kernel
theorem dX3_addTest_11 : decode cX3_addTest 11 = .ok (.getfield 30, 3) := by decide +kernel
theorem dX3_addTest_14 : decode cX3_addTest 14 = .ok (.aload_n 0, 1) := by decide +kernel
theorem dX3_addTest_15 : decode cX3_addTest 15 = .ok (.getfield 9, 3) := by decide +kernel
theorem dX3_addTest_18 : decode cX3_addTest 18 = .ok (.iload_n 2, 1) := by decide +kernel
theorem dX3_addTest_19 : decode cX3_addTest 19 = .ok (.iastore, 1) := by decide +kernel
theorem dX3_addTest_20 : decode cX3_addTest 20 = .ok (.aload_n 0, 1) := by decide +kernel
theorem dX3_addTest_21 : decode cX3_addTest 21 = .ok (.dup, 1) := by decide +kernel
theorem dX3_addTest_22 : decode cX3_addTest 22 = .ok (.getfield 9, 3) := by decide +kernel
theorem dX3_addTest_25 : decode cX3_addTest 25 = .ok (.iconst 1, 1) := by decide +kernel
theorem dX3_addTest_26 : decode cX3_addTest 26 = .ok (.iadd, 1) := by decide +kernel
theorem dX3_addTest_27 : decode cX3_addTest 27 = .ok (.putfield 9, 3) := by decide +kernel
theorem dX3_addTest_30 : decode cX3_addTest 30 = .ok (.aload_n 0, 1) := by decide +kernel
theorem dX3_addTest_31 : decode cX3_addTest 31 = .ok (.iconst 0, 1) := by decide +kernel
theorem dX3_addTest_32 : decode cX3_addTest 32 = .ok (.putfield 15, 3) := by decide +kernel
theorem dX3_addTest_35 : decode cX3_addTest 35 = .ok (.aload_n 0, 1) := by decide +kernel
theorem dX3_addTest_36 : decode cX3_addTest 36 = .ok (.getfield 9, 3) := by decide +kernel
theorem dX3_addTest_39 : decode cX3_addTest 39 = .ok (.iconst 1, 1) := by decide +kernel
theorem dX3_addTest_40 : decode cX3_addTest 40 = .ok (.isub, 1) := by decide +kernel
theorem dX3_addTest_41 : decode cX3_addTest 41 = .ok (.ireturn, 1) := by decide +kernel
theorem dX3_make_0 : decode cX3_make 0 = .ok (.aload_n 0, 1) := by decide +kernel
theorem dX3_make_1 : decode cX3_make 1 = .ok (.getfield 23, 3) := by decide +kernel
theorem dX3_make_4 : decode cX3_make 4 = .ok (.iconst 0, 1) := by decide +kernel
theorem dX3_make_5 : decode cX3_make 5 = .ok (.invokestatic 33, 3) := by decide +kernel
theorem dX3_make_8 : decode cX3_make 8 = .ok (.iconst 0, 1) := by decide +kernel
theorem dX3_make_9 : decode cX3_make 9 = .ok (.istore 5, 2) := by decide +kernel
theorem dX3_make_11 : decode cX3_make 11 = .ok (.iconst 0, 1) := by decide +kernel
theorem dX3_make_12 : decode cX3_make 12 = .ok (.istore 6, 2) := by decide +kernel
theorem dX3_make_14 : decode cX3_make 14 = .ok (.iload 6, 2) := by decide +kernel
theorem dX3_make_16 : decode cX3_make 16 = .ok (.aload_n 0, 1) := by decide +kernel
theorem dX3_make_17 : decode cX3_make 17 = .ok (.getfield 9, 3) := by decide +kernel
theorem dX3_make_20 : decode cX3_make 20 = .ok (.if_icmp .ge 25, 3) := by decide +kernel
theorem dX3_make_23 : decode cX3_make 23 = .ok (.iload 5, 2) := by decide +kernel
theorem dX3_make_25 : decode cX3_make 25 = .ok (.aload_n 0, 1) := by decide +kernel
theorem dX3_make_26 : decode cX3_make 26 = .ok (.iload 6, 2) := by decide +kernel
theorem dX3_make_28 : decode cX3_make 28 = .ok (.aload_n 1, 1) := by decide +kernel
theorem dX3_make_29 : decode cX3_make 29 = .ok (.aload_n 2, 1) := by decide +kernel
theorem dX3_make_30 : decode cX3_make 30 = .ok (.aload_n 3, 1) := by decide +kernel
theorem dX3_make_31 : decode cX3_make 31 = .ok (.iload 4, 2) := by decide +kernel
theorem dX3_make_33 : decode cX3_make 33 = .ok (.invokevirtual 39, 3) := by decide +kernel
theorem dX3_make_36 : decode cX3_make 36 = .ok (.iadd, 1) := by decide +kernel
theorem dX3_make_37 : decode cX3_make 37 = .ok (.istore 5, 2) := by decide +kernel
theorem dX3_make_39 : decode cX3_make 39 = .ok (.iinc 6 1, 3) := by decide +kernel
theorem dX3_make_42 : decode cX3_make 42 = .ok (.goto (-28), 3) := by decide +kernel
theorem dX3_make_45 : decode cX3_make 45 = .ok (.aload_n 0, 1) := by decide +kernel
theorem dX3_make_46 : decode cX3_make 46 = .ok (.iconst 1, 1) := by decide +kernel
theorem dX3_make_47 : decode cX3_make 47 = .ok (.putfield 15, 3) := by decide +kernel
theorem dX3_make_50 : decode cX3_make 50 = .ok (.iload 5, 2) := by decide +kernel
theorem dX3_make_52 : decode cX3_make 52 = .ok (.ireturn, 1) := by decide +kernel
theorem dX3_runMutants_0 : decode cX3_runMutants 0 = .ok (.aload 4, 2) := by decide +kernel
theorem dX3_runMutants_2 : decode cX3_runMutants 2 = .ok (.aload_n 2, 1) := by decide +kernel
theorem dX3_runMutants_3 : decode cX3_runMutants 3 = .ok (.iconst (-1), 1) := by decide +kernel
theorem dX3_runMutants_4 : decode cX3_runMutants 4 = .ok (.iconst 0, 1) := by decide +kernel
theorem dX3_runMutants_5 : decode cX3_runMutants 5 = .ok (.aload_n 0, 1) := by decide +kernel
theorem dX3_runMutants_6 : decode cX3_runMutants 6 = .ok (.getfield 27, 3) := by decide +kernel
theorem dX3_runMutants_9 : decode cX3_runMutants 9 = .ok (.iload_n 1, 1) := by decide +kernel
theorem dX3_runMutants_10 : decode cX3_runMutants 10 = .ok (.iaload, 1) := by decide +kernel
theorem dX3_runMutants_11 : decode cX3_runMutants 11 = .ok (.aload_n 0, 1) := by decide +kernel
theorem dX3_runMutants_12 : decode cX3_runMutants 12 = .ok (.getfield 30, 3) := by decide +kernel
theorem dX3_runMutants_15 : decode cX3_runMutants 15 = .ok (.iload_n 1, 1) := by decide +kernel
theorem dX3_runMutants_16 : decode cX3_runMutants 16 = .ok (.iaload, 1) := by decide +kernel
theorem dX3_runMutants_17 : decode cX3_runMutants 17 = .ok (.iload 5, 2) := by decide +kernel
theorem dX3_runMutants_19 : decode cX3_runMutants 19 = .ok (.invokevirtual 43, 3) := by decide +kernel
theorem dX3_runMutants_22 : decode cX3_runMutants 22 = .ok (.istore 6, 2) := by decide +kernel
theorem dX3_runMutants_24 : decode cX3_runMutants 24 = .ok (.aload 4, 2) := by decide +kernel
theorem dX3_runMutants_26 : decode cX3_runMutants 26 = .ok (.getfield 49, 3) := by decide +kernel
theorem dX3_runMutants_29 : decode cX3_runMutants 29 = .ok (.istore 7, 2) := by decide +kernel
theorem dX3_runMutants_31 : decode cX3_runMutants 31 = .ok (.aload_n 0, 1) := by decide +kernel
theorem dX3_runMutants_32 : decode cX3_runMutants 32 = .ok (.getfield 19, 3) := by decide +kernel
theorem dX3_runMutants_35 : decode cX3_runMutants 35 = .ok (.iload_n 1, 1) := by decide +kernel
theorem dX3_runMutants_36 : decode cX3_runMutants 36 = .ok (.aload 4, 2) := by decide +kernel
theorem dX3_runMutants_38 : decode cX3_runMutants 38 = .ok (.getfield 52, 3) := by decide +kernel
theorem dX3_runMutants_41 : decode cX3_runMutants 41 = .ok (.lastore, 1) := by decide +kernel
theorem dX3_runMutants_42 : decode cX3_runMutants 42 = .ok (.iconst 0, 1) := by decide +kernel
theorem dX3_runMutants_43 : decode cX3_runMutants 43 = .ok (.istore 8, 2) := by decide +kernel
theorem dX3_runMutants_45 : decode cX3_runMutants 45 = .ok (.iconst 1, 1) := by decide +kernel
theorem dX3_runMutants_46 : decode cX3_runMutants 46 = .ok (.istore 9, 2) := by decide +kernel
theorem dX3_runMutants_48 : decode cX3_runMutants 48 = .ok (.iload 9, 2) := by decide +kernel
theorem dX3_runMutants_50 : decode cX3_runMutants 50 = .ok (.aload_n 3, 1) := by decide +kernel
theorem dX3_runMutants_51 : decode cX3_runMutants 51 = .ok (.getfield 55, 3) := by decide +kernel
theorem dX3_runMutants_54 : decode cX3_runMutants 54 = .ok (.if_icmp .gt 106, 3) := by decide +kernel
theorem dX3_runMutants_57 : decode cX3_runMutants 57 = .ok (.aload_n 3, 1) := by decide +kernel
theorem dX3_runMutants_58 : decode cX3_runMutants 58 = .ok (.iload 9, 2) := by decide +kernel
theorem dX3_runMutants_60 : decode cX3_runMutants 60 = .ok (.invokevirtual 60, 3) := by decide +kernel
theorem dX3_runMutants_63 : decode cX3_runMutants 63 = .ok (.ifCond .eq 91, 3) := by decide +kernel
theorem dX3_runMutants_66 : decode cX3_runMutants 66 = .ok (.aload_n 0, 1) := by decide +kernel
theorem dX3_runMutants_67 : decode cX3_runMutants 67 = .ok (.getfield 19, 3) := by decide +kernel
theorem dX3_runMutants_70 : decode cX3_runMutants 70 = .ok (.iload_n 1, 1) := by decide +kernel
theorem dX3_runMutants_71 : decode cX3_runMutants 71 = .ok (.laload, 1) := by decide +kernel
theorem dX3_runMutants_72 : decode cX3_runMutants 72 = .ok (.aload_n 3, 1) := by decide +kernel
theorem dX3_runMutants_73 : decode cX3_runMutants 73 = .ok (.getfield 64, 3) := by decide +kernel
theorem dX3_runMutants_76 : decode cX3_runMutants 76 = .ok (.iload 9, 2) := by decide +kernel
theorem dX3_runMutants_78 : decode cX3_runMutants 78 = .ok (.iaload, 1) := by decide +kernel
theorem dX3_runMutants_79 : decode cX3_runMutants 79 = .ok (.invokestatic 67, 3) := by decide +kernel
theorem dX3_runMutants_82 : decode cX3_runMutants 82 = .ok (.ifCond .eq 72, 3) := by decide +kernel
theorem dX3_runMutants_85 : decode cX3_runMutants 85 = .ok (.aload 4, 2) := by decide +kernel
theorem dX3_runMutants_87 : decode cX3_runMutants 87 = .ok (.aload_n 2, 1) := by decide +kernel
theorem dX3_runMutants_88 : decode cX3_runMutants 88 = .ok (.aload_n 3, 1) := by decide +kernel
theorem dX3_runMutants_89 : decode cX3_runMutants 89 = .ok (.getfield 64, 3) := by decide +kernel
theorem dX3_runMutants_92 : decode cX3_runMutants 92 = .ok (.iload 9, 2) := by decide +kernel
theorem dX3_runMutants_94 : decode cX3_runMutants 94 = .ok (.iaload, 1) := by decide +kernel
theorem dX3_runMutants_95 : decode cX3_runMutants 95 = .ok (.aload_n 3, 1) := by decide +kernel
theorem dX3_runMutants_96 : decode cX3_runMutants 96 = .ok (.getfield 71, 3) := by decide +kernel
theorem dX3_runMutants_99 : decode cX3_runMutants 99 = .ok (.iload 9, 2) := by decide +kernel
theorem dX3_runMutants_101 : decode cX3_runMutants 101 = .ok (.iaload, 1) := by decide +kernel
theorem dX3_runMutants_102 : decode cX3_runMutants 102 = .ok (.aload_n 0, 1) := by decide +kernel
theorem dX3_runMutants_103 : decode cX3_runMutants 103 = .ok (.getfield 27, 3) := by decide +kernel
theorem dX3_runMutants_106 : decode cX3_runMutants 106 = .ok (.iload_n 1, 1) := by decide +kernel
theorem dX3_runMutants_107 : decode cX3_runMutants 107 = .ok (.iaload, 1) := by decide +kernel
theorem dX3_runMutants_108 : decode cX3_runMutants 108 = .ok (.aload_n 0, 1) := by decide +kernel
theorem dX3_runMutants_109 : decode cX3_runMutants 109 = .ok (.getfield 30, 3) := by decide +kernel
theorem dX3_runMutants_112 : decode cX3_runMutants 112 = .ok (.iload_n 1, 1) := by decide +kernel
theorem dX3_runMutants_113 : decode cX3_runMutants 113 = .ok (.iaload, 1) := by decide +kernel
theorem dX3_runMutants_114 : decode cX3_runMutants 114 = .ok (.iload 5, 2) := by decide +kernel
theorem dX3_runMutants_116 : decode cX3_runMutants 116 = .ok (.invokevirtual 43, 3) := by decide +kernel
theorem dX3_runMutants_119 : decode cX3_runMutants 119 = .ok (.istore 10, 2) := by decide +kernel
theorem dX3_runMutants_121 : decode cX3_runMutants 121 = .ok (.iload 10, 2) := by decide +kernel
theorem dX3_runMutants_123 : decode cX3_runMutants 123 = .ok (.iload 6, 2) := by decide +kernel
theorem dX3_runMutants_125 : decode cX3_runMutants 125 = .ok (.if_icmp .ne 13, 3) := by decide +kernel
theorem dX3_runMutants_128 : decode cX3_runMutants 128 = .ok (.aload 4, 2) := by decide +kernel
theorem dX3_runMutants_130 : decode cX3_runMutants 130 = .ok (.getfield 49, 3) := by decide +kernel
theorem dX3_runMutants_133 : decode cX3_runMutants 133 = .ok (.iload 7, 2) := by decide +kernel
theorem dX3_runMutants_135 : decode cX3_runMutants 135 = .ok (.if_icmp .eq 16, 3) := by decide +kernel
theorem dX3_runMutants_138 : decode cX3_runMutants 138 = .ok (.aload_n 0, 1) := by decide +kernel
theorem dX3_runMutants_139 : decode cX3_runMutants 139 = .ok (.getfield 23, 3) := by decide +kernel
theorem dX3_runMutants_142 : decode cX3_runMutants 142 = .ok (.iload 9, 2) := by decide +kernel
theorem dX3_runMutants_144 : decode cX3_runMutants 144 = .ok (.dup2, 1) := by decide +kernel
theorem dX3_runMutants_145 : decode cX3_runMutants 145 = .ok (.iaload, 1) := by decide +kernel
theorem dX3_runMutants_146 : decode cX3_runMutants 146 = .ok (.iconst 1, 1) := by decide +kernel
theorem dX3_runMutants_147 : decode cX3_runMutants 147 = .ok (.iload_n 1, 1) := by decide +kernel
theorem dX3_runMutants_148 : decode cX3_runMutants 148 = .ok (.ishl, 1) := by decide +kernel
theorem dX3_runMutants_149 : decode cX3_runMutants 149 = .ok (.ior, 1) := by decide +kernel
theorem dX3_runMutants_150 : decode cX3_runMutants 150 = .ok (.iastore, 1) := by decide +kernel
theorem dX3_runMutants_151 : decode cX3_runMutants 151 = .ok (.iinc 8 1, 3) := by decide +kernel
theorem dX3_runMutants_154 : decode cX3_runMutants 154 = .ok (.iinc 9 1, 3) := by decide +kernel
theorem dX3_runMutants_157 : decode cX3_runMutants 157 = .ok (.goto (-109), 3) := by decide +kernel
theorem dX3_runMutants_160 : decode cX3_runMutants 160 = .ok (.iload 8, 2) := by decide +kernel
theorem dX3_runMutants_162 : decode cX3_runMutants 162 = .ok (.ireturn, 1) := by decide +kernel
theorem dX4_init_0 : decode cX4_init 0 = .ok (.aload_n 0, 1) := by decide +kernel
theorem dX4_init_1 : decode cX4_init 1 = .ok (.invokespecial 3, 3) := by decide +kernel
theorem dX4_init_4 : decode cX4_init 4 = .ok (.aload_n 0, 1) := by decide +kernel
theorem dX4_init_5 : decode cX4_init 5 = .ok (.bipush 121, 2) := by decide +kernel
theorem dX4_init_7 : decode cX4_init 7 = .ok (.newarray .int, 2) := by decide +kernel
theorem dX4_init_9 : decode cX4_init 9 = .ok (.putfield 9, 3) := by decide +kernel
theorem dX4_init_12 : decode cX4_init 12 = .ok (.aload_n 0, 1) := by decide +kernel
theorem dX4_init_13 : decode cX4_init 13 = .ok (.bipush 121, 2) := by decide +kernel
theorem dX4_init_15 : decode cX4_init 15 = .ok (.newarray .int, 2) := by decide +kernel
theorem dX4_init_17 : decode cX4_init 17 = .ok (.putfield 15, 3) := by decide +kernel
theorem dX4_init_20 : decode cX4_init 20 = .ok (.aload_n 0, 1) := by decide +kernel
theorem dX4_init_21 : decode cX4_init 21 = .ok (.bipush 121, 2) := by decide +kernel
theorem dX4_init_23 : decode cX4_init 23 = .ok (.newarray .int, 2) := by decide +kernel
theorem dX4_init_25 : decode cX4_init 25 = .ok (.putfield 18, 3) := by decide +kernel
theorem dX4_init_28 : decode cX4_init 28 = .ok (.aload_n 0, 1) := by decide +kernel
theorem dX4_init_29 : decode cX4_init 29 = .ok (.bipush 121, 2) := by decide +kernel
theorem dX4_init_31 : decode cX4_init 31 = .ok (.newarray .int, 2) := by decide +kernel
theorem dX4_init_33 : decode cX4_init 33 = .ok (.putfield 21, 3) := by decide +kernel
theorem dX4_init_36 : decode cX4_init 36 = .ok (.aload_n 0, 1) := by decide +kernel
theorem dX4_init_37 : decode cX4_init 37 = .ok (.iconst 0, 1) := by decide +kernel
theorem dX4_init_38 : decode cX4_init 38 = .ok (.putfield 24, 3) := by decide +kernel
theorem dX4_init_41 : decode cX4_init 41 = .ok (.aload_n 0, 1) := by decide +kernel
theorem dX4_init_42 : decode cX4_init 42 = .ok (.bipush 60, 2) := by decide +kernel
theorem dX4_init_44 : decode cX4_init 44 = .ok (.newarray .int, 2) := by decide +kernel
theorem dX4_init_46 : decode cX4_init 46 = .ok (.putfield 28, 3) := by decide +kernel
theorem dX4_init_49 : decode cX4_init 49 = .ok (.return_, 1) := by decide +kernel
theorem dX4_list_0 : decode cX4_list 0 = .ok (.aload_n 0, 1) := by decide +kernel
theorem dX4_list_1 : decode cX4_list 1 = .ok (.getfield 9, 3) := by decide +kernel
theorem dX4_list_4 : decode cX4_list 4 = .ok (.iconst 0, 1) := by decide +kernel
theorem dX4_list_5 : decode cX4_list 5 = .ok (.iconst (-1), 1) := by decide +kernel
theorem dX4_list_6 : decode cX4_list 6 = .ok (.iastore, 1) := by decide +kernel
theorem dX4_list_7 : decode cX4_list 7 = .ok (.aload_n 0, 1) := by decide +kernel
theorem dX4_list_8 : decode cX4_list 8 = .ok (.iconst 0, 1) := by decide +kernel
theorem dX4_list_9 : decode cX4_list 9 = .ok (.putfield 24, 3) := by decide +kernel
theorem dX4_list_12 : decode cX4_list 12 = .ok (.aload_n 0, 1) := by decide +kernel
theorem dX4_list_13 : decode cX4_list 13 = .ok (.aload_n 1, 1) := by decide +kernel
theorem dX4_list_14 : decode cX4_list 14 = .ok (.invokevirtual 31, 3) := by decide +kernel
theorem dX4_list_17 : decode cX4_list 17 = .ok (.iconst 0, 1) := by decide +kernel
theorem dX4_list_18 : decode cX4_list 18 = .ok (.istore_n 2, 1) := by decide +kernel
theorem dX4_list_19 : decode cX4_list 19 = .ok (.iload_n 2, 1) := by decide +kernel
theorem dX4_list_20 : decode cX4_list 20 = .ok (.bipush 60, 2) := by decide +kernel
theorem dX4_list_22 : decode cX4_list 22 = .ok (.if_icmp .ge 46, 3) := by decide +kernel
theorem dX4_list_25 : decode cX4_list 25 = .ok (.aload_n 0, 1) := by decide +kernel
theorem dX4_list_26 : decode cX4_list 26 = .ok (.getfield 28, 3) := by decide +kernel
theorem dX4_list_29 : decode cX4_list 29 = .ok (.iload_n 2, 1) := by decide +kernel
theorem dX4_list_30 : decode cX4_list 30 = .ok (.iaload, 1) := by decide +kernel
theorem dX4_list_31 : decode cX4_list 31 = .ok (.iconst (-1), 1) := by decide +kernel
theorem dX4_list_32 : decode cX4_list 32 = .ok (.if_icmp .eq 30, 3) := by decide +kernel
theorem dX4_list_35 : decode cX4_list 35 = .ok (.aload_n 0, 1) := by decide +kernel
theorem dX4_list_36 : decode cX4_list 36 = .ok (.iload_n 2, 1) := by decide +kernel
theorem dX4_list_37 : decode cX4_list 37 = .ok (.aload_n 1, 1) := by decide +kernel
theorem dX4_list_38 : decode cX4_list 38 = .ok (.getfield 35, 3) := by decide +kernel
theorem dX4_list_41 : decode cX4_list 41 = .ok (.aload_n 0, 1) := by decide +kernel
theorem dX4_list_42 : decode cX4_list 42 = .ok (.getfield 28, 3) := by decide +kernel
theorem dX4_list_45 : decode cX4_list 45 = .ok (.iload_n 2, 1) := by decide +kernel
theorem dX4_list_46 : decode cX4_list 46 = .ok (.iaload, 1) := by decide +kernel
theorem dX4_list_47 : decode cX4_list 47 = .ok (.iaload, 1) := by decide +kernel
theorem dX4_list_48 : decode cX4_list 48 = .ok (.aload_n 1, 1) := by decide +kernel
theorem dX4_list_49 : decode cX4_list 49 = .ok (.getfield 40, 3) := by decide +kernel
theorem dX4_list_52 : decode cX4_list 52 = .ok (.aload_n 0, 1) := by decide +kernel
theorem dX4_list_53 : decode cX4_list 53 = .ok (.getfield 28, 3) := by decide +kernel
theorem dX4_list_56 : decode cX4_list 56 = .ok (.iload_n 2, 1) := by decide +kernel
theorem dX4_list_57 : decode cX4_list 57 = .ok (.iaload, 1) := by decide +kernel
theorem dX4_list_58 : decode cX4_list 58 = .ok (.iaload, 1) := by decide +kernel
theorem dX4_list_59 : decode cX4_list 59 = .ok (.invokevirtual 43, 3) := by decide +kernel
theorem dX4_list_62 : decode cX4_list 62 = .ok (.iinc 2 1, 3) := by decide +kernel
theorem dX4_list_65 : decode cX4_list 65 = .ok (.goto (-46), 3) := by decide +kernel
theorem dX4_list_68 : decode cX4_list 68 = .ok (.return_, 1) := by decide +kernel
theorem dX4_sortSites_0 : decode cX4_sortSites 0 = .ok (.aload_n 0, 1) := by decide +kernel
theorem dX4_sortSites_1 : decode cX4_sortSites 1 = .ok (.getfield 28, 3) := by decide +kernel
theorem dX4_sortSites_4 : decode cX4_sortSites 4 = .ok (.iconst (-1), 1) := by decide +kernel
theorem dX4_sortSites_5 : decode cX4_sortSites 5 = .ok (.invokestatic 47, 3) := by decide +kernel
theorem dX4_sortSites_8 : decode cX4_sortSites 8 = .ok (.iconst 0, 1) := by decide +kernel
theorem dX4_sortSites_9 : decode cX4_sortSites 9 = .ok (.istore_n 2, 1) := by decide +kernel
theorem dX4_sortSites_10 : decode cX4_sortSites 10 = .ok (.iload_n 2, 1) := by decide +kernel
theorem dX4_sortSites_11 : decode cX4_sortSites 11 = .ok (.aload_n 1, 1) := by decide +kernel
theorem dX4_sortSites_12 : decode cX4_sortSites 12 = .ok (.getfield 53, 3) := by decide +kernel
theorem dX4_sortSites_15 : decode cX4_sortSites 15 = .ok (.if_icmp .ge 33, 3) := by decide +kernel
theorem dX4_sortSites_18 : decode cX4_sortSites 18 = .ok (.aload_n 1, 1) := by decide +kernel
theorem dX4_sortSites_19 : decode cX4_sortSites 19 = .ok (.getfield 35, 3) := by decide +kernel
theorem dX4_sortSites_22 : decode cX4_sortSites 22 = .ok (.iload_n 2, 1) := by decide +kernel
theorem dX4_sortSites_23 : decode cX4_sortSites 23 = .ok (.iaload, 1) := by decide +kernel
theorem dX4_sortSites_24 : decode cX4_sortSites 24 = .ok (.invokestatic 56, 3) := by decide +kernel
theorem dX4_sortSites_27 : decode cX4_sortSites 27 = .ok (.ifCond .le 15, 3) := by decide +kernel
theorem dX4_sortSites_30 : decode cX4_sortSites 30 = .ok (.aload_n 0, 1) := by decide +kernel
theorem dX4_sortSites_31 : decode cX4_sortSites 31 = .ok (.getfield 28, 3) := by decide +kernel
theorem dX4_sortSites_34 : decode cX4_sortSites 34 = .ok (.aload_n 1, 1) := by decide +kernel
theorem dX4_sortSites_35 : decode cX4_sortSites 35 = .ok (.getfield 60, 3) := by decide +kernel
theorem dX4_sortSites_38 : decode cX4_sortSites 38 = .ok (.iload_n 2, 1) := by decide +kernel
theorem dX4_sortSites_39 : decode cX4_sortSites 39 = .ok (.iaload, 1) := by decide +kernel
theorem dX4_sortSites_40 : decode cX4_sortSites 40 = .ok (.iload_n 2, 1) := by decide +kernel
theorem dX4_sortSites_41 : decode cX4_sortSites 41 = .ok (.iastore, 1) := by decide +kernel
theorem dX4_sortSites_42 : decode cX4_sortSites 42 = .ok (.iinc 2 1, 3) := by decide +kernel
theorem dX4_sortSites_45 : decode cX4_sortSites 45 = .ok (.goto (-35), 3) := by decide +kernel
theorem dX4_sortSites_48 : decode cX4_sortSites 48 = .ok (.return_, 1) := by decide +kernel
theorem dX4_listSite_0 : decode cX4_listSite 0 = .ok (.iload_n 2, 1) := by decide +kernel
theorem dX4_listSite_1 : decode cX4_listSite 1 = .ok (.tableswitch 88 0 3 #[31, 43, 55, 67], 31) := by decide +kernel
theorem dX4_listSite_32 : decode cX4_listSite 32 = .ok (.aload_n 0, 1) := by decide +kernel
theorem dX4_listSite_33 : decode cX4_listSite 33 = .ok (.iload_n 1, 1) := by decide +kernel
theorem dX4_listSite_34 : decode cX4_listSite 34 = .ok (.iload_n 2, 1) := by decide +kernel
theorem dX4_listSite_35 : decode cX4_listSite 35 = .ok (.ldc 63, 2) := by decide +kernel
theorem dX4_listSite_37 : decode cX4_listSite 37 = .ok (.iload_n 3, 1) := by decide +kernel
theorem dX4_listSite_38 : decode cX4_listSite 38 = .ok (.invokevirtual 65, 3) := by decide +kernel
theorem dX4_listSite_41 : decode cX4_listSite 41 = .ok (.goto 55, 3) := by decide +kernel
theorem dX4_listSite_44 : decode cX4_listSite 44 = .ok (.aload_n 0, 1) := by decide +kernel
theorem dX4_listSite_45 : decode cX4_listSite 45 = .ok (.iload_n 1, 1) := by decide +kernel
theorem dX4_listSite_46 : decode cX4_listSite 46 = .ok (.iload_n 2, 1) := by decide +kernel
theorem dX4_listSite_47 : decode cX4_listSite 47 = .ok (.ldc 69, 2) := by decide +kernel
theorem dX4_listSite_49 : decode cX4_listSite 49 = .ok (.iload_n 3, 1) := by decide +kernel
theorem dX4_listSite_50 : decode cX4_listSite 50 = .ok (.invokevirtual 65, 3) := by decide +kernel
theorem dX4_listSite_53 : decode cX4_listSite 53 = .ok (.goto 43, 3) := by decide +kernel
theorem dX4_listSite_56 : decode cX4_listSite 56 = .ok (.aload_n 0, 1) := by decide +kernel
theorem dX4_listSite_57 : decode cX4_listSite 57 = .ok (.iload_n 1, 1) := by decide +kernel
theorem dX4_listSite_58 : decode cX4_listSite 58 = .ok (.iload_n 2, 1) := by decide +kernel
theorem dX4_listSite_59 : decode cX4_listSite 59 = .ok (.ldc 71, 2) := by decide +kernel
theorem dX4_listSite_61 : decode cX4_listSite 61 = .ok (.iload_n 3, 1) := by decide +kernel
theorem dX4_listSite_62 : decode cX4_listSite 62 = .ok (.invokevirtual 65, 3) := by decide +kernel
theorem dX4_listSite_65 : decode cX4_listSite 65 = .ok (.goto 31, 3) := by decide +kernel
theorem dX4_listSite_68 : decode cX4_listSite 68 = .ok (.aload_n 0, 1) := by decide +kernel
theorem dX4_listSite_69 : decode cX4_listSite 69 = .ok (.iload_n 1, 1) := by decide +kernel
theorem dX4_listSite_70 : decode cX4_listSite 70 = .ok (.iload_n 2, 1) := by decide +kernel
theorem dX4_listSite_71 : decode cX4_listSite 71 = .ok (.iload_n 3, 1) := by decide +kernel
theorem dX4_listSite_72 : decode cX4_listSite 72 = .ok (.iconst 1, 1) := by decide +kernel
theorem dX4_listSite_73 : decode cX4_listSite 73 = .ok (.iadd, 1) := by decide +kernel
theorem dX4_listSite_74 : decode cX4_listSite 74 = .ok (.invokevirtual 73, 3) := by decide +kernel
theorem dX4_listSite_77 : decode cX4_listSite 77 = .ok (.aload_n 0, 1) := by decide +kernel
theorem dX4_listSite_78 : decode cX4_listSite 78 = .ok (.iload_n 1, 1) := by decide +kernel
theorem dX4_listSite_79 : decode cX4_listSite 79 = .ok (.iload_n 2, 1) := by decide +kernel
theorem dX4_listSite_80 : decode cX4_listSite 80 = .ok (.iload_n 3, 1) := by decide +kernel
theorem dX4_listSite_81 : decode cX4_listSite 81 = .ok (.iconst 1, 1) := by decide +kernel
theorem dX4_listSite_82 : decode cX4_listSite 82 = .ok (.isub, 1) := by decide +kernel
theorem dX4_listSite_83 : decode cX4_listSite 83 = .ok (.invokevirtual 73, 3) := by decide +kernel
theorem dX4_listSite_86 : decode cX4_listSite 86 = .ok (.goto 10, 3) := by decide +kernel
theorem dX4_listSite_89 : decode cX4_listSite 89 = .ok (.aload_n 0, 1) := by decide +kernel
theorem dX4_listSite_90 : decode cX4_listSite 90 = .ok (.iload_n 1, 1) := by decide +kernel
theorem dX4_listSite_91 : decode cX4_listSite 91 = .ok (.iload_n 2, 1) := by decide +kernel
theorem dX4_listSite_92 : decode cX4_listSite 92 = .ok (.iconst 0, 1) := by decide +kernel
theorem dX4_listSite_93 : decode cX4_listSite 93 = .ok (.invokevirtual 73, 3) := by decide +kernel
theorem dX4_listSite_96 : decode cX4_listSite 96 = .ok (.return_, 1) := by decide +kernel
theorem dX4_listOthers_0 : decode cX4_listOthers 0 = .ok (.iconst 0, 1) := by decide +kernel
theorem dX4_listOthers_1 : decode cX4_listOthers 1 = .ok (.istore 5, 2) := by decide +kernel
theorem dX4_listOthers_3 : decode cX4_listOthers 3 = .ok (.iload 5, 2) := by decide +kernel
theorem dX4_listOthers_5 : decode cX4_listOthers 5 = .ok (.aload_n 3, 1) := by decide +kernel
theorem dX4_listOthers_6 : decode cX4_listOthers 6 = .ok (.invokevirtual 76, 3) := by decide +kernel
theorem dX4_listOthers_9 : decode cX4_listOthers 9 = .ok (.if_icmp .ge 32, 3) := by decide +kernel
theorem dX4_listOthers_12 : decode cX4_listOthers 12 = .ok (.aload_n 3, 1) := by decide +kernel
theorem dX4_listOthers_13 : decode cX4_listOthers 13 = .ok (.iload 5, 2) := by decide +kernel
theorem dX4_listOthers_15 : decode cX4_listOthers 15 = .ok (.invokevirtual 82, 3) := by decide +kernel
theorem dX4_listOthers_18 : decode cX4_listOthers 18 = .ok (.iload 4, 2) := by decide +kernel
theorem dX4_listOthers_20 : decode cX4_listOthers 20 = .ok (.if_icmp .eq 15, 3) := by decide +kernel
theorem dX4_listOthers_23 : decode cX4_listOthers 23 = .ok (.aload_n 0, 1) := by decide +kernel
theorem dX4_listOthers_24 : decode cX4_listOthers 24 = .ok (.iload_n 1, 1) := by decide +kernel
theorem dX4_listOthers_25 : decode cX4_listOthers 25 = .ok (.iload_n 2, 1) := by decide +kernel
theorem dX4_listOthers_26 : decode cX4_listOthers 26 = .ok (.aload_n 3, 1) := by decide +kernel
theorem dX4_listOthers_27 : decode cX4_listOthers 27 = .ok (.iload 5, 2) := by decide +kernel
theorem dX4_listOthers_29 : decode cX4_listOthers 29 = .ok (.invokevirtual 82, 3) := by decide +kernel
theorem dX4_listOthers_32 : decode cX4_listOthers 32 = .ok (.invokevirtual 73, 3) := by decide +kernel
theorem dX4_listOthers_35 : decode cX4_listOthers 35 = .ok (.iinc 5 1, 3) := by decide +kernel
theorem dX4_listOthers_38 : decode cX4_listOthers 38 = .ok (.goto (-35), 3) := by decide +kernel
theorem dX4_listOthers_41 : decode cX4_listOthers 41 = .ok (.return_, 1) := by decide +kernel
theorem dX4_add_0 : decode cX4_add 0 = .ok (.aload_n 0, 1) := by decide +kernel
theorem dX4_add_1 : decode cX4_add 1 = .ok (.getfield 24, 3) := by decide +kernel
theorem dX4_add_4 : decode cX4_add 4 = .ok (.bipush 120, 2) := by decide +kernel
theorem dX4_add_6 : decode cX4_add 6 = .ok (.if_icmp .ge 43, 3) := by decide +kernel
theorem dX4_add_9 : decode cX4_add 9 = .ok (.aload_n 0, 1) := by decide +kernel
theorem dX4_add_10 : decode cX4_add 10 = .ok (.dup, 1) := by decide +kernel
theorem dX4_add_11 : decode cX4_add 11 = .ok (.getfield 24, 3) := by decide +kernel
theorem dX4_add_14 : decode cX4_add 14 = .ok (.iconst 1, 1) := by decide +kernel
theorem dX4_add_15 : decode cX4_add 15 = .ok (.iadd, 1) := by decide +kernel
theorem dX4_add_16 : decode cX4_add 16 = .ok (.putfield 24, 3) := by decide +kernel
theorem dX4_add_19 : decode cX4_add 19 = .ok (.aload_n 0, 1) := by decide +kernel
theorem dX4_add_20 : decode cX4_add 20 = .ok (.getfield 9, 3) := by decide +kernel
theorem dX4_add_23 : decode cX4_add 23 = .ok (.aload_n 0, 1) := by decide +kernel
theorem dX4_add_24 : decode cX4_add 24 = .ok (.getfield 24, 3) := by decide +kernel
theorem dX4_add_27 : decode cX4_add 27 = .ok (.iload_n 1, 1) := by decide +kernel
theorem dX4_add_28 : decode cX4_add 28 = .ok (.iastore, 1) := by decide +kernel
theorem dX4_add_29 : decode cX4_add 29 = .ok (.aload_n 0, 1) := by decide +kernel
theorem dX4_add_30 : decode cX4_add 30 = .ok (.getfield 15, 3) := by decide +kernel
theorem dX4_add_33 : decode cX4_add 33 = .ok (.aload_n 0, 1) := by decide +kernel
theorem dX4_add_34 : decode cX4_add 34 = .ok (.getfield 24, 3) := by decide +kernel
theorem dX4_add_37 : decode cX4_add 37 = .ok (.iload_n 2, 1) := by decide +kernel
theorem dX4_add_38 : decode cX4_add 38 = .ok (.iastore, 1) := by decide +kernel
theorem dX4_add_39 : decode cX4_add 39 = .ok (.aload_n 0, 1) := by decide +kernel
theorem dX4_add_40 : decode cX4_add 40 = .ok (.getfield 18, 3) := by decide +kernel
theorem dX4_add_43 : decode cX4_add 43 = .ok (.aload_n 0, 1) := by decide +kernel
theorem dX4_add_44 : decode cX4_add 44 = .ok (.getfield 24, 3) := by decide +kernel
theorem dX4_add_47 : decode cX4_add 47 = .ok (.iload_n 3, 1) := by decide +kernel
theorem dX4_add_48 : decode cX4_add 48 = .ok (.iastore, 1) := by decide +kernel
theorem dX4_add_49 : decode cX4_add 49 = .ok (.return_, 1) := by decide +kernel
theorem dX4_isNamesake_0 : decode cX4_isNamesake 0 = .ok (.iload_n 1, 1) := by decide +kernel
theorem dX4_isNamesake_1 : decode cX4_isNamesake 1 = .ok (.ifCond .eq 17, 3) := by decide +kernel
theorem dX4_isNamesake_4 : decode cX4_isNamesake 4 = .ok (.aload_n 0, 1) := by decide +kernel
theorem dX4_isNamesake_5 : decode cX4_isNamesake 5 = .ok (.getfield 21, 3) := by decide +kernel
theorem dX4_isNamesake_8 : decode cX4_isNamesake 8 = .ok (.iload_n 1, 1) := by decide +kernel
theorem dX4_isNamesake_9 : decode cX4_isNamesake 9 = .ok (.iaload, 1) := by decide +kernel
theorem dX4_isNamesake_10 : decode cX4_isNamesake 10 = .ok (.iload_n 1, 1) := by decide +kernel
theorem dX4_isNamesake_11 : decode cX4_isNamesake 11 = .ok (.if_icmp .ne 7, 3) := by decide +kernel
theorem dX4_isNamesake_14 : decode cX4_isNamesake 14 = .ok (.iconst 1, 1) := by decide +kernel
theorem dX4_isNamesake_15 : decode cX4_isNamesake 15 = .ok (.goto 4, 3) := by decide +kernel
theorem dX4_isNamesake_18 : decode cX4_isNamesake 18 = .ok (.iconst 0, 1) := by decide +kernel
theorem dX4_isNamesake_19 : decode cX4_isNamesake 19 = .ok (.ireturn, 1) := by decide +kernel
theorem dX5_init_0 : decode cX5_init 0 = .ok (.aload_n 0, 1) := by decide +kernel
theorem dX5_init_1 : decode cX5_init 1 = .ok (.invokespecial 3, 3) := by decide +kernel
theorem dX5_init_4 : decode cX5_init 4 = .ok (.aload_n 0, 1) := by decide +kernel
theorem dX5_init_5 : decode cX5_init 5 = .ok (.iconst 0, 1) := by decide +kernel
theorem dX5_init_6 : decode cX5_init 6 = .ok (.newarray .char, 2) := by decide +kernel
theorem dX5_init_8 : decode cX5_init 8 = .ok (.putfield 9, 3) := by decide +kernel
theorem dX5_init_11 : decode cX5_init 11 = .ok (.aload_n 0, 1) := by decide +kernel
theorem dX5_init_12 : decode cX5_init 12 = .ok (.iconst 0, 1) := by decide +kernel
theorem dX5_init_13 : decode cX5_init 13 = .ok (.putfield 15, 3) := by decide +kernel
theorem dX5_init_16 : decode cX5_init 16 = .ok (.aload_n 0, 1) := by decide +kernel
theorem dX5_init_17 : decode cX5_init 17 = .ok (.iconst 0, 1) := by decide +kernel
theorem dX5_init_18 : decode cX5_init 18 = .ok (.putfield 19, 3) := by decide +kernel
theorem dX5_init_21 : decode cX5_init 21 = .ok (.aload_n 0, 1) := by decide +kernel
theorem dX5_init_22 : decode cX5_init 22 = .ok (.new 22, 3) := by decide +kernel
theorem dX5_init_25 : decode cX5_init 25 = .ok (.dup, 1) := by decide +kernel
theorem dX5_init_26 : decode cX5_init 26 = .ok (.invokespecial 24, 3) := by decide +kernel
theorem dX5_init_29 : decode cX5_init 29 = .ok (.putfield 25, 3) := by decide +kernel
theorem dX5_init_32 : decode cX5_init 32 = .ok (.return_, 1) := by decide +kernel
theorem dX5_read_0 : decode cX5_read 0 = .ok (.aload_n 0, 1) := by decide +kernel
theorem dX5_read_1 : decode cX5_read 1 = .ok (.aload_n 1, 1) := by decide +kernel
theorem dX5_read_2 : decode cX5_read 2 = .ok (.putfield 9, 3) := by decide +kernel
theorem dX5_read_5 : decode cX5_read 5 = .ok (.aload_n 0, 1) := by decide +kernel
theorem dX5_read_6 : decode cX5_read 6 = .ok (.iload_n 2, 1) := by decide +kernel
theorem dX5_read_7 : decode cX5_read 7 = .ok (.putfield 15, 3) := by decide +kernel
theorem dX5_read_10 : decode cX5_read 10 = .ok (.aload_n 0, 1) := by decide +kernel
theorem dX5_read_11 : decode cX5_read 11 = .ok (.iconst 0, 1) := by decide +kernel
theorem dX5_read_12 : decode cX5_read 12 = .ok (.putfield 19, 3) := by decide +kernel
theorem dX5_read_15 : decode cX5_read 15 = .ok (.aload_n 0, 1) := by decide +kernel
theorem dX5_read_16 : decode cX5_read 16 = .ok (.aload_n 3, 1) := by decide +kernel
theorem dX5_read_17 : decode cX5_read 17 = .ok (.putfield 25, 3) := by decide +kernel
theorem dX5_read_20 : decode cX5_read 20 = .ok (.aload_n 0, 1) := by decide +kernel
theorem dX5_read_21 : decode cX5_read 21 = .ok (.getfield 25, 3) := by decide +kernel
theorem dX5_read_24 : decode cX5_read 24 = .ok (.iconst 0, 1) := by decide +kernel
theorem dX5_read_25 : decode cX5_read 25 = .ok (.putfield 29, 3) := by decide +kernel
theorem dX5_read_28 : decode cX5_read 28 = .ok (.aload_n 0, 1) := by decide +kernel
theorem dX5_read_29 : decode cX5_read 29 = .ok (.iconst 0, 1) := by decide +kernel
theorem dX5_read_30 : decode cX5_read 30 = .ok (.invokevirtual 32, 3) := by decide +kernel
theorem dX5_read_33 : decode cX5_read 33 = .ok (.aload_n 0, 1) := by decide +kernel
theorem dX5_read_34 : decode cX5_read 34 = .ok (.getfield 19, 3) := by decide +kernel
theorem dX5_read_37 : decode cX5_read 37 = .ok (.aload_n 0, 1) := by decide +kernel
theorem dX5_read_38 : decode cX5_read 38 = .ok (.getfield 15, 3) := by decide +kernel
theorem dX5_read_41 : decode cX5_read 41 = .ok (.if_icmp .ge 7, 3) := by decide +kernel
theorem dX5_read_44 : decode cX5_read 44 = .ok (.aload_n 0, 1) := by decide +kernel
theorem dX5_read_45 : decode cX5_read 45 = .ok (.invokevirtual 36, 3) := by decide +kernel
theorem dX5_read_48 : decode cX5_read 48 = .ok (.return_, 1) := by decide +kernel
theorem dX5_refuse_0 : decode cX5_refuse 0 = .ok (.new 39, 3) := by decide +kernel
theorem dX5_refuse_3 : decode cX5_refuse 3 = .ok (.dup, 1) := by decide +kernel
theorem dX5_refuse_4 : decode cX5_refuse 4 = .ok (.ldc 41, 2) := by decide +kernel
theorem dX5_refuse_6 : decode cX5_refuse 6 = .ok (.invokespecial 43, 3) := by decide +kernel
theorem dX5_refuse_9 : decode cX5_refuse 9 = .ok (.athrow, 1) := by decide +kernel
theorem dX5_next_0 : decode cX5_next 0 = .ok (.aload_n 0, 1) := by decide +kernel
theorem dX5_next_1 : decode cX5_next 1 = .ok (.getfield 19, 3) := by decide +kernel
theorem dX5_next_4 : decode cX5_next 4 = .ok (.aload_n 0, 1) := by decide +kernel
theorem dX5_next_5 : decode cX5_next 5 = .ok (.getfield 15, 3) := by decide +kernel
theorem dX5_next_8 : decode cX5_next 8 = .ok (.if_icmp .ge 27, 3) := by decide +kernel
theorem dX5_next_11 : decode cX5_next 11 = .ok (.aload_n 0, 1) := by decide +kernel
theorem dX5_next_12 : decode cX5_next 12 = .ok (.getfield 19, 3) := by decide +kernel
theorem dX5_next_15 : decode cX5_next 15 = .ok (.aload_n 0, 1) := by decide +kernel
theorem dX5_next_16 : decode cX5_next 16 = .ok (.getfield 9, 3) := by decide +kernel
theorem dX5_next_19 : decode cX5_next 19 = .ok (.arraylength, 1) := by decide +kernel
theorem dX5_next_20 : decode cX5_next 20 = .ok (.if_icmp .ge 15, 3) := by decide +kernel
theorem dX5_next_23 : decode cX5_next 23 = .ok (.aload_n 0, 1) := by decide +kernel
theorem dX5_next_24 : decode cX5_next 24 = .ok (.getfield 9, 3) := by decide +kernel
theorem dX5_next_27 : decode cX5_next 27 = .ok (.aload_n 0, 1) := by decide +kernel
theorem dX5_next_28 : decode cX5_next 28 = .ok (.getfield 19, 3) := by decide +kernel
theorem dX5_next_31 : decode cX5_next 31 = .ok (.caload, 1) := by decide +kernel
theorem dX5_next_32 : decode cX5_next 32 = .ok (.goto 4, 3) := by decide +kernel
theorem dX5_next_35 : decode cX5_next 35 = .ok (.iconst (-1), 1) := by decide +kernel
theorem dX5_next_36 : decode cX5_next 36 = .ok (.ireturn, 1) := by decide +kernel
theorem dX5_nextIsOneOf_0 : decode cX5_nextIsOneOf 0 = .ok (.aload_n 0, 1) := by decide +kernel
theorem dX5_nextIsOneOf_1 : decode cX5_nextIsOneOf 1 = .ok (.invokevirtual 46, 3) := by decide +kernel
theorem dX5_nextIsOneOf_4 : decode cX5_nextIsOneOf 4 = .ok (.istore_n 2, 1) := by decide +kernel
theorem dX5_nextIsOneOf_5 : decode cX5_nextIsOneOf 5 = .ok (.iload_n 2, 1) := by decide +kernel
theorem dX5_nextIsOneOf_6 : decode cX5_nextIsOneOf 6 = .ok (.iconst (-1), 1) := by decide +kernel
theorem dX5_nextIsOneOf_7 : decode cX5_nextIsOneOf 7 = .ok (.if_icmp .eq 16, 3) := by decide +kernel
theorem dX5_nextIsOneOf_10 : decode cX5_nextIsOneOf 10 = .ok (.aload_n 1, 1) := by decide +kernel
theorem dX5_nextIsOneOf_11 : decode cX5_nextIsOneOf 11 = .ok (.iload_n 2, 1) := by decide +kernel
theorem dX5_nextIsOneOf_12 : decode cX5_nextIsOneOf 12 = .ok (.i2c, 1) := by decide +kernel
theorem dX5_nextIsOneOf_13 : decode cX5_nextIsOneOf 13 = .ok (.invokevirtual 50, 3) := by decide +kernel
theorem dX5_nextIsOneOf_16 : decode cX5_nextIsOneOf 16 = .ok (.ifCond .lt 7, 3) := by decide +kernel
theorem dX5_nextIsOneOf_19 : decode cX5_nextIsOneOf 19 = .ok (.iconst 1, 1) := by decide +kernel
theorem dX5_nextIsOneOf_20 : decode cX5_nextIsOneOf 20 = .ok (.goto 4, 3) := by decide +kernel
theorem dX5_nextIsOneOf_23 : decode cX5_nextIsOneOf 23 = .ok (.iconst 0, 1) := by decide +kernel
theorem dX5_nextIsOneOf_24 : decode cX5_nextIsOneOf 24 = .ok (.ireturn, 1) := by decide +kernel
theorem dX5_take_0 : decode cX5_take 0 = .ok (.aload_n 0, 1) := by decide +kernel
theorem dX5_take_1 : decode cX5_take 1 = .ok (.invokevirtual 46, 3) := by decide +kernel
theorem dX5_take_4 : decode cX5_take 4 = .ok (.iload_n 1, 1) := by decide +kernel
theorem dX5_take_5 : decode cX5_take 5 = .ok (.if_icmp .eq 7, 3) := by decide +kernel
theorem dX5_take_8 : decode cX5_take 8 = .ok (.aload_n 0, 1) := by decide +kernel
theorem dX5_take_9 : decode cX5_take 9 = .ok (.invokevirtual 36, 3) := by decide +kernel
theorem dX5_take_12 : decode cX5_take 12 = .ok (.aload_n 0, 1) := by decide +kernel
theorem dX5_take_13 : decode cX5_take 13 = .ok (.dup, 1) := by decide +kernel
theorem dX5_take_14 : decode cX5_take 14 = .ok (.getfield 19, 3) := by decide +kernel
theorem dX5_take_17 : decode cX5_take 17 = .ok (.iconst 1, 1) := by decide +kernel
theorem dX5_take_18 : decode cX5_take 18 = .ok (.iadd, 1) := by decide +kernel
theorem dX5_take_19 : decode cX5_take 19 = .ok (.putfield 19, 3) := by decide +kernel
theorem dX5_take_22 : decode cX5_take 22 = .ok (.return_, 1) := by decide +kernel
theorem dX5_open_0 : decode cX5_open 0 = .ok (.iload_n 2, 1) := by decide +kernel
theorem dX5_open_1 : decode cX5_open 1 = .ok (.iconst 4, 1) := by decide +kernel
theorem dX5_open_2 : decode cX5_open 2 = .ok (.if_icmp .lt 7, 3) := by decide +kernel
theorem dX5_open_5 : decode cX5_open 5 = .ok (.aload_n 0, 1) := by decide +kernel
theorem dX5_open_6 : decode cX5_open 6 = .ok (.invokevirtual 36, 3) := by decide +kernel
theorem dX5_open_9 : decode cX5_open 9 = .ok (.aload_n 0, 1) := by decide +kernel
theorem dX5_open_10 : decode cX5_open 10 = .ok (.iload_n 1, 1) := by decide +kernel
theorem dX5_open_11 : decode cX5_open 11 = .ok (.invokevirtual 56, 3) := by decide +kernel
theorem dX5_open_14 : decode cX5_open 14 = .ok (.iload_n 2, 1) := by decide +kernel
theorem dX5_open_15 : decode cX5_open 15 = .ok (.iconst 1, 1) := by decide +kernel
theorem dX5_open_16 : decode cX5_open 16 = .ok (.iadd, 1) := by decide +kernel
theorem dX5_open_17 : decode cX5_open 17 = .ok (.ireturn, 1) := by decide +kernel
theorem dX5_row_0 : decode cX5_row 0 = .ok (.iconst 0, 1) := by decide +kernel
theorem dX5_row_1 : decode cX5_row 1 = .ok (.istore_n 2, 1) := by decide +kernel
theorem dX5_row_2 : decode cX5_row 2 = .ok (.iload_n 2, 1) := by decide +kernel
theorem dX5_row_3 : decode cX5_row 3 = .ok (.bipush 60, 2) := by decide +kernel
theorem dX5_row_5 : decode cX5_row 5 = .ok (.if_icmp .ge 34, 3) := by decide +kernel
theorem dX5_row_8 : decode cX5_row 8 = .ok (.aload_n 0, 1) := by decide +kernel
theorem dX5_row_9 : decode cX5_row 9 = .ok (.getfield 19, 3) := by decide +kernel
theorem dX5_row_12 : decode cX5_row 12 = .ok (.aload_n 0, 1) := by decide +kernel
theorem dX5_row_13 : decode cX5_row 13 = .ok (.getfield 15, 3) := by decide +kernel
theorem dX5_row_16 : decode cX5_row 16 = .ok (.if_icmp .ge 23, 3) := by decide +kernel
theorem dX5_row_19 : decode cX5_row 19 = .ok (.aload_n 0, 1) := by decide +kernel
theorem dX5_row_20 : decode cX5_row 20 = .ok (.invokevirtual 46, 3) := by decide +kernel
theorem dX5_row_23 : decode cX5_row 23 = .ok (.bipush 125, 2) := by decide +kernel
theorem dX5_row_25 : decode cX5_row 25 = .ok (.if_icmp .eq 14, 3) := by decide +kernel
theorem dX5_row_28 : decode cX5_row 28 = .ok (.aload_n 0, 1) := by decide +kernel
theorem dX5_row_29 : decode cX5_row 29 = .ok (.iload_n 1, 1) := by decide +kernel
theorem dX5_row_30 : decode cX5_row 30 = .ok (.invokevirtual 60, 3) := by decide +kernel
theorem dX5_row_33 : decode cX5_row 33 = .ok (.iinc 2 1, 3) := by decide +kernel
theorem dX5_row_36 : decode cX5_row 36 = .ok (.goto (-34), 3) := by decide +kernel
theorem dX5_row_39 : decode cX5_row 39 = .ok (.return_, 1) := by decide +kernel
theorem dX5_statement_0 : decode cX5_statement 0 = .ok (.aload_n 0, 1) := by decide +kernel
theorem dX5_statement_1 : decode cX5_statement 1 = .ok (.getfield 25, 3) := by decide +kernel
theorem dX5_statement_4 : decode cX5_statement 4 = .ok (.iconst 4, 1) := by decide +kernel
theorem dX5_statement_5 : decode cX5_statement 5 = .ok (.aload_n 0, 1) := by decide +kernel
theorem dX5_statement_6 : decode cX5_statement 6 = .ok (.getfield 19, 3) := by decide +kernel
theorem dX5_statement_9 : decode cX5_statement 9 = .ok (.iconst 0, 1) := by decide +kernel
theorem dX5_statement_10 : decode cX5_statement 10 = .ok (.invokevirtual 63, 3) := by decide +kernel
theorem dX5_statement_13 : decode cX5_statement 13 = .ok (.istore_n 2, 1) := by decide +kernel
theorem dX5_statement_14 : decode cX5_statement 14 = .ok (.aload_n 0, 1) := by decide +kernel
theorem dX5_statement_15 : decode cX5_statement 15 = .ok (.invokevirtual 46, 3) := by decide +kernel
theorem dX5_statement_18 : decode cX5_statement 18 = .ok (.lookupswitch 108 #[(33, 58), (63, 42), (64, 50), (94, 83)], 42) := by decide +kernel
theorem dX5_statement_60 : decode cX5_statement 60 = .ok (.aload_n 0, 1) := by decide +kernel
theorem dX5_statement_61 : decode cX5_statement 61 = .ok (.iload_n 1, 1) := by decide +kernel
theorem dX5_statement_62 : decode cX5_statement 62 = .ok (.invokevirtual 67, 3) := by decide +kernel
theorem dX5_statement_65 : decode cX5_statement 65 = .ok (.goto 66, 3) := by decide +kernel
theorem dX5_statement_68 : decode cX5_statement 68 = .ok (.aload_n 0, 1) := by decide +kernel
theorem dX5_statement_69 : decode cX5_statement 69 = .ok (.iload_n 1, 1) := by decide +kernel
theorem dX5_statement_70 : decode cX5_statement 70 = .ok (.invokevirtual 70, 3) := by decide +kernel
theorem dX5_statement_73 : decode cX5_statement 73 = .ok (.goto 58, 3) := by decide +kernel
theorem dX5_statement_76 : decode cX5_statement 76 = .ok (.aload_n 0, 1) := by decide +kernel
theorem dX5_statement_77 : decode cX5_statement 77 = .ok (.dup, 1) := by decide +kernel
theorem dX5_statement_78 : decode cX5_statement 78 = .ok (.getfield 19, 3) := by decide +kernel
theorem dX5_statement_81 : decode cX5_statement 81 = .ok (.iconst 1, 1) := by decide +kernel
theorem dX5_statement_82 : decode cX5_statement 82 = .ok (.iadd, 1) := by decide +kernel
theorem dX5_statement_83 : decode cX5_statement 83 = .ok (.putfield 19, 3) := by decide +kernel
theorem dX5_statement_86 : decode cX5_statement 86 = .ok (.aload_n 0, 1) := by decide +kernel
theorem dX5_statement_87 : decode cX5_statement 87 = .ok (.iload_n 1, 1) := by decide +kernel
theorem dX5_statement_88 : decode cX5_statement 88 = .ok (.invokevirtual 73, 3) := by decide +kernel
theorem dX5_statement_91 : decode cX5_statement 91 = .ok (.aload_n 0, 1) := by decide +kernel
theorem dX5_statement_92 : decode cX5_statement 92 = .ok (.bipush 8, 2) := by decide +kernel
theorem dX5_statement_94 : decode cX5_statement 94 = .ok (.iconst 0, 1) := by decide +kernel
theorem dX5_statement_95 : decode cX5_statement 95 = .ok (.invokevirtual 76, 3) := by decide +kernel
theorem dX5_statement_98 : decode cX5_statement 98 = .ok (.goto 33, 3) := by decide +kernel
theorem dX5_statement_101 : decode cX5_statement 101 = .ok (.aload_n 0, 1) := by decide +kernel
theorem dX5_statement_102 : decode cX5_statement 102 = .ok (.dup, 1) := by decide +kernel
theorem dX5_statement_103 : decode cX5_statement 103 = .ok (.getfield 19, 3) := by decide +kernel
theorem dX5_statement_106 : decode cX5_statement 106 = .ok (.iconst 1, 1) := by decide +kernel
theorem dX5_statement_107 : decode cX5_statement 107 = .ok (.iadd, 1) := by decide +kernel
theorem dX5_statement_108 : decode cX5_statement 108 = .ok (.putfield 19, 3) := by decide +kernel
theorem dX5_statement_111 : decode cX5_statement 111 = .ok (.aload_n 0, 1) := by decide +kernel
theorem dX5_statement_112 : decode cX5_statement 112 = .ok (.iload_n 1, 1) := by decide +kernel
theorem dX5_statement_113 : decode cX5_statement 113 = .ok (.invokevirtual 80, 3) := by decide +kernel
theorem dX5_statement_116 : decode cX5_statement 116 = .ok (.aload_n 0, 1) := by decide +kernel
theorem dX5_statement_117 : decode cX5_statement 117 = .ok (.bipush 9, 2) := by decide +kernel
theorem dX5_statement_119 : decode cX5_statement 119 = .ok (.iconst 0, 1) := by decide +kernel
theorem dX5_statement_120 : decode cX5_statement 120 = .ok (.invokevirtual 76, 3) := by decide +kernel
theorem dX5_statement_123 : decode cX5_statement 123 = .ok (.goto 8, 3) := by decide +kernel
theorem dX5_statement_126 : decode cX5_statement 126 = .ok (.aload_n 0, 1) := by decide +kernel
theorem dX5_statement_127 : decode cX5_statement 127 = .ok (.iload_n 1, 1) := by decide +kernel
theorem dX5_statement_128 : decode cX5_statement 128 = .ok (.invokevirtual 83, 3) := by decide +kernel
theorem dX5_statement_131 : decode cX5_statement 131 = .ok (.aload_n 0, 1) := by decide +kernel
theorem dX5_statement_132 : decode cX5_statement 132 = .ok (.getfield 25, 3) := by decide +kernel
theorem dX5_statement_135 : decode cX5_statement 135 = .ok (.iload_n 2, 1) := by decide +kernel
theorem dX5_statement_136 : decode cX5_statement 136 = .ok (.invokevirtual 86, 3) := by decide +kernel
theorem dX5_statement_139 : decode cX5_statement 139 = .ok (.return_, 1) := by decide +kernel
theorem dX5_endPlain_0 : decode cX5_endPlain 0 = .ok (.aload_n 0, 1) := by decide +kernel
theorem dX5_endPlain_1 : decode cX5_endPlain 1 = .ok (.bipush 59, 2) := by decide +kernel
theorem dX5_endPlain_3 : decode cX5_endPlain 3 = .ok (.invokevirtual 56, 3) := by decide +kernel
theorem dX5_endPlain_6 : decode cX5_endPlain 6 = .ok (.aload_n 0, 1) := by decide +kernel
theorem dX5_endPlain_7 : decode cX5_endPlain 7 = .ok (.getfield 25, 3) := by decide +kernel
theorem dX5_endPlain_10 : decode cX5_endPlain 10 = .ok (.iload_n 1, 1) := by decide +kernel
theorem dX5_endPlain_11 : decode cX5_endPlain 11 = .ok (.aload_n 0, 1) := by decide +kernel
theorem dX5_endPlain_12 : decode cX5_endPlain 12 = .ok (.getfield 19, 3) := by decide +kernel
theorem dX5_endPlain_15 : decode cX5_endPlain 15 = .ok (.iload_n 2, 1) := by decide +kernel
theorem dX5_endPlain_16 : decode cX5_endPlain 16 = .ok (.invokevirtual 63, 3) := by decide +kernel
theorem dX5_endPlain_19 : decode cX5_endPlain 19 = .ok (.pop, 1) := by decide +kernel
theorem dX5_endPlain_20 : decode cX5_endPlain 20 = .ok (.return_, 1) := by decide +kernel
theorem dX5_assignment_0 : decode cX5_assignment 0 = .ok (.aload_n 0, 1) := by decide +kernel
theorem dX5_assignment_1 : decode cX5_assignment 1 = .ok (.invokevirtual 89, 3) := by decide +kernel
theorem dX5_assignment_4 : decode cX5_assignment 4 = .ok (.istore_n 2, 1) := by decide +kernel
theorem dX5_assignment_5 : decode cX5_assignment 5 = .ok (.iload_n 2, 1) := by decide +kernel
theorem dX5_assignment_6 : decode cX5_assignment 6 = .ok (.bipush 6, 2) := by decide +kernel
theorem dX5_assignment_8 : decode cX5_assignment 8 = .ok (.if_icmp .lt 7, 3) := by decide +kernel
theorem dX5_assignment_11 : decode cX5_assignment 11 = .ok (.aload_n 0, 1) := by decide +kernel
theorem dX5_assignment_12 : decode cX5_assignment 12 = .ok (.invokevirtual 36, 3) := by decide +kernel
theorem dX5_assignment_15 : decode cX5_assignment 15 = .ok (.aload_n 0, 1) := by decide +kernel
theorem dX5_assignment_16 : decode cX5_assignment 16 = .ok (.bipush 61, 2) := by decide +kernel
theorem dX5_assignment_18 : decode cX5_assignment 18 = .ok (.invokevirtual 56, 3) := by decide +kernel
theorem dX5_assignment_21 : decode cX5_assignment 21 = .ok (.aload_n 0, 1) := by decide +kernel
theorem dX5_assignment_22 : decode cX5_assignment 22 = .ok (.iload_n 1, 1) := by decide +kernel
theorem dX5_assignment_23 : decode cX5_assignment 23 = .ok (.invokevirtual 80, 3) := by decide +kernel
theorem dX5_assignment_26 : decode cX5_assignment 26 = .ok (.aload_n 0, 1) := by decide +kernel
theorem dX5_assignment_27 : decode cX5_assignment 27 = .ok (.bipush 7, 2) := by decide +kernel
theorem dX5_assignment_29 : decode cX5_assignment 29 = .ok (.iload_n 2, 1) := by decide +kernel
theorem dX5_assignment_30 : decode cX5_assignment 30 = .ok (.invokevirtual 76, 3) := by decide +kernel
theorem dX5_assignment_33 : decode cX5_assignment 33 = .ok (.return_, 1) := by decide +kernel
theorem dX5_branch_0 : decode cX5_branch 0 = .ok (.aload_n 0, 1) := by decide +kernel
theorem dX5_branch_1 : decode cX5_branch 1 = .ok (.dup, 1) := by decide +kernel
theorem dX5_branch_2 : decode cX5_branch 2 = .ok (.getfield 19, 3) := by decide +kernel
theorem dX5_branch_5 : decode cX5_branch 5 = .ok (.iconst 1, 1) := by decide +kernel
theorem dX5_branch_6 : decode cX5_branch 6 = .ok (.iadd, 1) := by decide +kernel
theorem dX5_branch_7 : decode cX5_branch 7 = .ok (.putfield 19, 3) := by decide +kernel
theorem dX5_branch_10 : decode cX5_branch 10 = .ok (.aload_n 0, 1) := by decide +kernel
theorem dX5_branch_11 : decode cX5_branch 11 = .ok (.iload_n 1, 1) := by decide +kernel
theorem dX5_branch_12 : decode cX5_branch 12 = .ok (.invokevirtual 73, 3) := by decide +kernel
theorem dX5_branch_15 : decode cX5_branch 15 = .ok (.aload_n 0, 1) := by decide +kernel
theorem dX5_branch_16 : decode cX5_branch 16 = .ok (.getfield 25, 3) := by decide +kernel
theorem dX5_branch_19 : decode cX5_branch 19 = .ok (.bipush 10, 2) := by decide +kernel
theorem dX5_branch_21 : decode cX5_branch 21 = .ok (.aload_n 0, 1) := by decide +kernel
theorem dX5_branch_22 : decode cX5_branch 22 = .ok (.getfield 19, 3) := by decide +kernel
theorem dX5_branch_25 : decode cX5_branch 25 = .ok (.iconst 0, 1) := by decide +kernel
theorem dX5_branch_26 : decode cX5_branch 26 = .ok (.invokevirtual 63, 3) := by decide +kernel
theorem dX5_branch_29 : decode cX5_branch 29 = .ok (.istore_n 2, 1) := by decide +kernel
theorem dX5_branch_30 : decode cX5_branch 30 = .ok (.aload_n 0, 1) := by decide +kernel
theorem dX5_branch_31 : decode cX5_branch 31 = .ok (.iload_n 1, 1) := by decide +kernel
theorem dX5_branch_32 : decode cX5_branch 32 = .ok (.invokevirtual 92, 3) := by decide +kernel
theorem dX5_branch_35 : decode cX5_branch 35 = .ok (.aload_n 0, 1) := by decide +kernel
theorem dX5_branch_36 : decode cX5_branch 36 = .ok (.getfield 25, 3) := by decide +kernel
theorem dX5_branch_39 : decode cX5_branch 39 = .ok (.bipush 11, 2) := by decide +kernel
theorem dX5_branch_41 : decode cX5_branch 41 = .ok (.aload_n 0, 1) := by decide +kernel
theorem dX5_branch_42 : decode cX5_branch 42 = .ok (.getfield 19, 3) := by decide +kernel
theorem dX5_branch_45 : decode cX5_branch 45 = .ok (.iconst 0, 1) := by decide +kernel
theorem dX5_branch_46 : decode cX5_branch 46 = .ok (.invokevirtual 63, 3) := by decide +kernel
theorem dX5_branch_49 : decode cX5_branch 49 = .ok (.istore_n 3, 1) := by decide +kernel
theorem dX5_branch_50 : decode cX5_branch 50 = .ok (.aload_n 0, 1) := by decide +kernel
theorem dX5_branch_51 : decode cX5_branch 51 = .ok (.getfield 25, 3) := by decide +kernel
theorem dX5_branch_54 : decode cX5_branch 54 = .ok (.iload_n 2, 1) := by decide +kernel
theorem dX5_branch_55 : decode cX5_branch 55 = .ok (.invokevirtual 86, 3) := by decide +kernel
theorem dX5_branch_58 : decode cX5_branch 58 = .ok (.aload_n 0, 1) := by decide +kernel
theorem dX5_branch_59 : decode cX5_branch 59 = .ok (.invokevirtual 46, 3) := by decide +kernel
theorem dX5_branch_62 : decode cX5_branch 62 = .ok (.bipush 123, 2) := by decide +kernel
