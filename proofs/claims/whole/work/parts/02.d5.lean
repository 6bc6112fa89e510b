theorem dX12_findUnlike_60 : decode cX12_findUnlike 60 = .ok (.ifCond .eq 6, 3) := by decide +kernel
theorem dX12_findUnlike_63 : decode cX12_findUnlike 63 = .ok (.goto 28, 3) := by decide +kernel
theorem dX12_findUnlike_66 : decode cX12_findUnlike 66 = .ok (.aload_n 0, 1) := by decide +kernel
theorem dX12_findUnlike_67 : decode cX12_findUnlike 67 = .ok (.getfield 72, 3) := by decide +kernel
theorem dX12_findUnlike_70 : decode cX12_findUnlike 70 = .ok (.aload_n 0, 1) := by decide +kernel
theorem dX12_findUnlike_71 : decode cX12_findUnlike 71 = .ok (.getfield 185, 3) := by decide +kernel
theorem dX12_findUnlike_74 : decode cX12_findUnlike 74 = .ok (.aload_n 0, 1) := by decide +kernel
theorem dX12_findUnlike_75 : decode cX12_findUnlike 75 = .ok (.getfield 62, 3) := by decide +kernel
theorem dX12_findUnlike_78 : decode cX12_findUnlike 78 = .ok (.iload_n 1, 1) := by decide +kernel
theorem dX12_findUnlike_79 : decode cX12_findUnlike 79 = .ok (.laload, 1) := by decide +kernel
theorem dX12_findUnlike_80 : decode cX12_findUnlike 80 = .ok (.lastore, 1) := by decide +kernel
theorem dX12_findUnlike_81 : decode cX12_findUnlike 81 = .ok (.aload_n 0, 1) := by decide +kernel
theorem dX12_findUnlike_82 : decode cX12_findUnlike 82 = .ok (.dup, 1) := by decide +kernel
theorem dX12_findUnlike_83 : decode cX12_findUnlike 83 = .ok (.getfield 185, 3) := by decide +kernel
theorem dX12_findUnlike_86 : decode cX12_findUnlike 86 = .ok (.iconst 1, 1) := by decide +kernel
theorem dX12_findUnlike_87 : decode cX12_findUnlike 87 = .ok (.iadd, 1) := by decide +kernel
theorem dX12_findUnlike_88 : decode cX12_findUnlike 88 = .ok (.putfield 185, 3) := by decide +kernel
theorem dX12_findUnlike_91 : decode cX12_findUnlike 91 = .ok (.iinc 1 1, 3) := by decide +kernel
theorem dX12_findUnlike_94 : decode cX12_findUnlike 94 = .ok (.goto (-87), 3) := by decide +kernel
theorem dX12_findUnlike_97 : decode cX12_findUnlike 97 = .ok (.return_, 1) := by decide +kernel
theorem dX12_unlike_0 : decode cX12_unlike 0 = .ok (.aload_n 0, 1) := by decide +kernel
theorem dX12_unlike_1 : decode cX12_unlike 1 = .ok (.getfield 170, 3) := by decide +kernel
theorem dX12_unlike_4 : decode cX12_unlike 4 = .ok (.ifCond .ne 10, 3) := by decide +kernel
theorem dX12_unlike_7 : decode cX12_unlike 7 = .ok (.aload_n 0, 1) := by decide +kernel
theorem dX12_unlike_8 : decode cX12_unlike 8 = .ok (.bipush (-5), 2) := by decide +kernel
theorem dX12_unlike_10 : decode cX12_unlike 10 = .ok (.invokevirtual 91, 3) := by decide +kernel
theorem dX12_unlike_13 : decode cX12_unlike 13 = .ok (.ireturn, 1) := by decide +kernel
theorem dX12_unlike_14 : decode cX12_unlike 14 = .ok (.aload_n 0, 1) := by decide +kernel
theorem dX12_unlike_15 : decode cX12_unlike 15 = .ok (.invokevirtual 188, 3) := by decide +kernel
theorem dX12_unlike_18 : decode cX12_unlike 18 = .ok (.aload_n 0, 1) := by decide +kernel
theorem dX12_unlike_19 : decode cX12_unlike 19 = .ok (.getfield 185, 3) := by decide +kernel
theorem dX12_unlike_22 : decode cX12_unlike 22 = .ok (.ireturn, 1) := by decide +kernel
theorem dX12_part_0 : decode cX12_part 0 = .ok (.aload_n 0, 1) := by decide +kernel
theorem dX12_part_1 : decode cX12_part 1 = .ok (.iload_n 1, 1) := by decide +kernel
theorem dX12_part_2 : decode cX12_part 2 = .ok (.invokevirtual 176, 3) := by decide +kernel
theorem dX12_part_5 : decode cX12_part 5 = .ok (.ifCond .eq 11, 3) := by decide +kernel
theorem dX12_part_8 : decode cX12_part 8 = .ok (.aload_n 0, 1) := by decide +kernel
theorem dX12_part_9 : decode cX12_part 9 = .ok (.iload_n 1, 1) := by decide +kernel
theorem dX12_part_10 : decode cX12_part 10 = .ok (.invokevirtual 176, 3) := by decide +kernel
theorem dX12_part_13 : decode cX12_part 13 = .ok (.goto 8, 3) := by decide +kernel
theorem dX12_part_16 : decode cX12_part 16 = .ok (.aload_n 0, 1) := by decide +kernel
theorem dX12_part_17 : decode cX12_part 17 = .ok (.iload_n 2, 1) := by decide +kernel
theorem dX12_part_18 : decode cX12_part 18 = .ok (.invokevirtual 176, 3) := by decide +kernel
theorem dX12_part_21 : decode cX12_part 21 = .ok (.istore_n 3, 1) := by decide +kernel
theorem dX12_part_22 : decode cX12_part 22 = .ok (.iload_n 3, 1) := by decide +kernel
theorem dX12_part_23 : decode cX12_part 23 = .ok (.ifCond .eq 9, 3) := by decide +kernel
theorem dX12_part_26 : decode cX12_part 26 = .ok (.aload_n 0, 1) := by decide +kernel
theorem dX12_part_27 : decode cX12_part 27 = .ok (.iload_n 3, 1) := by decide +kernel
theorem dX12_part_28 : decode cX12_part 28 = .ok (.invokevirtual 91, 3) := by decide +kernel
theorem dX12_part_31 : decode cX12_part 31 = .ok (.ireturn, 1) := by decide +kernel
theorem dX12_part_32 : decode cX12_part 32 = .ok (.iconst 0, 1) := by decide +kernel
theorem dX12_part_33 : decode cX12_part 33 = .ok (.istore 4, 2) := by decide +kernel
theorem dX12_part_35 : decode cX12_part 35 = .ok (.iload 4, 2) := by decide +kernel
theorem dX12_part_37 : decode cX12_part 37 = .ok (.bipush 32, 2) := by decide +kernel
theorem dX12_part_39 : decode cX12_part 39 = .ok (.if_icmp .ge 29, 3) := by decide +kernel
theorem dX12_part_42 : decode cX12_part 42 = .ok (.aload_n 0, 1) := by decide +kernel
theorem dX12_part_43 : decode cX12_part 43 = .ok (.iload_n 1, 1) := by decide +kernel
theorem dX12_part_44 : decode cX12_part 44 = .ok (.iload 4, 2) := by decide +kernel
theorem dX12_part_46 : decode cX12_part 46 = .ok (.invokevirtual 179, 3) := by decide +kernel
theorem dX12_part_49 : decode cX12_part 49 = .ok (.aload_n 0, 1) := by decide +kernel
theorem dX12_part_50 : decode cX12_part 50 = .ok (.iload_n 2, 1) := by decide +kernel
theorem dX12_part_51 : decode cX12_part 51 = .ok (.iload 4, 2) := by decide +kernel
theorem dX12_part_53 : decode cX12_part 53 = .ok (.invokevirtual 179, 3) := by decide +kernel
theorem dX12_part_56 : decode cX12_part 56 = .ok (.if_icmp .eq 6, 3) := by decide +kernel
theorem dX12_part_59 : decode cX12_part 59 = .ok (.iload 4, 2) := by decide +kernel
theorem dX12_part_61 : decode cX12_part 61 = .ok (.ireturn, 1) := by decide +kernel
theorem dX12_part_62 : decode cX12_part 62 = .ok (.iinc 4 1, 3) := by decide +kernel
theorem dX12_part_65 : decode cX12_part 65 = .ok (.goto (-30), 3) := by decide +kernel
theorem dX12_part_68 : decode cX12_part 68 = .ok (.bipush (-9), 2) := by decide +kernel
theorem dX12_part_70 : decode cX12_part 70 = .ok (.ireturn, 1) := by decide +kernel
theorem dX12_idle_0 : decode cX12_idle 0 = .ok (.aload_n 0, 1) := by decide +kernel
theorem dX12_idle_1 : decode cX12_idle 1 = .ok (.iload_n 1, 1) := by decide +kernel
theorem dX12_idle_2 : decode cX12_idle 2 = .ok (.invokevirtual 176, 3) := by decide +kernel
theorem dX12_idle_5 : decode cX12_idle 5 = .ok (.istore_n 2, 1) := by decide +kernel
theorem dX12_idle_6 : decode cX12_idle 6 = .ok (.iload_n 2, 1) := by decide +kernel
theorem dX12_idle_7 : decode cX12_idle 7 = .ok (.ifCond .eq 11, 3) := by decide +kernel
theorem dX12_idle_10 : decode cX12_idle 10 = .ok (.aload_n 0, 1) := by decide +kernel
theorem dX12_idle_11 : decode cX12_idle 11 = .ok (.iload_n 2, 1) := by decide +kernel
theorem dX12_idle_12 : decode cX12_idle 12 = .ok (.invokevirtual 91, 3) := by decide +kernel
theorem dX12_idle_15 : decode cX12_idle 15 = .ok (.goto 9, 3) := by decide +kernel
theorem dX12_idle_18 : decode cX12_idle 18 = .ok (.aload_n 0, 1) := by decide +kernel
theorem dX12_idle_19 : decode cX12_idle 19 = .ok (.getfield 59, 3) := by decide +kernel
theorem dX12_idle_22 : decode cX12_idle 22 = .ok (.iload_n 1, 1) := by decide +kernel
theorem dX12_idle_23 : decode cX12_idle 23 = .ok (.iaload, 1) := by decide +kernel
theorem dX12_idle_24 : decode cX12_idle 24 = .ok (.ireturn, 1) := by decide +kernel
theorem dX12_needless_0 : decode cX12_needless 0 = .ok (.aload_n 0, 1) := by decide +kernel
theorem dX12_needless_1 : decode cX12_needless 1 = .ok (.getfield 170, 3) := by decide +kernel
theorem dX12_needless_4 : decode cX12_needless 4 = .ok (.ifCond .ne 10, 3) := by decide +kernel
theorem dX12_needless_7 : decode cX12_needless 7 = .ok (.aload_n 0, 1) := by decide +kernel
theorem dX12_needless_8 : decode cX12_needless 8 = .ok (.bipush (-5), 2) := by decide +kernel
theorem dX12_needless_10 : decode cX12_needless 10 = .ok (.invokevirtual 91, 3) := by decide +kernel
theorem dX12_needless_13 : decode cX12_needless 13 = .ok (.ireturn, 1) := by decide +kernel
theorem dX12_needless_14 : decode cX12_needless 14 = .ok (.aload_n 0, 1) := by decide +kernel
theorem dX12_needless_15 : decode cX12_needless 15 = .ok (.getfield 59, 3) := by decide +kernel
theorem dX12_needless_18 : decode cX12_needless 18 = .ok (.iconst 0, 1) := by decide +kernel
theorem dX12_needless_19 : decode cX12_needless 19 = .ok (.iaload, 1) := by decide +kernel
theorem dX12_needless_20 : decode cX12_needless 20 = .ok (.istore_n 1, 1) := by decide +kernel
theorem dX12_needless_21 : decode cX12_needless 21 = .ok (.iconst 1, 1) := by decide +kernel
theorem dX12_needless_22 : decode cX12_needless 22 = .ok (.istore_n 2, 1) := by decide +kernel
theorem dX12_needless_23 : decode cX12_needless 23 = .ok (.iload_n 2, 1) := by decide +kernel
theorem dX12_needless_24 : decode cX12_needless 24 = .ok (.aload_n 0, 1) := by decide +kernel
theorem dX12_needless_25 : decode cX12_needless 25 = .ok (.getfield 129, 3) := by decide +kernel
theorem dX12_needless_28 : decode cX12_needless 28 = .ok (.if_icmp .ge 18, 3) := by decide +kernel
theorem dX12_needless_31 : decode cX12_needless 31 = .ok (.iload_n 1, 1) := by decide +kernel
theorem dX12_needless_32 : decode cX12_needless 32 = .ok (.aload_n 0, 1) := by decide +kernel
theorem dX12_needless_33 : decode cX12_needless 33 = .ok (.getfield 59, 3) := by decide +kernel
theorem dX12_needless_36 : decode cX12_needless 36 = .ok (.iload_n 2, 1) := by decide +kernel
theorem dX12_needless_37 : decode cX12_needless 37 = .ok (.iaload, 1) := by decide +kernel
theorem dX12_needless_38 : decode cX12_needless 38 = .ok (.iand, 1) := by decide +kernel
theorem dX12_needless_39 : decode cX12_needless 39 = .ok (.istore_n 1, 1) := by decide +kernel
theorem dX12_needless_40 : decode cX12_needless 40 = .ok (.iinc 2 1, 3) := by decide +kernel
theorem dX12_needless_43 : decode cX12_needless 43 = .ok (.goto (-20), 3) := by decide +kernel
theorem dX12_needless_46 : decode cX12_needless 46 = .ok (.iload_n 1, 1) := by decide +kernel
theorem dX12_needless_47 : decode cX12_needless 47 = .ok (.ireturn, 1) := by decide +kernel
theorem dX12_meets_0 : decode cX12_meets 0 = .ok (.aload_n 0, 1) := by decide +kernel
theorem dX12_meets_1 : decode cX12_meets 1 = .ok (.iload_n 1, 1) := by decide +kernel
theorem dX12_meets_2 : decode cX12_meets 2 = .ok (.invokevirtual 176, 3) := by decide +kernel
theorem dX12_meets_5 : decode cX12_meets 5 = .ok (.istore_n 3, 1) := by decide +kernel
theorem dX12_meets_6 : decode cX12_meets 6 = .ok (.iload_n 3, 1) := by decide +kernel
theorem dX12_meets_7 : decode cX12_meets 7 = .ok (.ifCond .ne 14, 3) := by decide +kernel
theorem dX12_meets_10 : decode cX12_meets 10 = .ok (.iload_n 2, 1) := by decide +kernel
theorem dX12_meets_11 : decode cX12_meets 11 = .ok (.bipush 6, 2) := by decide +kernel
theorem dX12_meets_13 : decode cX12_meets 13 = .ok (.invokestatic 111, 3) := by decide +kernel
theorem dX12_meets_16 : decode cX12_meets 16 = .ok (.ifCond .ne 5, 3) := by decide +kernel
theorem dX12_meets_19 : decode cX12_meets 19 = .ok (.iconst (-1), 1) := by decide +kernel
theorem dX12_meets_20 : decode cX12_meets 20 = .ok (.istore_n 3, 1) := by decide +kernel
theorem dX12_meets_21 : decode cX12_meets 21 = .ok (.iload_n 3, 1) := by decide +kernel
theorem dX12_meets_22 : decode cX12_meets 22 = .ok (.ifCond .eq 11, 3) := by decide +kernel
theorem dX12_meets_25 : decode cX12_meets 25 = .ok (.aload_n 0, 1) := by decide +kernel
theorem dX12_meets_26 : decode cX12_meets 26 = .ok (.iload_n 3, 1) := by decide +kernel
theorem dX12_meets_27 : decode cX12_meets 27 = .ok (.invokevirtual 91, 3) := by decide +kernel
theorem dX12_meets_30 : decode cX12_meets 30 = .ok (.goto 13, 3) := by decide +kernel
theorem dX12_meets_33 : decode cX12_meets 33 = .ok (.aload_n 0, 1) := by decide +kernel
theorem dX12_meets_34 : decode cX12_meets 34 = .ok (.getfield 56, 3) := by decide +kernel
theorem dX12_meets_37 : decode cX12_meets 37 = .ok (.iload_n 1, 1) := by decide +kernel
theorem dX12_meets_38 : decode cX12_meets 38 = .ok (.iaload, 1) := by decide +kernel
theorem dX12_meets_39 : decode cX12_meets 39 = .ok (.iload_n 2, 1) := by decide +kernel
theorem dX12_meets_40 : decode cX12_meets 40 = .ok (.ishr, 1) := by decide +kernel
theorem dX12_meets_41 : decode cX12_meets 41 = .ok (.iconst 1, 1) := by decide +kernel
theorem dX12_meets_42 : decode cX12_meets 42 = .ok (.iand, 1) := by decide +kernel
theorem dX12_meets_43 : decode cX12_meets 43 = .ok (.ireturn, 1) := by decide +kernel
theorem dX12_choose_0 : decode cX12_choose 0 = .ok (.iload_n 1, 1) := by decide +kernel
theorem dX12_choose_1 : decode cX12_choose 1 = .ok (.bipush 6, 2) := by decide +kernel
theorem dX12_choose_3 : decode cX12_choose 3 = .ok (.invokestatic 111, 3) := by decide +kernel
theorem dX12_choose_6 : decode cX12_choose 6 = .ok (.ifCond .ne 9, 3) := by decide +kernel
theorem dX12_choose_9 : decode cX12_choose 9 = .ok (.aload_n 0, 1) := by decide +kernel
theorem dX12_choose_10 : decode cX12_choose 10 = .ok (.iconst (-1), 1) := by decide +kernel
theorem dX12_choose_11 : decode cX12_choose 11 = .ok (.invokevirtual 91, 3) := by decide +kernel
theorem dX12_choose_14 : decode cX12_choose 14 = .ok (.ireturn, 1) := by decide +kernel
theorem dX12_choose_15 : decode cX12_choose 15 = .ok (.iconst 0, 1) := by decide +kernel
theorem dX12_choose_16 : decode cX12_choose 16 = .ok (.istore_n 2, 1) := by decide +kernel
theorem dX12_choose_17 : decode cX12_choose 17 = .ok (.iload_n 2, 1) := by decide +kernel
theorem dX12_choose_18 : decode cX12_choose 18 = .ok (.aload_n 0, 1) := by decide +kernel
theorem dX12_choose_19 : decode cX12_choose 19 = .ok (.getfield 191, 3) := by decide +kernel
theorem dX12_choose_22 : decode cX12_choose 22 = .ok (.if_icmp .ge 26, 3) := by decide +kernel
theorem dX12_choose_25 : decode cX12_choose 25 = .ok (.aload_n 0, 1) := by decide +kernel
theorem dX12_choose_26 : decode cX12_choose 26 = .ok (.getfield 19, 3) := by decide +kernel
theorem dX12_choose_29 : decode cX12_choose 29 = .ok (.iload_n 2, 1) := by decide +kernel
theorem dX12_choose_30 : decode cX12_choose 30 = .ok (.iaload, 1) := by decide +kernel
theorem dX12_choose_31 : decode cX12_choose 31 = .ok (.iload_n 1, 1) := by decide +kernel
theorem dX12_choose_32 : decode cX12_choose 32 = .ok (.if_icmp .ne 10, 3) := by decide +kernel
theorem dX12_choose_35 : decode cX12_choose 35 = .ok (.aload_n 0, 1) := by decide +kernel
theorem dX12_choose_36 : decode cX12_choose 36 = .ok (.bipush (-3), 2) := by decide +kernel
theorem dX12_choose_38 : decode cX12_choose 38 = .ok (.invokevirtual 91, 3) := by decide +kernel
theorem dX12_choose_41 : decode cX12_choose 41 = .ok (.ireturn, 1) := by decide +kernel
theorem dX12_choose_42 : decode cX12_choose 42 = .ok (.iinc 2 1, 3) := by decide +kernel
theorem dX12_choose_45 : decode cX12_choose 45 = .ok (.goto (-28), 3) := by decide +kernel
theorem dX12_choose_48 : decode cX12_choose 48 = .ok (.aload_n 0, 1) := by decide +kernel
theorem dX12_choose_49 : decode cX12_choose 49 = .ok (.getfield 19, 3) := by decide +kernel
theorem dX12_choose_52 : decode cX12_choose 52 = .ok (.aload_n 0, 1) := by decide +kernel
theorem dX12_choose_53 : decode cX12_choose 53 = .ok (.getfield 191, 3) := by decide +kernel
theorem dX12_choose_56 : decode cX12_choose 56 = .ok (.iload_n 1, 1) := by decide +kernel
theorem dX12_choose_57 : decode cX12_choose 57 = .ok (.iastore, 1) := by decide +kernel
theorem dX12_choose_58 : decode cX12_choose 58 = .ok (.aload_n 0, 1) := by decide +kernel
theorem dX12_choose_59 : decode cX12_choose 59 = .ok (.dup, 1) := by decide +kernel
theorem dX12_choose_60 : decode cX12_choose 60 = .ok (.getfield 191, 3) := by decide +kernel
theorem dX12_choose_63 : decode cX12_choose 63 = .ok (.iconst 1, 1) := by decide +kernel
theorem dX12_choose_64 : decode cX12_choose 64 = .ok (.iadd, 1) := by decide +kernel
theorem dX12_choose_65 : decode cX12_choose 65 = .ok (.putfield 191, 3) := by decide +kernel
theorem dX12_choose_68 : decode cX12_choose 68 = .ok (.aload_n 0, 1) := by decide +kernel
theorem dX12_choose_69 : decode cX12_choose 69 = .ok (.getfield 191, 3) := by decide +kernel
theorem dX12_choose_72 : decode cX12_choose 72 = .ok (.ireturn, 1) := by decide +kernel
theorem dX12_unchoose_0 : decode cX12_unchoose 0 = .ok (.aload_n 0, 1) := by decide +kernel
theorem dX12_unchoose_1 : decode cX12_unchoose 1 = .ok (.getfield 191, 3) := by decide +kernel
theorem dX12_unchoose_4 : decode cX12_unchoose 4 = .ok (.istore_n 1, 1) := by decide +kernel
theorem dX12_unchoose_5 : decode cX12_unchoose 5 = .ok (.aload_n 0, 1) := by decide +kernel
theorem dX12_unchoose_6 : decode cX12_unchoose 6 = .ok (.iconst 0, 1) := by decide +kernel
theorem dX12_unchoose_7 : decode cX12_unchoose 7 = .ok (.putfield 191, 3) := by decide +kernel
theorem dX12_unchoose_10 : decode cX12_unchoose 10 = .ok (.iload_n 1, 1) := by decide +kernel
theorem dX12_unchoose_11 : decode cX12_unchoose 11 = .ok (.ireturn, 1) := by decide +kernel
theorem dX12_findOver_0 : decode cX12_findOver 0 = .ok (.iconst 0, 1) := by decide +kernel
theorem dX12_findOver_1 : decode cX12_findOver 1 = .ok (.istore_n 3, 1) := by decide +kernel
theorem dX12_findOver_2 : decode cX12_findOver 2 = .ok (.iload_n 3, 1) := by decide +kernel
theorem dX12_findOver_3 : decode cX12_findOver 3 = .ok (.aload_n 0, 1) := by decide +kernel
theorem dX12_findOver_4 : decode cX12_findOver 4 = .ok (.getfield 129, 3) := by decide +kernel
theorem dX12_findOver_7 : decode cX12_findOver 7 = .ok (.if_icmp .ge 13, 3) := by decide +kernel
theorem dX12_findOver_10 : decode cX12_findOver 10 = .ok (.aload_n 1, 1) := by decide +kernel
theorem dX12_findOver_11 : decode cX12_findOver 11 = .ok (.iload_n 3, 1) := by decide +kernel
theorem dX12_findOver_12 : decode cX12_findOver 12 = .ok (.iconst 1, 1) := by decide +kernel
theorem dX12_findOver_13 : decode cX12_findOver 13 = .ok (.bastore, 1) := by decide +kernel
theorem dX12_findOver_14 : decode cX12_findOver 14 = .ok (.iinc 3 1, 3) := by decide +kernel
theorem dX12_findOver_17 : decode cX12_findOver 17 = .ok (.goto (-15), 3) := by decide +kernel
theorem dX12_findOver_20 : decode cX12_findOver 20 = .ok (.aload_n 0, 1) := by decide +kernel
theorem dX12_findOver_21 : decode cX12_findOver 21 = .ok (.iconst 0, 1) := by decide +kernel
theorem dX12_findOver_22 : decode cX12_findOver 22 = .ok (.putfield 194, 3) := by decide +kernel
theorem dX12_findOver_25 : decode cX12_findOver 25 = .ok (.iconst 0, 1) := by decide +kernel
theorem dX12_findOver_26 : decode cX12_findOver 26 = .ok (.istore_n 3, 1) := by decide +kernel
theorem dX12_findOver_27 : decode cX12_findOver 27 = .ok (.iload_n 3, 1) := by decide +kernel
theorem dX12_findOver_28 : decode cX12_findOver 28 = .ok (.aload_n 0, 1) := by decide +kernel
theorem dX12_findOver_29 : decode cX12_findOver 29 = .ok (.getfield 191, 3) := by decide +kernel
theorem dX12_findOver_32 : decode cX12_findOver 32 = .ok (.if_icmp .ge 155, 3) := by decide +kernel
theorem dX12_findOver_35 : decode cX12_findOver 35 = .ok (.iload_n 3, 1) := by decide +kernel
theorem dX12_findOver_36 : decode cX12_findOver 36 = .ok (.iload_n 2, 1) := by decide +kernel
theorem dX12_findOver_37 : decode cX12_findOver 37 = .ok (.if_icmp .ne 6, 3) := by decide +kernel
theorem dX12_findOver_40 : decode cX12_findOver 40 = .ok (.goto 141, 3) := by decide +kernel
theorem dX12_findOver_43 : decode cX12_findOver 43 = .ok (.iconst 0, 1) := by decide +kernel
theorem dX12_findOver_44 : decode cX12_findOver 44 = .ok (.istore 4, 2) := by decide +kernel
theorem dX12_findOver_46 : decode cX12_findOver 46 = .ok (.iconst 0, 1) := by decide +kernel
theorem dX12_findOver_47 : decode cX12_findOver 47 = .ok (.istore 5, 2) := by decide +kernel
theorem dX12_findOver_49 : decode cX12_findOver 49 = .ok (.iload 5, 2) := by decide +kernel
theorem dX12_findOver_51 : decode cX12_findOver 51 = .ok (.aload_n 0, 1) := by decide +kernel
theorem dX12_findOver_52 : decode cX12_findOver 52 = .ok (.getfield 129, 3) := by decide +kernel
theorem dX12_findOver_55 : decode cX12_findOver 55 = .ok (.if_icmp .ge 48, 3) := by decide +kernel
theorem dX12_findOver_58 : decode cX12_findOver 58 = .ok (.iload 4, 2) := by decide +kernel
theorem dX12_findOver_60 : decode cX12_findOver 60 = .ok (.ifCond .ne 30, 3) := by decide +kernel
theorem dX12_findOver_63 : decode cX12_findOver 63 = .ok (.aload_n 1, 1) := by decide +kernel
theorem dX12_findOver_64 : decode cX12_findOver 64 = .ok (.iload 5, 2) := by decide +kernel
theorem dX12_findOver_66 : decode cX12_findOver 66 = .ok (.baload, 1) := by decide +kernel
theorem dX12_findOver_67 : decode cX12_findOver 67 = .ok (.ifCond .eq 27, 3) := by decide +kernel
theorem dX12_findOver_70 : decode cX12_findOver 70 = .ok (.aload_n 0, 1) := by decide +kernel
theorem dX12_findOver_71 : decode cX12_findOver 71 = .ok (.getfield 56, 3) := by decide +kernel
theorem dX12_findOver_74 : decode cX12_findOver 74 = .ok (.iload 5, 2) := by decide +kernel
theorem dX12_findOver_76 : decode cX12_findOver 76 = .ok (.iaload, 1) := by decide +kernel
theorem dX12_findOver_77 : decode cX12_findOver 77 = .ok (.aload_n 0, 1) := by decide +kernel
theorem dX12_findOver_78 : decode cX12_findOver 78 = .ok (.getfield 19, 3) := by decide +kernel
theorem dX12_findOver_81 : decode cX12_findOver 81 = .ok (.iload_n 3, 1) := by decide +kernel
theorem dX12_findOver_82 : decode cX12_findOver 82 = .ok (.iaload, 1) := by decide +kernel
theorem dX12_findOver_83 : decode cX12_findOver 83 = .ok (.ishr, 1) := by decide +kernel
theorem dX12_findOver_84 : decode cX12_findOver 84 = .ok (.iconst 1, 1) := by decide +kernel
theorem dX12_findOver_85 : decode cX12_findOver 85 = .ok (.iand, 1) := by decide +kernel
theorem dX12_findOver_86 : decode cX12_findOver 86 = .ok (.iconst 1, 1) := by decide +kernel
theorem dX12_findOver_87 : decode cX12_findOver 87 = .ok (.if_icmp .ne 7, 3) := by decide +kernel
theorem dX12_findOver_90 : decode cX12_findOver 90 = .ok (.iconst 1, 1) := by decide +kernel
theorem dX12_findOver_91 : decode cX12_findOver 91 = .ok (.goto 4, 3) := by decide +kernel
theorem dX12_findOver_94 : decode cX12_findOver 94 = .ok (.iconst 0, 1) := by decide +kernel
theorem dX12_findOver_95 : decode cX12_findOver 95 = .ok (.istore 4, 2) := by decide +kernel
theorem dX12_findOver_97 : decode cX12_findOver 97 = .ok (.iinc 5 1, 3) := by decide +kernel
theorem dX12_findOver_100 : decode cX12_findOver 100 = .ok (.goto (-51), 3) := by decide +kernel
theorem dX12_findOver_103 : decode cX12_findOver 103 = .ok (.aload_n 0, 1) := by decide +kernel
theorem dX12_findOver_104 : decode cX12_findOver 104 = .ok (.dup, 1) := by decide +kernel
theorem dX12_findOver_105 : decode cX12_findOver 105 = .ok (.getfield 194, 3) := by decide +kernel
theorem dX12_findOver_108 : decode cX12_findOver 108 = .ok (.iload 4, 2) := by decide +kernel
theorem dX12_findOver_110 : decode cX12_findOver 110 = .ok (.ifCond .eq 7, 3) := by decide +kernel
theorem dX12_findOver_113 : decode cX12_findOver 113 = .ok (.iconst 0, 1) := by decide +kernel
theorem dX12_findOver_114 : decode cX12_findOver 114 = .ok (.goto 4, 3) := by decide +kernel
theorem dX12_findOver_117 : decode cX12_findOver 117 = .ok (.iconst 1, 1) := by decide +kernel
theorem dX12_findOver_118 : decode cX12_findOver 118 = .ok (.iadd, 1) := by decide +kernel
theorem dX12_findOver_119 : decode cX12_findOver 119 = .ok (.putfield 194, 3) := by decide +kernel
theorem dX12_findOver_122 : decode cX12_findOver 122 = .ok (.iconst 0, 1) := by decide +kernel
theorem dX12_findOver_123 : decode cX12_findOver 123 = .ok (.istore 5, 2) := by decide +kernel
theorem dX12_findOver_125 : decode cX12_findOver 125 = .ok (.iload 5, 2) := by decide +kernel
theorem dX12_findOver_127 : decode cX12_findOver 127 = .ok (.aload_n 0, 1) := by decide +kernel
theorem dX12_findOver_128 : decode cX12_findOver 128 = .ok (.getfield 129, 3) := by decide +kernel
theorem dX12_findOver_131 : decode cX12_findOver 131 = .ok (.if_icmp .ge 50, 3) := by decide +kernel
theorem dX12_findOver_134 : decode cX12_findOver 134 = .ok (.iload 4, 2) := by decide +kernel
theorem dX12_findOver_136 : decode cX12_findOver 136 = .ok (.ifCond .eq 45, 3) := by decide +kernel
theorem dX12_findOver_139 : decode cX12_findOver 139 = .ok (.aload_n 1, 1) := by decide +kernel
theorem dX12_findOver_140 : decode cX12_findOver 140 = .ok (.iload 5, 2) := by decide +kernel
theorem dX12_findOver_142 : decode cX12_findOver 142 = .ok (.aload_n 1, 1) := by decide +kernel
theorem dX12_findOver_143 : decode cX12_findOver 143 = .ok (.iload 5, 2) := by decide +kernel
theorem dX12_findOver_145 : decode cX12_findOver 145 = .ok (.baload, 1) := by decide +kernel
theorem dX12_findOver_146 : decode cX12_findOver 146 = .ok (.ifCond .eq 27, 3) := by decide +kernel
theorem dX12_findOver_149 : decode cX12_findOver 149 = .ok (.aload_n 0, 1) := by decide +kernel
theorem dX12_findOver_150 : decode cX12_findOver 150 = .ok (.getfield 56, 3) := by decide +kernel
theorem dX12_findOver_153 : decode cX12_findOver 153 = .ok (.iload 5, 2) := by decide +kernel
theorem dX12_findOver_155 : decode cX12_findOver 155 = .ok (.iaload, 1) := by decide +kernel
theorem dX12_findOver_156 : decode cX12_findOver 156 = .ok (.aload_n 0, 1) := by decide +kernel
theorem dX12_findOver_157 : decode cX12_findOver 157 = .ok (.getfield 19, 3) := by decide +kernel
theorem dX12_findOver_160 : decode cX12_findOver 160 = .ok (.iload_n 3, 1) := by decide +kernel
theorem dX12_findOver_161 : decode cX12_findOver 161 = .ok (.iaload, 1) := by decide +kernel
theorem dX12_findOver_162 : decode cX12_findOver 162 = .ok (.ishr, 1) := by decide +kernel
theorem dX12_findOver_163 : decode cX12_findOver 163 = .ok (.iconst 1, 1) := by decide +kernel
theorem dX12_findOver_164 : decode cX12_findOver 164 = .ok (.iand, 1) := by decide +kernel
theorem dX12_findOver_165 : decode cX12_findOver 165 = .ok (.iconst 1, 1) := by decide +kernel
theorem dX12_findOver_166 : decode cX12_findOver 166 = .ok (.if_icmp .ne 7, 3) := by decide +kernel
theorem dX12_findOver_169 : decode cX12_findOver 169 = .ok (.iconst 1, 1) := by decide +kernel
theorem dX12_findOver_170 : decode cX12_findOver 170 = .ok (.goto 4, 3) := by decide +kernel
theorem dX12_findOver_173 : decode cX12_findOver 173 = .ok (.iconst 0, 1) := by decide +kernel
theorem dX12_findOver_174 : decode cX12_findOver 174 = .ok (.bastore, 1) := by decide +kernel
theorem dX12_findOver_175 : decode cX12_findOver 175 = .ok (.iinc 5 1, 3) := by decide +kernel
theorem dX12_findOver_178 : decode cX12_findOver 178 = .ok (.goto (-53), 3) := by decide +kernel
theorem dX12_findOver_181 : decode cX12_findOver 181 = .ok (.iinc 3 1, 3) := by decide +kernel
theorem dX12_findOver_184 : decode cX12_findOver 184 = .ok (.goto (-157), 3) := by decide +kernel
theorem dX12_findOver_187 : decode cX12_findOver 187 = .ok (.return_, 1) := by decide +kernel
theorem dX12_leftOver_0 : decode cX12_leftOver 0 = .ok (.aload_n 0, 1) := by decide +kernel
theorem dX12_leftOver_1 : decode cX12_leftOver 1 = .ok (.getfield 170, 3) := by decide +kernel
theorem dX12_leftOver_4 : decode cX12_leftOver 4 = .ok (.ifCond .ne 8, 3) := by decide +kernel
theorem dX12_leftOver_7 : decode cX12_leftOver 7 = .ok (.bipush (-5), 2) := by decide +kernel
theorem dX12_leftOver_9 : decode cX12_leftOver 9 = .ok (.goto 13, 3) := by decide +kernel
theorem dX12_leftOver_12 : decode cX12_leftOver 12 = .ok (.iload_n 1, 1) := by decide +kernel
theorem dX12_leftOver_13 : decode cX12_leftOver 13 = .ok (.iconst (-1), 1) := by decide +kernel
theorem dX12_leftOver_14 : decode cX12_leftOver 14 = .ok (.if_icmp .ge 7, 3) := by decide +kernel
theorem dX12_leftOver_17 : decode cX12_leftOver 17 = .ok (.iconst (-1), 1) := by decide +kernel
theorem dX12_leftOver_18 : decode cX12_leftOver 18 = .ok (.goto 4, 3) := by decide +kernel
theorem dX12_leftOver_21 : decode cX12_leftOver 21 = .ok (.iconst 0, 1) := by decide +kernel
theorem dX12_leftOver_22 : decode cX12_leftOver 22 = .ok (.istore_n 2, 1) := by decide +kernel
theorem dX12_leftOver_23 : decode cX12_leftOver 23 = .ok (.iload_n 2, 1) := by decide +kernel
theorem dX12_leftOver_24 : decode cX12_leftOver 24 = .ok (.ifCond .eq 9, 3) := by decide +kernel
theorem dX12_leftOver_27 : decode cX12_leftOver 27 = .ok (.aload_n 0, 1) := by decide +kernel
theorem dX12_leftOver_28 : decode cX12_leftOver 28 = .ok (.iload_n 2, 1) := by decide +kernel
theorem dX12_leftOver_29 : decode cX12_leftOver 29 = .ok (.invokevirtual 91, 3) := by decide +kernel
theorem dX12_leftOver_32 : decode cX12_leftOver 32 = .ok (.ireturn, 1) := by decide +kernel
theorem dX12_leftOver_33 : decode cX12_leftOver 33 = .ok (.aload_n 0, 1) := by decide +kernel
theorem dX12_leftOver_34 : decode cX12_leftOver 34 = .ok (.aload_n 0, 1) := by decide +kernel
theorem dX12_leftOver_35 : decode cX12_leftOver 35 = .ok (.getfield 75, 3) := by decide +kernel
theorem dX12_leftOver_38 : decode cX12_leftOver 38 = .ok (.bipush (-9), 2) := by decide +kernel
theorem dX12_leftOver_40 : decode cX12_leftOver 40 = .ok (.invokevirtual 197, 3) := by decide +kernel
theorem dX12_leftOver_43 : decode cX12_leftOver 43 = .ok (.iconst 0, 1) := by decide +kernel
theorem dX12_leftOver_44 : decode cX12_leftOver 44 = .ok (.istore_n 3, 1) := by decide +kernel
theorem dX12_leftOver_45 : decode cX12_leftOver 45 = .ok (.iconst 0, 1) := by decide +kernel
theorem dX12_leftOver_46 : decode cX12_leftOver 46 = .ok (.istore 4, 2) := by decide +kernel
theorem dX12_leftOver_48 : decode cX12_leftOver 48 = .ok (.iload 4, 2) := by decide +kernel
theorem dX12_leftOver_50 : decode cX12_leftOver 50 = .ok (.aload_n 0, 1) := by decide +kernel
theorem dX12_leftOver_51 : decode cX12_leftOver 51 = .ok (.getfield 129, 3) := by decide +kernel
theorem dX12_leftOver_54 : decode cX12_leftOver 54 = .ok (.if_icmp .ge 33, 3) := by decide +kernel
theorem dX12_leftOver_57 : decode cX12_leftOver 57 = .ok (.aload_n 0, 1) := by decide +kernel
theorem dX12_leftOver_58 : decode cX12_leftOver 58 = .ok (.getfield 75, 3) := by decide +kernel
theorem dX12_leftOver_61 : decode cX12_leftOver 61 = .ok (.iload 4, 2) := by decide +kernel
theorem dX12_leftOver_63 : decode cX12_leftOver 63 = .ok (.baload, 1) := by decide +kernel
theorem dX12_leftOver_64 : decode cX12_leftOver 64 = .ok (.ifCond .ne 6, 3) := by decide +kernel
theorem dX12_leftOver_67 : decode cX12_leftOver 67 = .ok (.goto 14, 3) := by decide +kernel
theorem dX12_leftOver_70 : decode cX12_leftOver 70 = .ok (.iload_n 3, 1) := by decide +kernel
theorem dX12_leftOver_71 : decode cX12_leftOver 71 = .ok (.iload_n 1, 1) := by decide +kernel
theorem dX12_leftOver_72 : decode cX12_leftOver 72 = .ok (.if_icmp .ne 6, 3) := by decide +kernel
theorem dX12_leftOver_75 : decode cX12_leftOver 75 = .ok (.iload 4, 2) := by decide +kernel
theorem dX12_leftOver_77 : decode cX12_leftOver 77 = .ok (.ireturn, 1) := by decide +kernel
theorem dX12_leftOver_78 : decode cX12_leftOver 78 = .ok (.iinc 3 1, 3) := by decide +kernel
theorem dX12_leftOver_81 : decode cX12_leftOver 81 = .ok (.iinc 4 1, 3) := by decide +kernel
theorem dX12_leftOver_84 : decode cX12_leftOver 84 = .ok (.goto (-36), 3) := by decide +kernel
theorem dX12_leftOver_87 : decode cX12_leftOver 87 = .ok (.iload_n 1, 1) := by decide +kernel
theorem dX12_leftOver_88 : decode cX12_leftOver 88 = .ok (.ifCond .ge 7, 3) := by decide +kernel
theorem dX12_leftOver_91 : decode cX12_leftOver 91 = .ok (.iload_n 3, 1) := by decide +kernel
theorem dX12_leftOver_92 : decode cX12_leftOver 92 = .ok (.goto 5, 3) := by decide +kernel
theorem dX12_leftOver_95 : decode cX12_leftOver 95 = .ok (.bipush (-9), 2) := by decide +kernel
theorem dX12_leftOver_97 : decode cX12_leftOver 97 = .ok (.ireturn, 1) := by decide +kernel
theorem dX12_passedOver_0 : decode cX12_passedOver 0 = .ok (.aload_n 0, 1) := by decide +kernel
theorem dX12_passedOver_1 : decode cX12_passedOver 1 = .ok (.getfield 170, 3) := by decide +kernel
theorem dX12_passedOver_4 : decode cX12_passedOver 4 = .ok (.ifCond .ne 10, 3) := by decide +kernel
theorem dX12_passedOver_7 : decode cX12_passedOver 7 = .ok (.aload_n 0, 1) := by decide +kernel
theorem dX12_passedOver_8 : decode cX12_passedOver 8 = .ok (.bipush (-5), 2) := by decide +kernel
theorem dX12_passedOver_10 : decode cX12_passedOver 10 = .ok (.invokevirtual 91, 3) := by decide +kernel
theorem dX12_passedOver_13 : decode cX12_passedOver 13 = .ok (.ireturn, 1) := by decide +kernel
theorem dX12_passedOver_14 : decode cX12_passedOver 14 = .ok (.aload_n 0, 1) := by decide +kernel
theorem dX12_passedOver_15 : decode cX12_passedOver 15 = .ok (.aload_n 0, 1) := by decide +kernel
theorem dX12_passedOver_16 : decode cX12_passedOver 16 = .ok (.getfield 75, 3) := by decide +kernel
theorem dX12_passedOver_19 : decode cX12_passedOver 19 = .ok (.bipush (-9), 2) := by decide +kernel
theorem dX12_passedOver_21 : decode cX12_passedOver 21 = .ok (.invokevirtual 197, 3) := by decide +kernel
theorem dX12_passedOver_24 : decode cX12_passedOver 24 = .ok (.aload_n 0, 1) := by decide +kernel
theorem dX12_passedOver_25 : decode cX12_passedOver 25 = .ok (.getfield 194, 3) := by decide +kernel
theorem dX12_passedOver_28 : decode cX12_passedOver 28 = .ok (.ireturn, 1) := by decide +kernel
theorem dX12_quarrel_0 : decode cX12_quarrel 0 = .ok (.aload_n 0, 1) := by decide +kernel
theorem dX12_quarrel_1 : decode cX12_quarrel 1 = .ok (.getfield 170, 3) := by decide +kernel
theorem dX12_quarrel_4 : decode cX12_quarrel 4 = .ok (.ifCond .ne 8, 3) := by decide +kernel
theorem dX12_quarrel_7 : decode cX12_quarrel 7 = .ok (.bipush (-5), 2) := by decide +kernel
theorem dX12_quarrel_9 : decode cX12_quarrel 9 = .ok (.goto 31, 3) := by decide +kernel
theorem dX12_quarrel_12 : decode cX12_quarrel 12 = .ok (.iload_n 1, 1) := by decide +kernel
theorem dX12_quarrel_13 : decode cX12_quarrel 13 = .ok (.bipush 6, 2) := by decide +kernel
theorem dX12_quarrel_15 : decode cX12_quarrel 15 = .ok (.invokestatic 111, 3) := by decide +kernel
theorem dX12_quarrel_18 : decode cX12_quarrel 18 = .ok (.ifCond .eq 21, 3) := by decide +kernel
theorem dX12_quarrel_21 : decode cX12_quarrel 21 = .ok (.iload_n 2, 1) := by decide +kernel
theorem dX12_quarrel_22 : decode cX12_quarrel 22 = .ok (.bipush 6, 2) := by decide +kernel
theorem dX12_quarrel_24 : decode cX12_quarrel 24 = .ok (.invokestatic 111, 3) := by decide +kernel
theorem dX12_quarrel_27 : decode cX12_quarrel 27 = .ok (.ifCond .eq 12, 3) := by decide +kernel
theorem dX12_quarrel_30 : decode cX12_quarrel 30 = .ok (.iload_n 1, 1) := by decide +kernel
theorem dX12_quarrel_31 : decode cX12_quarrel 31 = .ok (.iload_n 2, 1) := by decide +kernel
theorem dX12_quarrel_32 : decode cX12_quarrel 32 = .ok (.if_icmp .eq 7, 3) := by decide +kernel
theorem dX12_quarrel_35 : decode cX12_quarrel 35 = .ok (.iconst 0, 1) := by decide +kernel
theorem dX12_quarrel_36 : decode cX12_quarrel 36 = .ok (.goto 4, 3) := by decide +kernel
theorem dX12_quarrel_39 : decode cX12_quarrel 39 = .ok (.iconst (-1), 1) := by decide +kernel
theorem dX12_quarrel_40 : decode cX12_quarrel 40 = .ok (.istore_n 3, 1) := by decide +kernel
theorem dX12_quarrel_41 : decode cX12_quarrel 41 = .ok (.iload_n 3, 1) := by decide +kernel
theorem dX12_quarrel_42 : decode cX12_quarrel 42 = .ok (.ifCond .eq 9, 3) := by decide +kernel
theorem dX12_quarrel_45 : decode cX12_quarrel 45 = .ok (.aload_n 0, 1) := by decide +kernel
theorem dX12_quarrel_46 : decode cX12_quarrel 46 = .ok (.iload_n 3, 1) := by decide +kernel
theorem dX12_quarrel_47 : decode cX12_quarrel 47 = .ok (.invokevirtual 91, 3) := by decide +kernel
theorem dX12_quarrel_50 : decode cX12_quarrel 50 = .ok (.ireturn, 1) := by decide +kernel
theorem dX12_quarrel_51 : decode cX12_quarrel 51 = .ok (.iconst 0, 1) := by decide +kernel
theorem dX12_quarrel_52 : decode cX12_quarrel 52 = .ok (.istore 4, 2) := by decide +kernel
theorem dX12_quarrel_54 : decode cX12_quarrel 54 = .ok (.iconst 0, 1) := by decide +kernel
theorem dX12_quarrel_55 : decode cX12_quarrel 55 = .ok (.istore 5, 2) := by decide +kernel
theorem dX12_quarrel_57 : decode cX12_quarrel 57 = .ok (.iconst 0, 1) := by decide +kernel
theorem dX12_quarrel_58 : decode cX12_quarrel 58 = .ok (.istore 6, 2) := by decide +kernel
theorem dX12_quarrel_60 : decode cX12_quarrel 60 = .ok (.iload 6, 2) := by decide +kernel
theorem dX12_quarrel_62 : decode cX12_quarrel 62 = .ok (.aload_n 0, 1) := by decide +kernel
theorem dX12_quarrel_63 : decode cX12_quarrel 63 = .ok (.getfield 129, 3) := by decide +kernel
theorem dX12_quarrel_66 : decode cX12_quarrel 66 = .ok (.if_icmp .ge 99, 3) := by decide +kernel
theorem dX12_quarrel_69 : decode cX12_quarrel 69 = .ok (.aload_n 0, 1) := by decide +kernel
theorem dX12_quarrel_70 : decode cX12_quarrel 70 = .ok (.getfield 56, 3) := by decide +kernel
theorem dX12_quarrel_73 : decode cX12_quarrel 73 = .ok (.iload 6, 2) := by decide +kernel
theorem dX12_quarrel_75 : decode cX12_quarrel 75 = .ok (.iaload, 1) := by decide +kernel
theorem dX12_quarrel_76 : decode cX12_quarrel 76 = .ok (.iload_n 1, 1) := by decide +kernel
theorem dX12_quarrel_77 : decode cX12_quarrel 77 = .ok (.ishr, 1) := by decide +kernel
theorem dX12_quarrel_78 : decode cX12_quarrel 78 = .ok (.iconst 1, 1) := by decide +kernel
theorem dX12_quarrel_79 : decode cX12_quarrel 79 = .ok (.iand, 1) := by decide +kernel
theorem dX12_quarrel_80 : decode cX12_quarrel 80 = .ok (.iconst 1, 1) := by decide +kernel
theorem dX12_quarrel_81 : decode cX12_quarrel 81 = .ok (.if_icmp .ne 7, 3) := by decide +kernel
theorem dX12_quarrel_84 : decode cX12_quarrel 84 = .ok (.iconst 1, 1) := by decide +kernel
theorem dX12_quarrel_85 : decode cX12_quarrel 85 = .ok (.goto 4, 3) := by decide +kernel
theorem dX12_quarrel_88 : decode cX12_quarrel 88 = .ok (.iconst 0, 1) := by decide +kernel
theorem dX12_quarrel_89 : decode cX12_quarrel 89 = .ok (.istore 7, 2) := by decide +kernel
theorem dX12_quarrel_91 : decode cX12_quarrel 91 = .ok (.aload_n 0, 1) := by decide +kernel
theorem dX12_quarrel_92 : decode cX12_quarrel 92 = .ok (.getfield 56, 3) := by decide +kernel
theorem dX12_quarrel_95 : decode cX12_quarrel 95 = .ok (.iload 6, 2) := by decide +kernel
theorem dX12_quarrel_97 : decode cX12_quarrel 97 = .ok (.iaload, 1) := by decide +kernel
theorem dX12_quarrel_98 : decode cX12_quarrel 98 = .ok (.iload_n 2, 1) := by decide +kernel
theorem dX12_quarrel_99 : decode cX12_quarrel 99 = .ok (.ishr, 1) := by decide +kernel
theorem dX12_quarrel_100 : decode cX12_quarrel 100 = .ok (.iconst 1, 1) := by decide +kernel
theorem dX12_quarrel_101 : decode cX12_quarrel 101 = .ok (.iand, 1) := by decide +kernel
theorem dX12_quarrel_102 : decode cX12_quarrel 102 = .ok (.iconst 1, 1) := by decide +kernel
theorem dX12_quarrel_103 : decode cX12_quarrel 103 = .ok (.if_icmp .ne 7, 3) := by decide +kernel
theorem dX12_quarrel_106 : decode cX12_quarrel 106 = .ok (.iconst 1, 1) := by decide +kernel
theorem dX12_quarrel_107 : decode cX12_quarrel 107 = .ok (.goto 4, 3) := by decide +kernel
theorem dX12_quarrel_110 : decode cX12_quarrel 110 = .ok (.iconst 0, 1) := by decide +kernel
theorem dX12_quarrel_111 : decode cX12_quarrel 111 = .ok (.istore 8, 2) := by decide +kernel
theorem dX12_quarrel_113 : decode cX12_quarrel 113 = .ok (.iload 7, 2) := by decide +kernel
theorem dX12_quarrel_115 : decode cX12_quarrel 115 = .ok (.ifCond .eq 10, 3) := by decide +kernel
theorem dX12_quarrel_118 : decode cX12_quarrel 118 = .ok (.iload 8, 2) := by decide +kernel
theorem dX12_quarrel_120 : decode cX12_quarrel 120 = .ok (.ifCond .eq 5, 3) := by decide +kernel
theorem dX12_quarrel_123 : decode cX12_quarrel 123 = .ok (.iconst 0, 1) := by decide +kernel
theorem dX12_quarrel_124 : decode cX12_quarrel 124 = .ok (.ireturn, 1) := by decide +kernel
theorem dX12_quarrel_125 : decode cX12_quarrel 125 = .ok (.iload 4, 2) := by decide +kernel
theorem dX12_quarrel_127 : decode cX12_quarrel 127 = .ok (.ifCond .ne 8, 3) := by decide +kernel
theorem dX12_quarrel_130 : decode cX12_quarrel 130 = .ok (.iload 7, 2) := by decide +kernel
theorem dX12_quarrel_132 : decode cX12_quarrel 132 = .ok (.ifCond .eq 7, 3) := by decide +kernel
theorem dX12_quarrel_135 : decode cX12_quarrel 135 = .ok (.iconst 1, 1) := by decide +kernel
theorem dX12_quarrel_136 : decode cX12_quarrel 136 = .ok (.goto 4, 3) := by decide +kernel
theorem dX12_quarrel_139 : decode cX12_quarrel 139 = .ok (.iconst 0, 1) := by decide +kernel
theorem dX12_quarrel_140 : decode cX12_quarrel 140 = .ok (.istore 4, 2) := by decide +kernel
theorem dX12_quarrel_142 : decode cX12_quarrel 142 = .ok (.iload 5, 2) := by decide +kernel
theorem dX12_quarrel_144 : decode cX12_quarrel 144 = .ok (.ifCond .ne 8, 3) := by decide +kernel
theorem dX12_quarrel_147 : decode cX12_quarrel 147 = .ok (.iload 8, 2) := by decide +kernel
theorem dX12_quarrel_149 : decode cX12_quarrel 149 = .ok (.ifCond .eq 7, 3) := by decide +kernel
theorem dX12_quarrel_152 : decode cX12_quarrel 152 = .ok (.iconst 1, 1) := by decide +kernel
theorem dX12_quarrel_153 : decode cX12_quarrel 153 = .ok (.goto 4, 3) := by decide +kernel
theorem dX12_quarrel_156 : decode cX12_quarrel 156 = .ok (.iconst 0, 1) := by decide +kernel
theorem dX12_quarrel_157 : decode cX12_quarrel 157 = .ok (.istore 5, 2) := by decide +kernel
theorem dX12_quarrel_159 : decode cX12_quarrel 159 = .ok (.iinc 6 1, 3) := by decide +kernel
theorem dX12_quarrel_162 : decode cX12_quarrel 162 = .ok (.goto (-102), 3) := by decide +kernel
theorem dX12_quarrel_165 : decode cX12_quarrel 165 = .ok (.iload 4, 2) := by decide +kernel
theorem dX12_quarrel_167 : decode cX12_quarrel 167 = .ok (.ifCond .eq 12, 3) := by decide +kernel
theorem dX12_quarrel_170 : decode cX12_quarrel 170 = .ok (.iload 5, 2) := by decide +kernel
theorem dX12_quarrel_172 : decode cX12_quarrel 172 = .ok (.ifCond .eq 7, 3) := by decide +kernel
theorem dX12_quarrel_175 : decode cX12_quarrel 175 = .ok (.iconst 1, 1) := by decide +kernel
theorem dX12_quarrel_176 : decode cX12_quarrel 176 = .ok (.goto 4, 3) := by decide +kernel
theorem dX12_quarrel_179 : decode cX12_quarrel 179 = .ok (.iconst 0, 1) := by decide +kernel
theorem dX12_quarrel_180 : decode cX12_quarrel 180 = .ok (.ireturn, 1) := by decide +kernel
theorem dX12_hangs_0 : decode cX12_hangs 0 = .ok (.aload_n 0, 1) := by decide +kernel
theorem dX12_hangs_1 : decode cX12_hangs 1 = .ok (.getfield 170, 3) := by decide +kernel
theorem dX12_hangs_4 : decode cX12_hangs 4 = .ok (.ifCond .ne 10, 3) := by decide +kernel
theorem dX12_hangs_7 : decode cX12_hangs 7 = .ok (.aload_n 0, 1) := by decide +kernel
theorem dX12_hangs_8 : decode cX12_hangs 8 = .ok (.bipush (-5), 2) := by decide +kernel
theorem dX12_hangs_10 : decode cX12_hangs 10 = .ok (.invokevirtual 91, 3) := by decide +kernel
theorem dX12_hangs_13 : decode cX12_hangs 13 = .ok (.ireturn, 1) := by decide +kernel
theorem dX12_hangs_14 : decode cX12_hangs 14 = .ok (.iconst 0, 1) := by decide +kernel
theorem dX12_hangs_15 : decode cX12_hangs 15 = .ok (.istore_n 1, 1) := by decide +kernel
theorem dX12_hangs_16 : decode cX12_hangs 16 = .ok (.aload_n 0, 1) := by decide +kernel
theorem dX12_hangs_17 : decode cX12_hangs 17 = .ok (.aload_n 0, 1) := by decide +kernel
theorem dX12_hangs_18 : decode cX12_hangs 18 = .ok (.getfield 75, 3) := by decide +kernel
theorem dX12_hangs_21 : decode cX12_hangs 21 = .ok (.bipush (-9), 2) := by decide +kernel
theorem dX12_hangs_23 : decode cX12_hangs 23 = .ok (.invokevirtual 197, 3) := by decide +kernel
theorem dX12_hangs_26 : decode cX12_hangs 26 = .ok (.iconst 0, 1) := by decide +kernel
theorem dX12_hangs_27 : decode cX12_hangs 27 = .ok (.istore_n 2, 1) := by decide +kernel
theorem dX12_hangs_28 : decode cX12_hangs 28 = .ok (.iload_n 2, 1) := by decide +kernel
theorem dX12_hangs_29 : decode cX12_hangs 29 = .ok (.aload_n 0, 1) := by decide +kernel
theorem dX12_hangs_30 : decode cX12_hangs 30 = .ok (.getfield 191, 3) := by decide +kernel
theorem dX12_hangs_33 : decode cX12_hangs 33 = .ok (.if_icmp .ge 84, 3) := by decide +kernel
theorem dX12_hangs_36 : decode cX12_hangs 36 = .ok (.aload_n 0, 1) := by decide +kernel
theorem dX12_hangs_37 : decode cX12_hangs 37 = .ok (.aload_n 0, 1) := by decide +kernel
theorem dX12_hangs_38 : decode cX12_hangs 38 = .ok (.getfield 79, 3) := by decide +kernel
theorem dX12_hangs_41 : decode cX12_hangs 41 = .ok (.iload_n 2, 1) := by decide +kernel
theorem dX12_hangs_42 : decode cX12_hangs 42 = .ok (.invokevirtual 197, 3) := by decide +kernel
theorem dX12_hangs_45 : decode cX12_hangs 45 = .ok (.iconst 1, 1) := by decide +kernel
theorem dX12_hangs_46 : decode cX12_hangs 46 = .ok (.istore_n 3, 1) := by decide +kernel
theorem dX12_hangs_47 : decode cX12_hangs 47 = .ok (.iconst 0, 1) := by decide +kernel
theorem dX12_hangs_48 : decode cX12_hangs 48 = .ok (.istore 4, 2) := by decide +kernel
theorem dX12_hangs_50 : decode cX12_hangs 50 = .ok (.iload 4, 2) := by decide +kernel
theorem dX12_hangs_52 : decode cX12_hangs 52 = .ok (.aload_n 0, 1) := by decide +kernel
theorem dX12_hangs_53 : decode cX12_hangs 53 = .ok (.getfield 129, 3) := by decide +kernel
theorem dX12_hangs_56 : decode cX12_hangs 56 = .ok (.if_icmp .ge 36, 3) := by decide +kernel
theorem dX12_hangs_59 : decode cX12_hangs 59 = .ok (.iload_n 3, 1) := by decide +kernel
theorem dX12_hangs_60 : decode cX12_hangs 60 = .ok (.ifCond .eq 24, 3) := by decide +kernel
theorem dX12_hangs_63 : decode cX12_hangs 63 = .ok (.aload_n 0, 1) := by decide +kernel
theorem dX12_hangs_64 : decode cX12_hangs 64 = .ok (.getfield 75, 3) := by decide +kernel
theorem dX12_hangs_67 : decode cX12_hangs 67 = .ok (.iload 4, 2) := by decide +kernel
theorem dX12_hangs_69 : decode cX12_hangs 69 = .ok (.baload, 1) := by decide +kernel
theorem dX12_hangs_70 : decode cX12_hangs 70 = .ok (.aload_n 0, 1) := by decide +kernel
theorem dX12_hangs_71 : decode cX12_hangs 71 = .ok (.getfield 79, 3) := by decide +kernel
theorem dX12_hangs_74 : decode cX12_hangs 74 = .ok (.iload 4, 2) := by decide +kernel
theorem dX12_hangs_76 : decode cX12_hangs 76 = .ok (.baload, 1) := by decide +kernel
theorem dX12_hangs_77 : decode cX12_hangs 77 = .ok (.if_icmp .ne 7, 3) := by decide +kernel
theorem dX12_hangs_80 : decode cX12_hangs 80 = .ok (.iconst 1, 1) := by decide +kernel
theorem dX12_hangs_81 : decode cX12_hangs 81 = .ok (.goto 4, 3) := by decide +kernel
theorem dX12_hangs_84 : decode cX12_hangs 84 = .ok (.iconst 0, 1) := by decide +kernel
theorem dX12_hangs_85 : decode cX12_hangs 85 = .ok (.istore_n 3, 1) := by decide +kernel
theorem dX12_hangs_86 : decode cX12_hangs 86 = .ok (.iinc 4 1, 3) := by decide +kernel
theorem dX12_hangs_89 : decode cX12_hangs 89 = .ok (.goto (-39), 3) := by decide +kernel
theorem dX12_hangs_92 : decode cX12_hangs 92 = .ok (.iload_n 1, 1) := by decide +kernel
theorem dX12_hangs_93 : decode cX12_hangs 93 = .ok (.iload_n 3, 1) := by decide +kernel
theorem dX12_hangs_94 : decode cX12_hangs 94 = .ok (.ifCond .eq 7, 3) := by decide +kernel
theorem dX12_hangs_97 : decode cX12_hangs 97 = .ok (.iconst 0, 1) := by decide +kernel
theorem dX12_hangs_98 : decode cX12_hangs 98 = .ok (.goto 11, 3) := by decide +kernel
theorem dX12_hangs_101 : decode cX12_hangs 101 = .ok (.iconst 1, 1) := by decide +kernel
theorem dX12_hangs_102 : decode cX12_hangs 102 = .ok (.aload_n 0, 1) := by decide +kernel
theorem dX12_hangs_103 : decode cX12_hangs 103 = .ok (.getfield 19, 3) := by decide +kernel
theorem dX12_hangs_106 : decode cX12_hangs 106 = .ok (.iload_n 2, 1) := by decide +kernel
theorem dX12_hangs_107 : decode cX12_hangs 107 = .ok (.iaload, 1) := by decide +kernel
theorem dX12_hangs_108 : decode cX12_hangs 108 = .ok (.ishl, 1) := by decide +kernel
theorem dX12_hangs_109 : decode cX12_hangs 109 = .ok (.ior, 1) := by decide +kernel
theorem dX12_hangs_110 : decode cX12_hangs 110 = .ok (.istore_n 1, 1) := by decide +kernel
theorem dX12_hangs_111 : decode cX12_hangs 111 = .ok (.iinc 2 1, 3) := by decide +kernel
theorem dX12_hangs_114 : decode cX12_hangs 114 = .ok (.goto (-86), 3) := by decide +kernel
theorem dX12_hangs_117 : decode cX12_hangs 117 = .ok (.iload_n 1, 1) := by decide +kernel
theorem dX12_hangs_118 : decode cX12_hangs 118 = .ok (.ireturn, 1) := by decide +kernel
theorem dX12_test_0 : decode cX12_test 0 = .ok (.aload_n 0, 1) := by decide +kernel
theorem dX12_test_1 : decode cX12_test 1 = .ok (.getfield 170, 3) := by decide +kernel
theorem dX12_test_4 : decode cX12_test 4 = .ok (.ifCond .ne 10, 3) := by decide +kernel
theorem dX12_test_7 : decode cX12_test 7 = .ok (.aload_n 0, 1) := by decide +kernel
theorem dX12_test_8 : decode cX12_test 8 = .ok (.bipush (-5), 2) := by decide +kernel
theorem dX12_test_10 : decode cX12_test 10 = .ok (.invokevirtual 91, 3) := by decide +kernel
theorem dX12_test_13 : decode cX12_test 13 = .ok (.ireturn, 1) := by decide +kernel
theorem dX12_test_14 : decode cX12_test 14 = .ok (.bipush (-9), 2) := by decide +kernel
theorem dX12_test_16 : decode cX12_test 16 = .ok (.istore_n 1, 1) := by decide +kernel
theorem dX12_test_17 : decode cX12_test 17 = .ok (.iconst 0, 1) := by decide +kernel
theorem dX12_test_18 : decode cX12_test 18 = .ok (.istore_n 2, 1) := by decide +kernel
theorem dX12_test_19 : decode cX12_test 19 = .ok (.iconst 0, 1) := by decide +kernel
theorem dX12_test_20 : decode cX12_test 20 = .ok (.istore_n 3, 1) := by decide +kernel
theorem dX12_test_21 : decode cX12_test 21 = .ok (.iload_n 3, 1) := by decide +kernel
theorem dX12_test_22 : decode cX12_test 22 = .ok (.bipush 32, 2) := by decide +kernel
theorem dX12_test_24 : decode cX12_test 24 = .ok (.if_icmp .ge 56, 3) := by decide +kernel
theorem dX12_test_27 : decode cX12_test 27 = .ok (.iconst 2, 1) := by decide +kernel
theorem dX12_test_28 : decode cX12_test 28 = .ok (.aload_n 0, 1) := by decide +kernel
theorem dX12_test_29 : decode cX12_test 29 = .ok (.iload_n 3, 1) := by decide +kernel
theorem dX12_test_30 : decode cX12_test 30 = .ok (.invokevirtual 182, 3) := by decide +kernel
theorem dX12_test_33 : decode cX12_test 33 = .ok (.imul, 1) := by decide +kernel
theorem dX12_test_34 : decode cX12_test 34 = .ok (.aload_n 0, 1) := by decide +kernel
theorem dX12_test_35 : decode cX12_test 35 = .ok (.getfield 129, 3) := by decide +kernel
theorem dX12_test_38 : decode cX12_test 38 = .ok (.isub, 1) := by decide +kernel
theorem dX12_test_39 : decode cX12_test 39 = .ok (.istore 4, 2) := by decide +kernel
theorem dX12_test_41 : decode cX12_test 41 = .ok (.iload 4, 2) := by decide +kernel
theorem dX12_test_43 : decode cX12_test 43 = .ok (.ifCond .ge 9, 3) := by decide +kernel
theorem dX12_test_46 : decode cX12_test 46 = .ok (.iload 4, 2) := by decide +kernel
theorem dX12_test_48 : decode cX12_test 48 = .ok (.ineg, 1) := by decide +kernel
theorem dX12_test_49 : decode cX12_test 49 = .ok (.goto 5, 3) := by decide +kernel
theorem dX12_test_52 : decode cX12_test 52 = .ok (.iload 4, 2) := by decide +kernel
theorem dX12_test_54 : decode cX12_test 54 = .ok (.istore 4, 2) := by decide +kernel
theorem dX12_test_56 : decode cX12_test 56 = .ok (.iload_n 1, 1) := by decide +kernel
theorem dX12_test_57 : decode cX12_test 57 = .ok (.ifCond .lt 12, 3) := by decide +kernel
theorem dX12_test_60 : decode cX12_test 60 = .ok (.iload 4, 2) := by decide +kernel
theorem dX12_test_62 : decode cX12_test 62 = .ok (.iload_n 2, 1) := by decide +kernel
theorem dX12_test_63 : decode cX12_test 63 = .ok (.if_icmp .lt 6, 3) := by decide +kernel
theorem dX12_test_66 : decode cX12_test 66 = .ok (.goto 8, 3) := by decide +kernel
theorem dX12_test_69 : decode cX12_test 69 = .ok (.iload_n 3, 1) := by decide +kernel
theorem dX12_test_70 : decode cX12_test 70 = .ok (.istore_n 1, 1) := by decide +kernel
theorem dX12_test_71 : decode cX12_test 71 = .ok (.iload 4, 2) := by decide +kernel
theorem dX12_test_73 : decode cX12_test 73 = .ok (.istore_n 2, 1) := by decide +kernel
theorem dX12_test_74 : decode cX12_test 74 = .ok (.iinc 3 1, 3) := by decide +kernel
theorem dX12_test_77 : decode cX12_test 77 = .ok (.goto (-56), 3) := by decide +kernel
theorem dX12_test_80 : decode cX12_test 80 = .ok (.iload_n 1, 1) := by decide +kernel
theorem dX12_test_81 : decode cX12_test 81 = .ok (.ireturn, 1) := by decide +kernel
theorem dX12_isParted_0 : decode cX12_isParted 0 = .ok (.iconst 0, 1) := by decide +kernel
theorem dX12_isParted_1 : decode cX12_isParted 1 = .ok (.istore_n 3, 1) := by decide +kernel
theorem dX12_isParted_2 : decode cX12_isParted 2 = .ok (.iload_n 3, 1) := by decide +kernel
theorem dX12_isParted_3 : decode cX12_isParted 3 = .ok (.aload_n 0, 1) := by decide +kernel
theorem dX12_isParted_4 : decode cX12_isParted 4 = .ok (.getfield 185, 3) := by decide +kernel
theorem dX12_isParted_7 : decode cX12_isParted 7 = .ok (.if_icmp .ge 47, 3) := by decide +kernel
theorem dX12_isParted_10 : decode cX12_isParted 10 = .ok (.iconst 0, 1) := by decide +kernel
theorem dX12_isParted_11 : decode cX12_isParted 11 = .ok (.istore 4, 2) := by decide +kernel
theorem dX12_isParted_13 : decode cX12_isParted 13 = .ok (.iload 4, 2) := by decide +kernel
theorem dX12_isParted_15 : decode cX12_isParted 15 = .ok (.iload_n 3, 1) := by decide +kernel
theorem dX12_isParted_16 : decode cX12_isParted 16 = .ok (.if_icmp .ge 32, 3) := by decide +kernel
theorem dX12_isParted_19 : decode cX12_isParted 19 = .ok (.aload_n 0, 1) := by decide +kernel
theorem dX12_isParted_20 : decode cX12_isParted 20 = .ok (.getfield 72, 3) := by decide +kernel
theorem dX12_isParted_23 : decode cX12_isParted 23 = .ok (.iload_n 3, 1) := by decide +kernel
theorem dX12_isParted_24 : decode cX12_isParted 24 = .ok (.laload, 1) := by decide +kernel
theorem dX12_isParted_25 : decode cX12_isParted 25 = .ok (.aload_n 0, 1) := by decide +kernel
theorem dX12_isParted_26 : decode cX12_isParted 26 = .ok (.getfield 72, 3) := by decide +kernel
theorem dX12_isParted_29 : decode cX12_isParted 29 = .ok (.iload 4, 2) := by decide +kernel
theorem dX12_isParted_31 : decode cX12_isParted 31 = .ok (.laload, 1) := by decide +kernel
theorem dX12_isParted_32 : decode cX12_isParted 32 = .ok (.lxor, 1) := by decide +kernel
theorem dX12_isParted_33 : decode cX12_isParted 33 = .ok (.lload_n 1, 1) := by decide +kernel
theorem dX12_isParted_34 : decode cX12_isParted 34 = .ok (.land, 1) := by decide +kernel
theorem dX12_isParted_35 : decode cX12_isParted 35 = .ok (.lconst 0, 1) := by decide +kernel
theorem dX12_isParted_36 : decode cX12_isParted 36 = .ok (.lcmp, 1) := by decide +kernel
theorem dX12_isParted_37 : decode cX12_isParted 37 = .ok (.ifCond .ne 5, 3) := by decide +kernel
theorem dX12_isParted_40 : decode cX12_isParted 40 = .ok (.iconst 0, 1) := by decide +kernel
theorem dX12_isParted_41 : decode cX12_isParted 41 = .ok (.ireturn, 1) := by decide +kernel
theorem dX12_isParted_42 : decode cX12_isParted 42 = .ok (.iinc 4 1, 3) := by decide +kernel
theorem dX12_isParted_45 : decode cX12_isParted 45 = .ok (.goto (-32), 3) := by decide +kernel
theorem dX12_isParted_48 : decode cX12_isParted 48 = .ok (.iinc 3 1, 3) := by decide +kernel
theorem dX12_isParted_51 : decode cX12_isParted 51 = .ok (.goto (-49), 3) := by decide +kernel
theorem dX12_isParted_54 : decode cX12_isParted 54 = .ok (.iconst 1, 1) := by decide +kernel
theorem dX12_isParted_55 : decode cX12_isParted 55 = .ok (.ireturn, 1) := by decide +kernel
theorem dX12_isPartedBy_0 : decode cX12_isPartedBy 0 = .ok (.iload_n 1, 1) := by decide +kernel
theorem dX12_isPartedBy_1 : decode cX12_isPartedBy 1 = .ok (.ifCond .ne 9, 3) := by decide +kernel
theorem dX12_isPartedBy_4 : decode cX12_isPartedBy 4 = .ok (.aload_n 0, 1) := by decide +kernel
theorem dX12_isPartedBy_5 : decode cX12_isPartedBy 5 = .ok (.lload_n 3, 1) := by decide +kernel
theorem dX12_isPartedBy_6 : decode cX12_isPartedBy 6 = .ok (.invokevirtual 201, 3) := by decide +kernel
theorem dX12_isPartedBy_9 : decode cX12_isPartedBy 9 = .ok (.ireturn, 1) := by decide +kernel
theorem dX12_isPartedBy_10 : decode cX12_isPartedBy 10 = .ok (.iload_n 2, 1) := by decide +kernel
theorem dX12_isPartedBy_11 : decode cX12_isPartedBy 11 = .ok (.istore 5, 2) := by decide +kernel
theorem dX12_isPartedBy_13 : decode cX12_isPartedBy 13 = .ok (.iload 5, 2) := by decide +kernel
theorem dX12_isPartedBy_15 : decode cX12_isPartedBy 15 = .ok (.bipush 32, 2) := by decide +kernel
theorem dX12_isPartedBy_17 : decode cX12_isPartedBy 17 = .ok (.if_icmp .ge 31, 3) := by decide +kernel
theorem dX12_isPartedBy_20 : decode cX12_isPartedBy 20 = .ok (.aload_n 0, 1) := by decide +kernel
theorem dX12_isPartedBy_21 : decode cX12_isPartedBy 21 = .ok (.iload_n 1, 1) := by decide +kernel
theorem dX12_isPartedBy_22 : decode cX12_isPartedBy 22 = .ok (.iconst 1, 1) := by decide +kernel
theorem dX12_isPartedBy_23 : decode cX12_isPartedBy 23 = .ok (.isub, 1) := by decide +kernel
theorem dX12_isPartedBy_24 : decode cX12_isPartedBy 24 = .ok (.iload 5, 2) := by decide +kernel
theorem dX12_isPartedBy_26 : decode cX12_isPartedBy 26 = .ok (.iconst 1, 1) := by decide +kernel
theorem dX12_isPartedBy_27 : decode cX12_isPartedBy 27 = .ok (.iadd, 1) := by decide +kernel
theorem dX12_isPartedBy_28 : decode cX12_isPartedBy 28 = .ok (.lload_n 3, 1) := by decide +kernel
theorem dX12_isPartedBy_29 : decode cX12_isPartedBy 29 = .ok (.lconst 1, 1) := by decide +kernel
theorem dX12_isPartedBy_30 : decode cX12_isPartedBy 30 = .ok (.iload 5, 2) := by decide +kernel
theorem dX12_isPartedBy_32 : decode cX12_isPartedBy 32 = .ok (.lshl, 1) := by decide +kernel
theorem dX12_isPartedBy_33 : decode cX12_isPartedBy 33 = .ok (.lor, 1) := by decide +kernel
theorem dX12_isPartedBy_34 : decode cX12_isPartedBy 34 = .ok (.invokevirtual 205, 3) := by decide +kernel
theorem dX12_isPartedBy_37 : decode cX12_isPartedBy 37 = .ok (.ifCond .eq 5, 3) := by decide +kernel
theorem dX12_isPartedBy_40 : decode cX12_isPartedBy 40 = .ok (.iconst 1, 1) := by decide +kernel
theorem dX12_isPartedBy_41 : decode cX12_isPartedBy 41 = .ok (.ireturn, 1) := by decide +kernel
theorem dX12_isPartedBy_42 : decode cX12_isPartedBy 42 = .ok (.iinc 5 1, 3) := by decide +kernel
theorem dX12_isPartedBy_45 : decode cX12_isPartedBy 45 = .ok (.goto (-32), 3) := by decide +kernel
theorem dX12_isPartedBy_48 : decode cX12_isPartedBy 48 = .ok (.iconst 0, 1) := by decide +kernel
theorem dX12_isPartedBy_49 : decode cX12_isPartedBy 49 = .ok (.ireturn, 1) := by decide +kernel
theorem dX12_fewest_0 : decode cX12_fewest 0 = .ok (.aload_n 0, 1) := by decide +kernel
theorem dX12_fewest_1 : decode cX12_fewest 1 = .ok (.getfield 170, 3) := by decide +kernel
theorem dX12_fewest_4 : decode cX12_fewest 4 = .ok (.ifCond .ne 10, 3) := by decide +kernel
theorem dX12_fewest_7 : decode cX12_fewest 7 = .ok (.aload_n 0, 1) := by decide +kernel
theorem dX12_fewest_8 : decode cX12_fewest 8 = .ok (.bipush (-5), 2) := by decide +kernel
theorem dX12_fewest_10 : decode cX12_fewest 10 = .ok (.invokevirtual 91, 3) := by decide +kernel
theorem dX12_fewest_13 : decode cX12_fewest 13 = .ok (.ireturn, 1) := by decide +kernel
theorem dX12_fewest_14 : decode cX12_fewest 14 = .ok (.aload_n 0, 1) := by decide +kernel
theorem dX12_fewest_15 : decode cX12_fewest 15 = .ok (.invokevirtual 188, 3) := by decide +kernel
theorem dX12_fewest_18 : decode cX12_fewest 18 = .ok (.aload_n 0, 1) := by decide +kernel
theorem dX12_fewest_19 : decode cX12_fewest 19 = .ok (.getfield 185, 3) := by decide +kernel
theorem dX12_fewest_22 : decode cX12_fewest 22 = .ok (.bipush 8, 2) := by decide +kernel
theorem dX12_fewest_24 : decode cX12_fewest 24 = .ok (.if_icmp .le 6, 3) := by decide +kernel
theorem dX12_fewest_27 : decode cX12_fewest 27 = .ok (.bipush (-9), 2) := by decide +kernel
theorem dX12_fewest_29 : decode cX12_fewest 29 = .ok (.ireturn, 1) := by decide +kernel
theorem dX12_fewest_30 : decode cX12_fewest 30 = .ok (.iconst 0, 1) := by decide +kernel
theorem dX12_fewest_31 : decode cX12_fewest 31 = .ok (.istore_n 1, 1) := by decide +kernel
theorem dX12_fewest_32 : decode cX12_fewest 32 = .ok (.iload_n 1, 1) := by decide +kernel
theorem dX12_fewest_33 : decode cX12_fewest 33 = .ok (.iconst 4, 1) := by decide +kernel
theorem dX12_fewest_34 : decode cX12_fewest 34 = .ok (.if_icmp .ge 21, 3) := by decide +kernel
theorem dX12_fewest_37 : decode cX12_fewest 37 = .ok (.aload_n 0, 1) := by decide +kernel
theorem dX12_fewest_38 : decode cX12_fewest 38 = .ok (.iload_n 1, 1) := by decide +kernel
theorem dX12_fewest_39 : decode cX12_fewest 39 = .ok (.iconst 0, 1) := by decide +kernel
theorem dX12_fewest_40 : decode cX12_fewest 40 = .ok (.lconst 0, 1) := by decide +kernel
theorem dX12_fewest_41 : decode cX12_fewest 41 = .ok (.invokevirtual 205, 3) := by decide +kernel
theorem dX12_fewest_44 : decode cX12_fewest 44 = .ok (.ifCond .eq 5, 3) := by decide +kernel
theorem dX12_fewest_47 : decode cX12_fewest 47 = .ok (.iload_n 1, 1) := by decide +kernel
theorem dX12_fewest_48 : decode cX12_fewest 48 = .ok (.ireturn, 1) := by decide +kernel
theorem dX12_fewest_49 : decode cX12_fewest 49 = .ok (.iinc 1 1, 3) := by decide +kernel
theorem dX12_fewest_52 : decode cX12_fewest 52 = .ok (.goto (-20), 3) := by decide +kernel
theorem dX12_fewest_55 : decode cX12_fewest 55 = .ok (.bipush (-9), 2) := by decide +kernel
theorem dX12_fewest_57 : decode cX12_fewest 57 = .ok (.ireturn, 1) := by decide +kernel
theorem dX12_bracket_0 : decode cX12_bracket 0 = .ok (.iload_n 1, 1) := by decide +kernel
theorem dX12_bracket_1 : decode cX12_bracket 1 = .ok (.aload_n 0, 1) := by decide +kernel
theorem dX12_bracket_2 : decode cX12_bracket 2 = .ok (.getfield 85, 3) := by decide +kernel
theorem dX12_bracket_5 : decode cX12_bracket 5 = .ok (.invokestatic 111, 3) := by decide +kernel
theorem dX12_bracket_8 : decode cX12_bracket 8 = .ok (.ifCond .eq 19, 3) := by decide +kernel
theorem dX12_bracket_11 : decode cX12_bracket 11 = .ok (.iload_n 2, 1) := by decide +kernel
theorem dX12_bracket_12 : decode cX12_bracket 12 = .ok (.aload_n 0, 1) := by decide +kernel
theorem dX12_bracket_13 : decode cX12_bracket 13 = .ok (.getfield 85, 3) := by decide +kernel
theorem dX12_bracket_16 : decode cX12_bracket 16 = .ok (.invokestatic 111, 3) := by decide +kernel
theorem dX12_bracket_19 : decode cX12_bracket 19 = .ok (.ifCond .eq 8, 3) := by decide +kernel
theorem dX12_bracket_22 : decode cX12_bracket 22 = .ok (.iload_n 2, 1) := by decide +kernel
theorem dX12_bracket_23 : decode cX12_bracket 23 = .ok (.iload_n 1, 1) := by decide +kernel
theorem dX12_bracket_24 : decode cX12_bracket 24 = .ok (.if_icmp .ge 9, 3) := by decide +kernel
theorem dX12_bracket_27 : decode cX12_bracket 27 = .ok (.aload_n 0, 1) := by decide +kernel
theorem dX12_bracket_28 : decode cX12_bracket 28 = .ok (.iconst (-1), 1) := by decide +kernel
theorem dX12_bracket_29 : decode cX12_bracket 29 = .ok (.invokevirtual 91, 3) := by decide +kernel
theorem dX12_bracket_32 : decode cX12_bracket 32 = .ok (.ireturn, 1) := by decide +kernel
theorem dX12_bracket_33 : decode cX12_bracket 33 = .ok (.iconst 0, 1) := by decide +kernel
theorem dX12_bracket_34 : decode cX12_bracket 34 = .ok (.istore_n 3, 1) := by decide +kernel
theorem dX12_bracket_35 : decode cX12_bracket 35 = .ok (.iconst 0, 1) := by decide +kernel
theorem dX12_bracket_36 : decode cX12_bracket 36 = .ok (.istore 4, 2) := by decide +kernel
theorem dX12_bracket_38 : decode cX12_bracket 38 = .ok (.iconst 0, 1) := by decide +kernel
theorem dX12_bracket_39 : decode cX12_bracket 39 = .ok (.istore 5, 2) := by decide +kernel
theorem dX12_bracket_41 : decode cX12_bracket 41 = .ok (.iconst 0, 1) := by decide +kernel
theorem dX12_bracket_42 : decode cX12_bracket 42 = .ok (.istore 6, 2) := by decide +kernel
theorem dX12_bracket_44 : decode cX12_bracket 44 = .ok (.iload 6, 2) := by decide +kernel
theorem dX12_bracket_46 : decode cX12_bracket 46 = .ok (.aload_n 0, 1) := by decide +kernel
theorem dX12_bracket_47 : decode cX12_bracket 47 = .ok (.getfield 85, 3) := by decide +kernel
theorem dX12_bracket_50 : decode cX12_bracket 50 = .ok (.if_icmp .ge 135, 3) := by decide +kernel
theorem dX12_bracket_53 : decode cX12_bracket 53 = .ok (.iload 6, 2) := by decide +kernel
theorem dX12_bracket_55 : decode cX12_bracket 55 = .ok (.iload_n 1, 1) := by decide +kernel
theorem dX12_bracket_56 : decode cX12_bracket 56 = .ok (.if_icmp .ne 33, 3) := by decide +kernel
theorem dX12_bracket_59 : decode cX12_bracket 59 = .ok (.aload_n 0, 1) := by decide +kernel
theorem dX12_bracket_60 : decode cX12_bracket 60 = .ok (.getfield 82, 3) := by decide +kernel
theorem dX12_bracket_63 : decode cX12_bracket 63 = .ok (.iload_n 3, 1) := by decide +kernel
theorem dX12_bracket_64 : decode cX12_bracket 64 = .ok (.bipush 40, 2) := by decide +kernel
theorem dX12_bracket_66 : decode cX12_bracket 66 = .ok (.iastore, 1) := by decide +kernel
theorem dX12_bracket_67 : decode cX12_bracket 67 = .ok (.iinc 3 1, 3) := by decide +kernel
theorem dX12_bracket_70 : decode cX12_bracket 70 = .ok (.iinc 4 1, 3) := by decide +kernel
theorem dX12_bracket_73 : decode cX12_bracket 73 = .ok (.iload 4, 2) := by decide +kernel
theorem dX12_bracket_75 : decode cX12_bracket 75 = .ok (.iload 5, 2) := by decide +kernel
theorem dX12_bracket_77 : decode cX12_bracket 77 = .ok (.if_icmp .le 8, 3) := by decide +kernel
theorem dX12_bracket_80 : decode cX12_bracket 80 = .ok (.iload 4, 2) := by decide +kernel
theorem dX12_bracket_82 : decode cX12_bracket 82 = .ok (.goto 5, 3) := by decide +kernel
theorem dX12_bracket_85 : decode cX12_bracket 85 = .ok (.iload 5, 2) := by decide +kernel
theorem dX12_bracket_87 : decode cX12_bracket 87 = .ok (.istore 5, 2) := by decide +kernel
theorem dX12_bracket_89 : decode cX12_bracket 89 = .ok (.aload_n 0, 1) := by decide +kernel
theorem dX12_bracket_90 : decode cX12_bracket 90 = .ok (.getfield 82, 3) := by decide +kernel
theorem dX12_bracket_93 : decode cX12_bracket 93 = .ok (.iload_n 3, 1) := by decide +kernel
theorem dX12_bracket_94 : decode cX12_bracket 94 = .ok (.aload_n 0, 1) := by decide +kernel
theorem dX12_bracket_95 : decode cX12_bracket 95 = .ok (.getfield 13, 3) := by decide +kernel
theorem dX12_bracket_98 : decode cX12_bracket 98 = .ok (.iload 6, 2) := by decide +kernel
theorem dX12_bracket_100 : decode cX12_bracket 100 = .ok (.iaload, 1) := by decide +kernel
theorem dX12_bracket_101 : decode cX12_bracket 101 = .ok (.iastore, 1) := by decide +kernel
theorem dX12_bracket_102 : decode cX12_bracket 102 = .ok (.iinc 3 1, 3) := by decide +kernel
theorem dX12_bracket_105 : decode cX12_bracket 105 = .ok (.iload 4, 2) := by decide +kernel
theorem dX12_bracket_107 : decode cX12_bracket 107 = .ok (.aload_n 0, 1) := by decide +kernel
theorem dX12_bracket_108 : decode cX12_bracket 108 = .ok (.getfield 13, 3) := by decide +kernel
theorem dX12_bracket_111 : decode cX12_bracket 111 = .ok (.iload 6, 2) := by decide +kernel
theorem dX12_bracket_113 : decode cX12_bracket 113 = .ok (.iaload, 1) := by decide +kernel
theorem dX12_bracket_114 : decode cX12_bracket 114 = .ok (.bipush 40, 2) := by decide +kernel
theorem dX12_bracket_116 : decode cX12_bracket 116 = .ok (.if_icmp .ne 7, 3) := by decide +kernel
theorem dX12_bracket_119 : decode cX12_bracket 119 = .ok (.iconst 1, 1) := by decide +kernel
theorem dX12_bracket_120 : decode cX12_bracket 120 = .ok (.goto 20, 3) := by decide +kernel
theorem dX12_bracket_123 : decode cX12_bracket 123 = .ok (.aload_n 0, 1) := by decide +kernel
theorem dX12_bracket_124 : decode cX12_bracket 124 = .ok (.getfield 13, 3) := by decide +kernel
theorem dX12_bracket_127 : decode cX12_bracket 127 = .ok (.iload 6, 2) := by decide +kernel
theorem dX12_bracket_129 : decode cX12_bracket 129 = .ok (.iaload, 1) := by decide +kernel
theorem dX12_bracket_130 : decode cX12_bracket 130 = .ok (.bipush 41, 2) := by decide +kernel
theorem dX12_bracket_132 : decode cX12_bracket 132 = .ok (.if_icmp .ne 7, 3) := by decide +kernel
theorem dX12_bracket_135 : decode cX12_bracket 135 = .ok (.iconst (-1), 1) := by decide +kernel
theorem dX12_bracket_136 : decode cX12_bracket 136 = .ok (.goto 4, 3) := by decide +kernel
theorem dX12_bracket_139 : decode cX12_bracket 139 = .ok (.iconst 0, 1) := by decide +kernel
theorem dX12_bracket_140 : decode cX12_bracket 140 = .ok (.iadd, 1) := by decide +kernel
theorem dX12_bracket_141 : decode cX12_bracket 141 = .ok (.istore 4, 2) := by decide +kernel
theorem dX12_bracket_143 : decode cX12_bracket 143 = .ok (.iload 4, 2) := by decide +kernel
theorem dX12_bracket_145 : decode cX12_bracket 145 = .ok (.iload 5, 2) := by decide +kernel
theorem dX12_bracket_147 : decode cX12_bracket 147 = .ok (.if_icmp .le 8, 3) := by decide +kernel
theorem dX12_bracket_150 : decode cX12_bracket 150 = .ok (.iload 4, 2) := by decide +kernel
theorem dX12_bracket_152 : decode cX12_bracket 152 = .ok (.goto 5, 3) := by decide +kernel
theorem dX12_bracket_155 : decode cX12_bracket 155 = .ok (.iload 5, 2) := by decide +kernel
theorem dX12_bracket_157 : decode cX12_bracket 157 = .ok (.istore 5, 2) := by decide +kernel
theorem dX12_bracket_159 : decode cX12_bracket 159 = .ok (.iload 6, 2) := by decide +kernel
theorem dX12_bracket_161 : decode cX12_bracket 161 = .ok (.iload_n 2, 1) := by decide +kernel
theorem dX12_bracket_162 : decode cX12_bracket 162 = .ok (.if_icmp .ne 17, 3) := by decide +kernel
theorem dX12_bracket_165 : decode cX12_bracket 165 = .ok (.aload_n 0, 1) := by decide +kernel
theorem dX12_bracket_166 : decode cX12_bracket 166 = .ok (.getfield 82, 3) := by decide +kernel
theorem dX12_bracket_169 : decode cX12_bracket 169 = .ok (.iload_n 3, 1) := by decide +kernel
theorem dX12_bracket_170 : decode cX12_bracket 170 = .ok (.bipush 41, 2) := by decide +kernel
theorem dX12_bracket_172 : decode cX12_bracket 172 = .ok (.iastore, 1) := by decide +kernel
theorem dX12_bracket_173 : decode cX12_bracket 173 = .ok (.iinc 3 1, 3) := by decide +kernel
theorem dX12_bracket_176 : decode cX12_bracket 176 = .ok (.iinc 4 (-1), 3) := by decide +kernel
theorem dX12_bracket_179 : decode cX12_bracket 179 = .ok (.iinc 6 1, 3) := by decide +kernel
theorem dX12_bracket_182 : decode cX12_bracket 182 = .ok (.goto (-138), 3) := by decide +kernel
theorem dX12_bracket_185 : decode cX12_bracket 185 = .ok (.iload_n 3, 1) := by decide +kernel
theorem dX12_bracket_186 : decode cX12_bracket 186 = .ok (.bipush 21, 2) := by decide +kernel
theorem dX12_bracket_188 : decode cX12_bracket 188 = .ok (.if_icmp .gt 9, 3) := by decide +kernel
theorem dX12_bracket_191 : decode cX12_bracket 191 = .ok (.iload 5, 2) := by decide +kernel
theorem dX12_bracket_193 : decode cX12_bracket 193 = .ok (.iconst 4, 1) := by decide +kernel
theorem dX12_bracket_194 : decode cX12_bracket 194 = .ok (.if_icmp .le 10, 3) := by decide +kernel
theorem dX12_bracket_197 : decode cX12_bracket 197 = .ok (.aload_n 0, 1) := by decide +kernel
theorem dX12_bracket_198 : decode cX12_bracket 198 = .ok (.bipush (-6), 2) := by decide +kernel
theorem dX12_bracket_200 : decode cX12_bracket 200 = .ok (.invokevirtual 91, 3) := by decide +kernel
theorem dX12_bracket_203 : decode cX12_bracket 203 = .ok (.ireturn, 1) := by decide +kernel
theorem dX12_bracket_204 : decode cX12_bracket 204 = .ok (.aload_n 0, 1) := by decide +kernel
theorem dX12_bracket_205 : decode cX12_bracket 205 = .ok (.getfield 82, 3) := by decide +kernel
theorem dX12_bracket_208 : decode cX12_bracket 208 = .ok (.iload_n 3, 1) := by decide +kernel
theorem dX12_bracket_209 : decode cX12_bracket 209 = .ok (.invokestatic 107, 3) := by decide +kernel
theorem dX12_bracket_212 : decode cX12_bracket 212 = .ok (.ifCond .lt 10, 3) := by decide +kernel
theorem dX12_bracket_215 : decode cX12_bracket 215 = .ok (.aload_n 0, 1) := by decide +kernel
theorem dX12_bracket_216 : decode cX12_bracket 216 = .ok (.bipush (-3), 2) := by decide +kernel
theorem dX12_bracket_218 : decode cX12_bracket 218 = .ok (.invokevirtual 91, 3) := by decide +kernel
theorem dX12_bracket_221 : decode cX12_bracket 221 = .ok (.ireturn, 1) := by decide +kernel
theorem dX12_bracket_222 : decode cX12_bracket 222 = .ok (.iconst 0, 1) := by decide +kernel
theorem dX12_bracket_223 : decode cX12_bracket 223 = .ok (.istore 6, 2) := by decide +kernel
theorem dX12_bracket_225 : decode cX12_bracket 225 = .ok (.iload 6, 2) := by decide +kernel
theorem dX12_bracket_227 : decode cX12_bracket 227 = .ok (.iload_n 3, 1) := by decide +kernel
theorem dX12_bracket_228 : decode cX12_bracket 228 = .ok (.if_icmp .ge 23, 3) := by decide +kernel
theorem dX12_bracket_231 : decode cX12_bracket 231 = .ok (.aload_n 0, 1) := by decide +kernel
theorem dX12_bracket_232 : decode cX12_bracket 232 = .ok (.getfield 13, 3) := by decide +kernel
theorem dX12_bracket_235 : decode cX12_bracket 235 = .ok (.iload 6, 2) := by decide +kernel
theorem dX12_bracket_237 : decode cX12_bracket 237 = .ok (.aload_n 0, 1) := by decide +kernel
theorem dX12_bracket_238 : decode cX12_bracket 238 = .ok (.getfield 82, 3) := by decide +kernel
theorem dX12_bracket_241 : decode cX12_bracket 241 = .ok (.iload 6, 2) := by decide +kernel
theorem dX12_bracket_243 : decode cX12_bracket 243 = .ok (.iaload, 1) := by decide +kernel
theorem dX12_bracket_244 : decode cX12_bracket 244 = .ok (.iastore, 1) := by decide +kernel
theorem dX12_bracket_245 : decode cX12_bracket 245 = .ok (.iinc 6 1, 3) := by decide +kernel
theorem dX12_bracket_248 : decode cX12_bracket 248 = .ok (.goto (-23), 3) := by decide +kernel
theorem dX12_bracket_251 : decode cX12_bracket 251 = .ok (.aload_n 0, 1) := by decide +kernel
theorem dX12_bracket_252 : decode cX12_bracket 252 = .ok (.iload_n 3, 1) := by decide +kernel
theorem dX12_bracket_253 : decode cX12_bracket 253 = .ok (.putfield 85, 3) := by decide +kernel
theorem dX12_bracket_256 : decode cX12_bracket 256 = .ok (.aload_n 0, 1) := by decide +kernel
theorem dX12_bracket_257 : decode cX12_bracket 257 = .ok (.invokevirtual 88, 3) := by decide +kernel
theorem dX12_bracket_260 : decode cX12_bracket 260 = .ok (.aload_n 0, 1) := by decide +kernel
theorem dX12_bracket_261 : decode cX12_bracket 261 = .ok (.getfield 85, 3) := by decide +kernel
theorem dX12_bracket_264 : decode cX12_bracket 264 = .ok (.ireturn, 1) := by decide +kernel
theorem dX12_has_0 : decode cX12_has 0 = .ok (.iconst 0, 1) := by decide +kernel
theorem dX12_has_1 : decode cX12_has 1 = .ok (.istore 4, 2) := by decide +kernel
theorem dX12_has_3 : decode cX12_has 3 = .ok (.iload 4, 2) := by decide +kernel
theorem dX12_has_5 : decode cX12_has 5 = .ok (.aload_n 0, 1) := by decide +kernel
theorem dX12_has_6 : decode cX12_has 6 = .ok (.getfield 53, 3) := by decide +kernel
theorem dX12_has_9 : decode cX12_has 9 = .ok (.iload_n 1, 1) := by decide +kernel
theorem dX12_has_10 : decode cX12_has 10 = .ok (.iaload, 1) := by decide +kernel
theorem dX12_has_11 : decode cX12_has 11 = .ok (.if_icmp .ge 43, 3) := by decide +kernel
theorem dX12_has_14 : decode cX12_has 14 = .ok (.aload_n 0, 1) := by decide +kernel
theorem dX12_has_15 : decode cX12_has 15 = .ok (.getfield 47, 3) := by decide +kernel
theorem dX12_has_18 : decode cX12_has 18 = .ok (.bipush 21, 2) := by decide +kernel
theorem dX12_has_20 : decode cX12_has 20 = .ok (.iload_n 1, 1) := by decide +kernel
theorem dX12_has_21 : decode cX12_has 21 = .ok (.imul, 1) := by decide +kernel
theorem dX12_has_22 : decode cX12_has 22 = .ok (.iload 4, 2) := by decide +kernel
theorem dX12_has_24 : decode cX12_has 24 = .ok (.iadd, 1) := by decide +kernel
theorem dX12_has_25 : decode cX12_has 25 = .ok (.iaload, 1) := by decide +kernel
theorem dX12_has_26 : decode cX12_has 26 = .ok (.iload_n 2, 1) := by decide +kernel
theorem dX12_has_27 : decode cX12_has 27 = .ok (.if_icmp .ne 21, 3) := by decide +kernel
theorem dX12_has_30 : decode cX12_has 30 = .ok (.aload_n 0, 1) := by decide +kernel
theorem dX12_has_31 : decode cX12_has 31 = .ok (.getfield 50, 3) := by decide +kernel
theorem dX12_has_34 : decode cX12_has 34 = .ok (.bipush 21, 2) := by decide +kernel
theorem dX12_has_36 : decode cX12_has 36 = .ok (.iload_n 1, 1) := by decide +kernel
theorem dX12_has_37 : decode cX12_has 37 = .ok (.imul, 1) := by decide +kernel
theorem dX12_has_38 : decode cX12_has 38 = .ok (.iload 4, 2) := by decide +kernel
theorem dX12_has_40 : decode cX12_has 40 = .ok (.iadd, 1) := by decide +kernel
theorem dX12_has_41 : decode cX12_has 41 = .ok (.iaload, 1) := by decide +kernel
theorem dX12_has_42 : decode cX12_has 42 = .ok (.iload_n 3, 1) := by decide +kernel
theorem dX12_has_43 : decode cX12_has 43 = .ok (.if_icmp .ne 5, 3) := by decide +kernel
theorem dX12_has_46 : decode cX12_has 46 = .ok (.iconst 1, 1) := by decide +kernel
theorem dX12_has_47 : decode cX12_has 47 = .ok (.ireturn, 1) := by decide +kernel
theorem dX12_has_48 : decode cX12_has 48 = .ok (.iinc 4 1, 3) := by decide +kernel
theorem dX12_has_51 : decode cX12_has 51 = .ok (.goto (-48), 3) := by decide +kernel
theorem dX12_has_54 : decode cX12_has 54 = .ok (.iconst 0, 1) := by decide +kernel
theorem dX12_has_55 : decode cX12_has 55 = .ok (.ireturn, 1) := by decide +kernel
theorem dX12_isMark_0 : decode cX12_isMark 0 = .ok (.aload_n 0, 1) := by decide +kernel
theorem dX12_isMark_1 : decode cX12_isMark 1 = .ok (.getfield 44, 3) := by decide +kernel
theorem dX12_isMark_4 : decode cX12_isMark 4 = .ok (.bipush 21, 2) := by decide +kernel
theorem dX12_isMark_6 : decode cX12_isMark 6 = .ok (.iload_n 1, 1) := by decide +kernel
theorem dX12_isMark_7 : decode cX12_isMark 7 = .ok (.imul, 1) := by decide +kernel
theorem dX12_isMark_8 : decode cX12_isMark 8 = .ok (.iload_n 2, 1) := by decide +kernel
theorem dX12_isMark_9 : decode cX12_isMark 9 = .ok (.iadd, 1) := by decide +kernel
theorem dX12_isMark_10 : decode cX12_isMark 10 = .ok (.iaload, 1) := by decide +kernel
theorem dX12_isMark_11 : decode cX12_isMark 11 = .ok (.ifCond .eq 40, 3) := by decide +kernel
theorem dX12_isMark_14 : decode cX12_isMark 14 = .ok (.aload_n 0, 1) := by decide +kernel
theorem dX12_isMark_15 : decode cX12_isMark 15 = .ok (.getfield 44, 3) := by decide +kernel
theorem dX12_isMark_18 : decode cX12_isMark 18 = .ok (.bipush 21, 2) := by decide +kernel
theorem dX12_isMark_20 : decode cX12_isMark 20 = .ok (.iload_n 1, 1) := by decide +kernel
theorem dX12_isMark_21 : decode cX12_isMark 21 = .ok (.imul, 1) := by decide +kernel
theorem dX12_isMark_22 : decode cX12_isMark 22 = .ok (.iload_n 2, 1) := by decide +kernel
theorem dX12_isMark_23 : decode cX12_isMark 23 = .ok (.iadd, 1) := by decide +kernel
theorem dX12_isMark_24 : decode cX12_isMark 24 = .ok (.iaload, 1) := by decide +kernel
theorem dX12_isMark_25 : decode cX12_isMark 25 = .ok (.iconst 2, 1) := by decide +kernel
theorem dX12_isMark_26 : decode cX12_isMark 26 = .ok (.if_icmp .eq 25, 3) := by decide +kernel
theorem dX12_isMark_29 : decode cX12_isMark 29 = .ok (.aload_n 0, 1) := by decide +kernel
theorem dX12_isMark_30 : decode cX12_isMark 30 = .ok (.getfield 50, 3) := by decide +kernel
theorem dX12_isMark_33 : decode cX12_isMark 33 = .ok (.bipush 21, 2) := by decide +kernel
theorem dX12_isMark_35 : decode cX12_isMark 35 = .ok (.iload_n 1, 1) := by decide +kernel
theorem dX12_isMark_36 : decode cX12_isMark 36 = .ok (.imul, 1) := by decide +kernel
theorem dX12_isMark_37 : decode cX12_isMark 37 = .ok (.iload_n 2, 1) := by decide +kernel
theorem dX12_isMark_38 : decode cX12_isMark 38 = .ok (.iadd, 1) := by decide +kernel
theorem dX12_isMark_39 : decode cX12_isMark 39 = .ok (.iaload, 1) := by decide +kernel
theorem dX12_isMark_40 : decode cX12_isMark 40 = .ok (.aload_n 0, 1) := by decide +kernel
theorem dX12_isMark_41 : decode cX12_isMark 41 = .ok (.getfield 85, 3) := by decide +kernel
theorem dX12_isMark_44 : decode cX12_isMark 44 = .ok (.if_icmp .ge 7, 3) := by decide +kernel
theorem dX12_isMark_47 : decode cX12_isMark 47 = .ok (.iconst 1, 1) := by decide +kernel
theorem dX12_isMark_48 : decode cX12_isMark 48 = .ok (.goto 4, 3) := by decide +kernel
theorem dX12_isMark_51 : decode cX12_isMark 51 = .ok (.iconst 0, 1) := by decide +kernel
theorem dX12_isMark_52 : decode cX12_isMark 52 = .ok (.ireturn, 1) := by decide +kernel
theorem dX12_isMended_0 : decode cX12_isMended 0 = .ok (.iconst 0, 1) := by decide +kernel
theorem dX12_isMended_1 : decode cX12_isMended 1 = .ok (.istore 4, 2) := by decide +kernel
theorem dX12_isMended_3 : decode cX12_isMended 3 = .ok (.iload 4, 2) := by decide +kernel
theorem dX12_isMended_5 : decode cX12_isMended 5 = .ok (.aload_n 0, 1) := by decide +kernel
theorem dX12_isMended_6 : decode cX12_isMended 6 = .ok (.getfield 129, 3) := by decide +kernel
theorem dX12_isMended_9 : decode cX12_isMended 9 = .ok (.if_icmp .ge 125, 3) := by decide +kernel
theorem dX12_isMended_12 : decode cX12_isMended 12 = .ok (.aload_n 0, 1) := by decide +kernel
theorem dX12_isMended_13 : decode cX12_isMended 13 = .ok (.getfield 62, 3) := by decide +kernel
theorem dX12_isMended_16 : decode cX12_isMended 16 = .ok (.iload 4, 2) := by decide +kernel
theorem dX12_isMended_18 : decode cX12_isMended 18 = .ok (.laload, 1) := by decide +kernel
theorem dX12_isMended_19 : decode cX12_isMended 19 = .ok (.aload_n 0, 1) := by decide +kernel
theorem dX12_isMended_20 : decode cX12_isMended 20 = .ok (.getfield 62, 3) := by decide +kernel
theorem dX12_isMended_23 : decode cX12_isMended 23 = .ok (.iload_n 1, 1) := by decide +kernel
theorem dX12_isMended_24 : decode cX12_isMended 24 = .ok (.laload, 1) := by decide +kernel
theorem dX12_isMended_25 : decode cX12_isMended 25 = .ok (.lcmp, 1) := by decide +kernel
theorem dX12_isMended_26 : decode cX12_isMended 26 = .ok (.ifCond .ne 6, 3) := by decide +kernel
theorem dX12_isMended_29 : decode cX12_isMended 29 = .ok (.goto 99, 3) := by decide +kernel
theorem dX12_isMended_32 : decode cX12_isMended 32 = .ok (.iload_n 2, 1) := by decide +kernel
theorem dX12_isMended_33 : decode cX12_isMended 33 = .ok (.ifCond .lt 34, 3) := by decide +kernel
theorem dX12_isMended_36 : decode cX12_isMended 36 = .ok (.aload_n 0, 1) := by decide +kernel
theorem dX12_isMended_37 : decode cX12_isMended 37 = .ok (.iload 4, 2) := by decide +kernel
theorem dX12_isMended_39 : decode cX12_isMended 39 = .ok (.aload_n 0, 1) := by decide +kernel
theorem dX12_isMended_40 : decode cX12_isMended 40 = .ok (.getfield 47, 3) := by decide +kernel
theorem dX12_isMended_43 : decode cX12_isMended 43 = .ok (.bipush 21, 2) := by decide +kernel
theorem dX12_isMended_45 : decode cX12_isMended 45 = .ok (.iload_n 1, 1) := by decide +kernel
theorem dX12_isMended_46 : decode cX12_isMended 46 = .ok (.imul, 1) := by decide +kernel
theorem dX12_isMended_47 : decode cX12_isMended 47 = .ok (.iload_n 2, 1) := by decide +kernel
theorem dX12_isMended_48 : decode cX12_isMended 48 = .ok (.iadd, 1) := by decide +kernel
theorem dX12_isMended_49 : decode cX12_isMended 49 = .ok (.iaload, 1) := by decide +kernel
theorem dX12_isMended_50 : decode cX12_isMended 50 = .ok (.aload_n 0, 1) := by decide +kernel
theorem dX12_isMended_51 : decode cX12_isMended 51 = .ok (.getfield 50, 3) := by decide +kernel
