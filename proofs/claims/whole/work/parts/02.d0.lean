theorem dX0_init_0 : decode cX0_init 0 = .ok (.aload_n 0, 1) := by decide +kernel
theorem dX0_init_1 : decode cX0_init 1 = .ok (.invokespecial 3, 3) := by decide +kernel
theorem dX0_init_4 : decode cX0_init 4 = .ok (.aload_n 0, 1) := by decide +kernel
theorem dX0_init_5 : decode cX0_init 5 = .ok (.bipush 8, 2) := by decide +kernel
theorem dX0_init_7 : decode cX0_init 7 = .ok (.newarray .int, 2) := by decide +kernel
theorem dX0_init_9 : decode cX0_init 9 = .ok (.putfield 9, 3) := by decide +kernel
theorem dX0_init_12 : decode cX0_init 12 = .ok (.aload_n 0, 1) := by decide +kernel
theorem dX0_init_13 : decode cX0_init 13 = .ok (.bipush 8, 2) := by decide +kernel
theorem dX0_init_15 : decode cX0_init 15 = .ok (.newarray .int, 2) := by decide +kernel
theorem dX0_init_17 : decode cX0_init 17 = .ok (.putfield 15, 3) := by decide +kernel
theorem dX0_init_20 : decode cX0_init 20 = .ok (.return_, 1) := by decide +kernel
theorem dX0_size_0 : decode cX0_size 0 = .ok (.aload_n 0, 1) := by decide +kernel
theorem dX0_size_1 : decode cX0_size 1 = .ok (.getfield 18, 3) := by decide +kernel
theorem dX0_size_4 : decode cX0_size 4 = .ok (.ireturn, 1) := by decide +kernel
theorem dX0_add_0 : decode cX0_add 0 = .ok (.aload_n 0, 1) := by decide +kernel
theorem dX0_add_1 : decode cX0_add 1 = .ok (.getfield 18, 3) := by decide +kernel
theorem dX0_add_4 : decode cX0_add 4 = .ok (.bipush 8, 2) := by decide +kernel
theorem dX0_add_6 : decode cX0_add 6 = .ok (.if_icmp .ge 37, 3) := by decide +kernel
theorem dX0_add_9 : decode cX0_add 9 = .ok (.aload_n 0, 1) := by decide +kernel
theorem dX0_add_10 : decode cX0_add 10 = .ok (.getfield 9, 3) := by decide +kernel
theorem dX0_add_13 : decode cX0_add 13 = .ok (.aload_n 0, 1) := by decide +kernel
theorem dX0_add_14 : decode cX0_add 14 = .ok (.getfield 18, 3) := by decide +kernel
theorem dX0_add_17 : decode cX0_add 17 = .ok (.iload_n 1, 1) := by decide +kernel
theorem dX0_add_18 : decode cX0_add 18 = .ok (.invokestatic 22, 3) := by decide +kernel
theorem dX0_add_21 : decode cX0_add 21 = .ok (.aload_n 0, 1) := by decide +kernel
theorem dX0_add_22 : decode cX0_add 22 = .ok (.getfield 15, 3) := by decide +kernel
theorem dX0_add_25 : decode cX0_add 25 = .ok (.aload_n 0, 1) := by decide +kernel
theorem dX0_add_26 : decode cX0_add 26 = .ok (.getfield 18, 3) := by decide +kernel
theorem dX0_add_29 : decode cX0_add 29 = .ok (.iload_n 2, 1) := by decide +kernel
theorem dX0_add_30 : decode cX0_add 30 = .ok (.invokestatic 22, 3) := by decide +kernel
theorem dX0_add_33 : decode cX0_add 33 = .ok (.aload_n 0, 1) := by decide +kernel
theorem dX0_add_34 : decode cX0_add 34 = .ok (.dup, 1) := by decide +kernel
theorem dX0_add_35 : decode cX0_add 35 = .ok (.getfield 18, 3) := by decide +kernel
theorem dX0_add_38 : decode cX0_add 38 = .ok (.iconst 1, 1) := by decide +kernel
theorem dX0_add_39 : decode cX0_add 39 = .ok (.iadd, 1) := by decide +kernel
theorem dX0_add_40 : decode cX0_add 40 = .ok (.putfield 18, 3) := by decide +kernel
theorem dX0_add_43 : decode cX0_add 43 = .ok (.return_, 1) := by decide +kernel
theorem dX0_become_0 : decode cX0_become 0 = .ok (.aload_n 0, 1) := by decide +kernel
theorem dX0_become_1 : decode cX0_become 1 = .ok (.iconst 0, 1) := by decide +kernel
theorem dX0_become_2 : decode cX0_become 2 = .ok (.putfield 18, 3) := by decide +kernel
theorem dX0_become_5 : decode cX0_become 5 = .ok (.iconst 0, 1) := by decide +kernel
theorem dX0_become_6 : decode cX0_become 6 = .ok (.istore_n 2, 1) := by decide +kernel
theorem dX0_become_7 : decode cX0_become 7 = .ok (.iload_n 2, 1) := by decide +kernel
theorem dX0_become_8 : decode cX0_become 8 = .ok (.aload_n 1, 1) := by decide +kernel
theorem dX0_become_9 : decode cX0_become 9 = .ok (.getfield 18, 3) := by decide +kernel
theorem dX0_become_12 : decode cX0_become 12 = .ok (.if_icmp .ge 29, 3) := by decide +kernel
theorem dX0_become_15 : decode cX0_become 15 = .ok (.aload_n 0, 1) := by decide +kernel
theorem dX0_become_16 : decode cX0_become 16 = .ok (.aload_n 1, 1) := by decide +kernel
theorem dX0_become_17 : decode cX0_become 17 = .ok (.getfield 9, 3) := by decide +kernel
theorem dX0_become_20 : decode cX0_become 20 = .ok (.iload_n 2, 1) := by decide +kernel
theorem dX0_become_21 : decode cX0_become 21 = .ok (.invokestatic 26, 3) := by decide +kernel
theorem dX0_become_24 : decode cX0_become 24 = .ok (.aload_n 1, 1) := by decide +kernel
theorem dX0_become_25 : decode cX0_become 25 = .ok (.getfield 15, 3) := by decide +kernel
theorem dX0_become_28 : decode cX0_become 28 = .ok (.iload_n 2, 1) := by decide +kernel
theorem dX0_become_29 : decode cX0_become 29 = .ok (.invokestatic 26, 3) := by decide +kernel
theorem dX0_become_32 : decode cX0_become 32 = .ok (.invokevirtual 30, 3) := by decide +kernel
theorem dX0_become_35 : decode cX0_become 35 = .ok (.iinc 2 1, 3) := by decide +kernel
theorem dX0_become_38 : decode cX0_become 38 = .ok (.goto (-31), 3) := by decide +kernel
theorem dX0_become_41 : decode cX0_become 41 = .ok (.return_, 1) := by decide +kernel
theorem dX0_servedBy_0 : decode cX0_servedBy 0 = .ok (.iconst 0, 1) := by decide +kernel
theorem dX0_servedBy_1 : decode cX0_servedBy 1 = .ok (.istore_n 3, 1) := by decide +kernel
theorem dX0_servedBy_2 : decode cX0_servedBy 2 = .ok (.iconst 0, 1) := by decide +kernel
theorem dX0_servedBy_3 : decode cX0_servedBy 3 = .ok (.istore 4, 2) := by decide +kernel
theorem dX0_servedBy_5 : decode cX0_servedBy 5 = .ok (.iload 4, 2) := by decide +kernel
theorem dX0_servedBy_7 : decode cX0_servedBy 7 = .ok (.aload_n 0, 1) := by decide +kernel
theorem dX0_servedBy_8 : decode cX0_servedBy 8 = .ok (.getfield 18, 3) := by decide +kernel
theorem dX0_servedBy_11 : decode cX0_servedBy 11 = .ok (.if_icmp .ge 35, 3) := by decide +kernel
theorem dX0_servedBy_14 : decode cX0_servedBy 14 = .ok (.iload_n 3, 1) := by decide +kernel
theorem dX0_servedBy_15 : decode cX0_servedBy 15 = .ok (.aload_n 0, 1) := by decide +kernel
theorem dX0_servedBy_16 : decode cX0_servedBy 16 = .ok (.getfield 15, 3) := by decide +kernel
theorem dX0_servedBy_19 : decode cX0_servedBy 19 = .ok (.iload 4, 2) := by decide +kernel
theorem dX0_servedBy_21 : decode cX0_servedBy 21 = .ok (.invokestatic 26, 3) := by decide +kernel
theorem dX0_servedBy_24 : decode cX0_servedBy 24 = .ok (.lload_n 1, 1) := by decide +kernel
theorem dX0_servedBy_25 : decode cX0_servedBy 25 = .ok (.aload_n 0, 1) := by decide +kernel
theorem dX0_servedBy_26 : decode cX0_servedBy 26 = .ok (.getfield 9, 3) := by decide +kernel
theorem dX0_servedBy_29 : decode cX0_servedBy 29 = .ok (.iload 4, 2) := by decide +kernel
theorem dX0_servedBy_31 : decode cX0_servedBy 31 = .ok (.invokestatic 26, 3) := by decide +kernel
theorem dX0_servedBy_34 : decode cX0_servedBy 34 = .ok (.invokestatic 34, 3) := by decide +kernel
theorem dX0_servedBy_37 : decode cX0_servedBy 37 = .ok (.imul, 1) := by decide +kernel
theorem dX0_servedBy_38 : decode cX0_servedBy 38 = .ok (.iadd, 1) := by decide +kernel
theorem dX0_servedBy_39 : decode cX0_servedBy 39 = .ok (.istore_n 3, 1) := by decide +kernel
theorem dX0_servedBy_40 : decode cX0_servedBy 40 = .ok (.iinc 4 1, 3) := by decide +kernel
theorem dX0_servedBy_43 : decode cX0_servedBy 43 = .ok (.goto (-38), 3) := by decide +kernel
theorem dX0_servedBy_46 : decode cX0_servedBy 46 = .ok (.iload_n 3, 1) := by decide +kernel
theorem dX0_servedBy_47 : decode cX0_servedBy 47 = .ok (.ireturn, 1) := by decide +kernel
theorem dX1_init_0 : decode cX1_init 0 = .ok (.aload_n 0, 1) := by decide +kernel
theorem dX1_init_1 : decode cX1_init 1 = .ok (.invokespecial 1, 3) := by decide +kernel
theorem dX1_init_4 : decode cX1_init 4 = .ok (.aload_n 0, 1) := by decide +kernel
theorem dX1_init_5 : decode cX1_init 5 = .ok (.new 7, 3) := by decide +kernel
theorem dX1_init_8 : decode cX1_init 8 = .ok (.dup, 1) := by decide +kernel
theorem dX1_init_9 : decode cX1_init 9 = .ok (.invokespecial 9, 3) := by decide +kernel
theorem dX1_init_12 : decode cX1_init 12 = .ok (.putfield 10, 3) := by decide +kernel
theorem dX1_init_15 : decode cX1_init 15 = .ok (.aload_n 0, 1) := by decide +kernel
theorem dX1_init_16 : decode cX1_init 16 = .ok (.new 16, 3) := by decide +kernel
theorem dX1_init_19 : decode cX1_init 19 = .ok (.dup, 1) := by decide +kernel
theorem dX1_init_20 : decode cX1_init 20 = .ok (.invokespecial 18, 3) := by decide +kernel
theorem dX1_init_23 : decode cX1_init 23 = .ok (.putfield 19, 3) := by decide +kernel
theorem dX1_init_26 : decode cX1_init 26 = .ok (.aload_n 0, 1) := by decide +kernel
theorem dX1_init_27 : decode cX1_init 27 = .ok (.new 23, 3) := by decide +kernel
theorem dX1_init_30 : decode cX1_init 30 = .ok (.dup, 1) := by decide +kernel
theorem dX1_init_31 : decode cX1_init 31 = .ok (.invokespecial 25, 3) := by decide +kernel
theorem dX1_init_34 : decode cX1_init 34 = .ok (.putfield 26, 3) := by decide +kernel
theorem dX1_init_37 : decode cX1_init 37 = .ok (.return_, 1) := by decide +kernel
theorem dX1_isThere_0 : decode cX1_isThere 0 = .ok (.aload_n 0, 1) := by decide +kernel
theorem dX1_isThere_1 : decode cX1_isThere 1 = .ok (.getfield 30, 3) := by decide +kernel
theorem dX1_isThere_4 : decode cX1_isThere 4 = .ok (.ireturn, 1) := by decide +kernel
theorem dX1_words_0 : decode cX1_words 0 = .ok (.aload_n 0, 1) := by decide +kernel
theorem dX1_words_1 : decode cX1_words 1 = .ok (.getfield 10, 3) := by decide +kernel
theorem dX1_words_4 : decode cX1_words 4 = .ok (.areturn, 1) := by decide +kernel
theorem dX1_order_0 : decode cX1_order 0 = .ok (.aload_n 0, 1) := by decide +kernel
theorem dX1_order_1 : decode cX1_order 1 = .ok (.getfield 19, 3) := by decide +kernel
theorem dX1_order_4 : decode cX1_order 4 = .ok (.areturn, 1) := by decide +kernel
theorem dX1_aims_0 : decode cX1_aims 0 = .ok (.aload_n 0, 1) := by decide +kernel
theorem dX1_aims_1 : decode cX1_aims 1 = .ok (.getfield 26, 3) := by decide +kernel
theorem dX1_aims_4 : decode cX1_aims 4 = .ok (.areturn, 1) := by decide +kernel
theorem dX1_take_0 : decode cX1_take 0 = .ok (.aload_n 0, 1) := by decide +kernel
theorem dX1_take_1 : decode cX1_take 1 = .ok (.getfield 10, 3) := by decide +kernel
theorem dX1_take_4 : decode cX1_take 4 = .ok (.aload_n 1, 1) := by decide +kernel
theorem dX1_take_5 : decode cX1_take 5 = .ok (.invokevirtual 34, 3) := by decide +kernel
theorem dX1_take_8 : decode cX1_take 8 = .ok (.aload_n 0, 1) := by decide +kernel
theorem dX1_take_9 : decode cX1_take 9 = .ok (.getfield 19, 3) := by decide +kernel
theorem dX1_take_12 : decode cX1_take 12 = .ok (.aload_n 2, 1) := by decide +kernel
theorem dX1_take_13 : decode cX1_take 13 = .ok (.invokevirtual 38, 3) := by decide +kernel
theorem dX1_take_16 : decode cX1_take 16 = .ok (.aload_n 0, 1) := by decide +kernel
theorem dX1_take_17 : decode cX1_take 17 = .ok (.getfield 26, 3) := by decide +kernel
theorem dX1_take_20 : decode cX1_take 20 = .ok (.aload_n 3, 1) := by decide +kernel
theorem dX1_take_21 : decode cX1_take 21 = .ok (.invokevirtual 41, 3) := by decide +kernel
theorem dX1_take_24 : decode cX1_take 24 = .ok (.aload_n 0, 1) := by decide +kernel
theorem dX1_take_25 : decode cX1_take 25 = .ok (.iconst 1, 1) := by decide +kernel
theorem dX1_take_26 : decode cX1_take 26 = .ok (.putfield 30, 3) := by decide +kernel
theorem dX1_take_29 : decode cX1_take 29 = .ok (.return_, 1) := by decide +kernel
theorem dX2_init_0 : decode cX2_init 0 = .ok (.aload_n 0, 1) := by decide +kernel
theorem dX2_init_1 : decode cX2_init 1 = .ok (.invokespecial 3, 3) := by decide +kernel
theorem dX2_init_4 : decode cX2_init 4 = .ok (.aload_n 0, 1) := by decide +kernel
theorem dX2_init_5 : decode cX2_init 5 = .ok (.new 9, 3) := by decide +kernel
theorem dX2_init_8 : decode cX2_init 8 = .ok (.dup, 1) := by decide +kernel
theorem dX2_init_9 : decode cX2_init 9 = .ok (.invokespecial 11, 3) := by decide +kernel
theorem dX2_init_12 : decode cX2_init 12 = .ok (.putfield 12, 3) := by decide +kernel
theorem dX2_init_15 : decode cX2_init 15 = .ok (.aload_n 0, 1) := by decide +kernel
theorem dX2_init_16 : decode cX2_init 16 = .ok (.sipush 200, 3) := by decide +kernel
theorem dX2_init_19 : decode cX2_init 19 = .ok (.newarray .long, 2) := by decide +kernel
theorem dX2_init_21 : decode cX2_init 21 = .ok (.putfield 18, 3) := by decide +kernel
theorem dX2_init_24 : decode cX2_init 24 = .ok (.aload_n 0, 1) := by decide +kernel
theorem dX2_init_25 : decode cX2_init 25 = .ok (.sipush 200, 3) := by decide +kernel
theorem dX2_init_28 : decode cX2_init 28 = .ok (.newarray .int, 2) := by decide +kernel
theorem dX2_init_30 : decode cX2_init 30 = .ok (.putfield 22, 3) := by decide +kernel
theorem dX2_init_33 : decode cX2_init 33 = .ok (.aload_n 0, 1) := by decide +kernel
theorem dX2_init_34 : decode cX2_init 34 = .ok (.sipush 200, 3) := by decide +kernel
theorem dX2_init_37 : decode cX2_init 37 = .ok (.newarray .int, 2) := by decide +kernel
theorem dX2_init_39 : decode cX2_init 39 = .ok (.putfield 26, 3) := by decide +kernel
theorem dX2_init_42 : decode cX2_init 42 = .ok (.return_, 1) := by decide +kernel
theorem dX2_isMade_0 : decode cX2_isMade 0 = .ok (.aload_n 0, 1) := by decide +kernel
theorem dX2_isMade_1 : decode cX2_isMade 1 = .ok (.getfield 29, 3) := by decide +kernel
theorem dX2_isMade_4 : decode cX2_isMade 4 = .ok (.ireturn, 1) := by decide +kernel
theorem dX2_forget_0 : decode cX2_forget 0 = .ok (.aload_n 0, 1) := by decide +kernel
theorem dX2_forget_1 : decode cX2_forget 1 = .ok (.iconst 0, 1) := by decide +kernel
theorem dX2_forget_2 : decode cX2_forget 2 = .ok (.putfield 29, 3) := by decide +kernel
theorem dX2_forget_5 : decode cX2_forget 5 = .ok (.return_, 1) := by decide +kernel
theorem dX2_make_0 : decode cX2_make 0 = .ok (.aload_n 0, 1) := by decide +kernel
theorem dX2_make_1 : decode cX2_make 1 = .ok (.iload 4, 2) := by decide +kernel
theorem dX2_make_3 : decode cX2_make 3 = .ok (.putfield 33, 3) := by decide +kernel
theorem dX2_make_6 : decode cX2_make 6 = .ok (.iconst 0, 1) := by decide +kernel
theorem dX2_make_7 : decode cX2_make 7 = .ok (.istore 5, 2) := by decide +kernel
theorem dX2_make_9 : decode cX2_make 9 = .ok (.iload 5, 2) := by decide +kernel
theorem dX2_make_11 : decode cX2_make 11 = .ok (.aload_n 0, 1) := by decide +kernel
theorem dX2_make_12 : decode cX2_make 12 = .ok (.getfield 33, 3) := by decide +kernel
theorem dX2_make_15 : decode cX2_make 15 = .ok (.if_icmp .ge 75, 3) := by decide +kernel
theorem dX2_make_18 : decode cX2_make 18 = .ok (.aload_n 3, 1) := by decide +kernel
theorem dX2_make_19 : decode cX2_make 19 = .ok (.aload_n 1, 1) := by decide +kernel
theorem dX2_make_20 : decode cX2_make 20 = .ok (.aload_n 2, 1) := by decide +kernel
theorem dX2_make_21 : decode cX2_make 21 = .ok (.iload 5, 2) := by decide +kernel
theorem dX2_make_23 : decode cX2_make 23 = .ok (.i2l, 1) := by decide +kernel
theorem dX2_make_24 : decode cX2_make 24 = .ok (.invokevirtual 37, 3) := by decide +kernel
theorem dX2_make_27 : decode cX2_make 27 = .ok (.aload_n 0, 1) := by decide +kernel
theorem dX2_make_28 : decode cX2_make 28 = .ok (.getfield 12, 3) := by decide +kernel
theorem dX2_make_31 : decode cX2_make 31 = .ok (.aload_n 3, 1) := by decide +kernel
theorem dX2_make_32 : decode cX2_make 32 = .ok (.aload_n 1, 1) := by decide +kernel
theorem dX2_make_33 : decode cX2_make 33 = .ok (.invokevirtual 43, 3) := by decide +kernel
theorem dX2_make_36 : decode cX2_make 36 = .ok (.aload_n 0, 1) := by decide +kernel
theorem dX2_make_37 : decode cX2_make 37 = .ok (.getfield 18, 3) := by decide +kernel
theorem dX2_make_40 : decode cX2_make 40 = .ok (.iload 5, 2) := by decide +kernel
theorem dX2_make_42 : decode cX2_make 42 = .ok (.aload_n 0, 1) := by decide +kernel
theorem dX2_make_43 : decode cX2_make 43 = .ok (.getfield 12, 3) := by decide +kernel
theorem dX2_make_46 : decode cX2_make 46 = .ok (.invokevirtual 47, 3) := by decide +kernel
theorem dX2_make_49 : decode cX2_make 49 = .ok (.invokestatic 51, 3) := by decide +kernel
theorem dX2_make_52 : decode cX2_make 52 = .ok (.aload_n 0, 1) := by decide +kernel
theorem dX2_make_53 : decode cX2_make 53 = .ok (.getfield 22, 3) := by decide +kernel
theorem dX2_make_56 : decode cX2_make 56 = .ok (.iload 5, 2) := by decide +kernel
theorem dX2_make_58 : decode cX2_make 58 = .ok (.aload_n 0, 1) := by decide +kernel
theorem dX2_make_59 : decode cX2_make 59 = .ok (.getfield 12, 3) := by decide +kernel
theorem dX2_make_62 : decode cX2_make 62 = .ok (.invokevirtual 55, 3) := by decide +kernel
theorem dX2_make_65 : decode cX2_make 65 = .ok (.invokestatic 59, 3) := by decide +kernel
theorem dX2_make_68 : decode cX2_make 68 = .ok (.aload_n 0, 1) := by decide +kernel
theorem dX2_make_69 : decode cX2_make 69 = .ok (.getfield 26, 3) := by decide +kernel
theorem dX2_make_72 : decode cX2_make 72 = .ok (.iload 5, 2) := by decide +kernel
theorem dX2_make_74 : decode cX2_make 74 = .ok (.aload_n 0, 1) := by decide +kernel
theorem dX2_make_75 : decode cX2_make 75 = .ok (.getfield 12, 3) := by decide +kernel
theorem dX2_make_78 : decode cX2_make 78 = .ok (.invokevirtual 62, 3) := by decide +kernel
theorem dX2_make_81 : decode cX2_make 81 = .ok (.invokestatic 59, 3) := by decide +kernel
theorem dX2_make_84 : decode cX2_make 84 = .ok (.iinc 5 1, 3) := by decide +kernel
theorem dX2_make_87 : decode cX2_make 87 = .ok (.goto (-78), 3) := by decide +kernel
theorem dX2_make_90 : decode cX2_make 90 = .ok (.aload_n 0, 1) := by decide +kernel
theorem dX2_make_91 : decode cX2_make 91 = .ok (.iconst 1, 1) := by decide +kernel
theorem dX2_make_92 : decode cX2_make 92 = .ok (.putfield 29, 3) := by decide +kernel
theorem dX2_make_95 : decode cX2_make 95 = .ok (.return_, 1) := by decide +kernel
theorem dX2_size_0 : decode cX2_size 0 = .ok (.aload_n 0, 1) := by decide +kernel
theorem dX2_size_1 : decode cX2_size 1 = .ok (.getfield 33, 3) := by decide +kernel
theorem dX2_size_4 : decode cX2_size 4 = .ok (.ireturn, 1) := by decide +kernel
theorem dX2_meaning_0 : decode cX2_meaning 0 = .ok (.aload_n 0, 1) := by decide +kernel
theorem dX2_meaning_1 : decode cX2_meaning 1 = .ok (.getfield 18, 3) := by decide +kernel
theorem dX2_meaning_4 : decode cX2_meaning 4 = .ok (.iload_n 1, 1) := by decide +kernel
theorem dX2_meaning_5 : decode cX2_meaning 5 = .ok (.invokestatic 65, 3) := by decide +kernel
theorem dX2_meaning_8 : decode cX2_meaning 8 = .ok (.lreturn, 1) := by decide +kernel
theorem dX2_idlePlaces_0 : decode cX2_idlePlaces 0 = .ok (.aload_n 0, 1) := by decide +kernel
theorem dX2_idlePlaces_1 : decode cX2_idlePlaces 1 = .ok (.getfield 22, 3) := by decide +kernel
theorem dX2_idlePlaces_4 : decode cX2_idlePlaces 4 = .ok (.iload_n 1, 1) := by decide +kernel
theorem dX2_idlePlaces_5 : decode cX2_idlePlaces 5 = .ok (.invokestatic 69, 3) := by decide +kernel
theorem dX2_idlePlaces_8 : decode cX2_idlePlaces 8 = .ok (.ireturn, 1) := by decide +kernel
theorem dX2_isMet_0 : decode cX2_isMet 0 = .ok (.aload_n 0, 1) := by decide +kernel
theorem dX2_isMet_1 : decode cX2_isMet 1 = .ok (.getfield 26, 3) := by decide +kernel
theorem dX2_isMet_4 : decode cX2_isMet 4 = .ok (.iload_n 1, 1) := by decide +kernel
theorem dX2_isMet_5 : decode cX2_isMet 5 = .ok (.invokestatic 69, 3) := by decide +kernel
theorem dX2_isMet_8 : decode cX2_isMet 8 = .ok (.i2l, 1) := by decide +kernel
theorem dX2_isMet_9 : decode cX2_isMet 9 = .ok (.iload_n 2, 1) := by decide +kernel
theorem dX2_isMet_10 : decode cX2_isMet 10 = .ok (.invokestatic 72, 3) := by decide +kernel
theorem dX2_isMet_13 : decode cX2_isMet 13 = .ok (.iconst 1, 1) := by decide +kernel
theorem dX2_isMet_14 : decode cX2_isMet 14 = .ok (.if_icmp .ne 7, 3) := by decide +kernel
theorem dX2_isMet_17 : decode cX2_isMet 17 = .ok (.iconst 1, 1) := by decide +kernel
theorem dX2_isMet_18 : decode cX2_isMet 18 = .ok (.goto 4, 3) := by decide +kernel
theorem dX2_isMet_21 : decode cX2_isMet 21 = .ok (.iconst 0, 1) := by decide +kernel
theorem dX2_isMet_22 : decode cX2_isMet 22 = .ok (.ireturn, 1) := by decide +kernel
theorem dX2_lettingAt_0 : decode cX2_lettingAt 0 = .ok (.iconst 0, 1) := by decide +kernel
theorem dX2_lettingAt_1 : decode cX2_lettingAt 1 = .ok (.istore_n 2, 1) := by decide +kernel
theorem dX2_lettingAt_2 : decode cX2_lettingAt 2 = .ok (.iconst 0, 1) := by decide +kernel
theorem dX2_lettingAt_3 : decode cX2_lettingAt 3 = .ok (.istore_n 3, 1) := by decide +kernel
theorem dX2_lettingAt_4 : decode cX2_lettingAt 4 = .ok (.iload_n 3, 1) := by decide +kernel
theorem dX2_lettingAt_5 : decode cX2_lettingAt 5 = .ok (.aload_n 0, 1) := by decide +kernel
theorem dX2_lettingAt_6 : decode cX2_lettingAt 6 = .ok (.getfield 33, 3) := by decide +kernel
theorem dX2_lettingAt_9 : decode cX2_lettingAt 9 = .ok (.if_icmp .ge 21, 3) := by decide +kernel
theorem dX2_lettingAt_12 : decode cX2_lettingAt 12 = .ok (.iload_n 2, 1) := by decide +kernel
theorem dX2_lettingAt_13 : decode cX2_lettingAt 13 = .ok (.aload_n 0, 1) := by decide +kernel
theorem dX2_lettingAt_14 : decode cX2_lettingAt 14 = .ok (.iload_n 3, 1) := by decide +kernel
theorem dX2_lettingAt_15 : decode cX2_lettingAt 15 = .ok (.invokevirtual 76, 3) := by decide +kernel
theorem dX2_lettingAt_18 : decode cX2_lettingAt 18 = .ok (.iload_n 1, 1) := by decide +kernel
theorem dX2_lettingAt_19 : decode cX2_lettingAt 19 = .ok (.invokestatic 72, 3) := by decide +kernel
theorem dX2_lettingAt_22 : decode cX2_lettingAt 22 = .ok (.iadd, 1) := by decide +kernel
theorem dX2_lettingAt_23 : decode cX2_lettingAt 23 = .ok (.istore_n 2, 1) := by decide +kernel
theorem dX2_lettingAt_24 : decode cX2_lettingAt 24 = .ok (.iinc 3 1, 3) := by decide +kernel
theorem dX2_lettingAt_27 : decode cX2_lettingAt 27 = .ok (.goto (-23), 3) := by decide +kernel
theorem dX2_lettingAt_30 : decode cX2_lettingAt 30 = .ok (.iload_n 2, 1) := by decide +kernel
theorem dX2_lettingAt_31 : decode cX2_lettingAt 31 = .ok (.ireturn, 1) := by decide +kernel
theorem dX2_letByAll_0 : decode cX2_letByAll 0 = .ok (.ldc2_w 79, 3) := by decide +kernel
theorem dX2_letByAll_3 : decode cX2_letByAll 3 = .ok (.lstore_n 1, 1) := by decide +kernel
theorem dX2_letByAll_4 : decode cX2_letByAll 4 = .ok (.iconst 0, 1) := by decide +kernel
theorem dX2_letByAll_5 : decode cX2_letByAll 5 = .ok (.istore_n 3, 1) := by decide +kernel
theorem dX2_letByAll_6 : decode cX2_letByAll 6 = .ok (.iload_n 3, 1) := by decide +kernel
theorem dX2_letByAll_7 : decode cX2_letByAll 7 = .ok (.aload_n 0, 1) := by decide +kernel
theorem dX2_letByAll_8 : decode cX2_letByAll 8 = .ok (.getfield 33, 3) := by decide +kernel
theorem dX2_letByAll_11 : decode cX2_letByAll 11 = .ok (.if_icmp .ge 17, 3) := by decide +kernel
theorem dX2_letByAll_14 : decode cX2_letByAll 14 = .ok (.lload_n 1, 1) := by decide +kernel
theorem dX2_letByAll_15 : decode cX2_letByAll 15 = .ok (.aload_n 0, 1) := by decide +kernel
theorem dX2_letByAll_16 : decode cX2_letByAll 16 = .ok (.iload_n 3, 1) := by decide +kernel
theorem dX2_letByAll_17 : decode cX2_letByAll 17 = .ok (.invokevirtual 76, 3) := by decide +kernel
theorem dX2_letByAll_20 : decode cX2_letByAll 20 = .ok (.land, 1) := by decide +kernel
theorem dX2_letByAll_21 : decode cX2_letByAll 21 = .ok (.lstore_n 1, 1) := by decide +kernel
theorem dX2_letByAll_22 : decode cX2_letByAll 22 = .ok (.iinc 3 1, 3) := by decide +kernel
theorem dX2_letByAll_25 : decode cX2_letByAll 25 = .ok (.goto (-19), 3) := by decide +kernel
theorem dX2_letByAll_28 : decode cX2_letByAll 28 = .ok (.lload_n 1, 1) := by decide +kernel
theorem dX2_letByAll_29 : decode cX2_letByAll 29 = .ok (.lreturn, 1) := by decide +kernel
theorem dX2_barredByAll_0 : decode cX2_barredByAll 0 = .ok (.ldc2_w 79, 3) := by decide +kernel
theorem dX2_barredByAll_3 : decode cX2_barredByAll 3 = .ok (.lstore_n 1, 1) := by decide +kernel
theorem dX2_barredByAll_4 : decode cX2_barredByAll 4 = .ok (.iconst 0, 1) := by decide +kernel
theorem dX2_barredByAll_5 : decode cX2_barredByAll 5 = .ok (.istore_n 3, 1) := by decide +kernel
theorem dX2_barredByAll_6 : decode cX2_barredByAll 6 = .ok (.iload_n 3, 1) := by decide +kernel
theorem dX2_barredByAll_7 : decode cX2_barredByAll 7 = .ok (.aload_n 0, 1) := by decide +kernel
theorem dX2_barredByAll_8 : decode cX2_barredByAll 8 = .ok (.getfield 33, 3) := by decide +kernel
theorem dX2_barredByAll_11 : decode cX2_barredByAll 11 = .ok (.if_icmp .ge 21, 3) := by decide +kernel
theorem dX2_barredByAll_14 : decode cX2_barredByAll 14 = .ok (.lload_n 1, 1) := by decide +kernel
theorem dX2_barredByAll_15 : decode cX2_barredByAll 15 = .ok (.aload_n 0, 1) := by decide +kernel
theorem dX2_barredByAll_16 : decode cX2_barredByAll 16 = .ok (.iload_n 3, 1) := by decide +kernel
theorem dX2_barredByAll_17 : decode cX2_barredByAll 17 = .ok (.invokevirtual 76, 3) := by decide +kernel
theorem dX2_barredByAll_20 : decode cX2_barredByAll 20 = .ok (.ldc2_w 81, 3) := by decide +kernel
theorem dX2_barredByAll_23 : decode cX2_barredByAll 23 = .ok (.lxor, 1) := by decide +kernel
theorem dX2_barredByAll_24 : decode cX2_barredByAll 24 = .ok (.land, 1) := by decide +kernel
theorem dX2_barredByAll_25 : decode cX2_barredByAll 25 = .ok (.lstore_n 1, 1) := by decide +kernel
theorem dX2_barredByAll_26 : decode cX2_barredByAll 26 = .ok (.iinc 3 1, 3) := by decide +kernel
theorem dX2_barredByAll_29 : decode cX2_barredByAll 29 = .ok (.goto (-23), 3) := by decide +kernel
theorem dX2_barredByAll_32 : decode cX2_barredByAll 32 = .ok (.lload_n 1, 1) := by decide +kernel
theorem dX2_barredByAll_33 : decode cX2_barredByAll 33 = .ok (.lreturn, 1) := by decide +kernel
theorem dX2_idleInAll_0 : decode cX2_idleInAll 0 = .ok (.aload_n 0, 1) := by decide +kernel
theorem dX2_idleInAll_1 : decode cX2_idleInAll 1 = .ok (.iconst 0, 1) := by decide +kernel
theorem dX2_idleInAll_2 : decode cX2_idleInAll 2 = .ok (.invokevirtual 83, 3) := by decide +kernel
theorem dX2_idleInAll_5 : decode cX2_idleInAll 5 = .ok (.istore_n 1, 1) := by decide +kernel
theorem dX2_idleInAll_6 : decode cX2_idleInAll 6 = .ok (.iconst 1, 1) := by decide +kernel
theorem dX2_idleInAll_7 : decode cX2_idleInAll 7 = .ok (.istore_n 2, 1) := by decide +kernel
theorem dX2_idleInAll_8 : decode cX2_idleInAll 8 = .ok (.iload_n 2, 1) := by decide +kernel
theorem dX2_idleInAll_9 : decode cX2_idleInAll 9 = .ok (.aload_n 0, 1) := by decide +kernel
theorem dX2_idleInAll_10 : decode cX2_idleInAll 10 = .ok (.getfield 33, 3) := by decide +kernel
theorem dX2_idleInAll_13 : decode cX2_idleInAll 13 = .ok (.if_icmp .ge 17, 3) := by decide +kernel
theorem dX2_idleInAll_16 : decode cX2_idleInAll 16 = .ok (.iload_n 1, 1) := by decide +kernel
theorem dX2_idleInAll_17 : decode cX2_idleInAll 17 = .ok (.aload_n 0, 1) := by decide +kernel
theorem dX2_idleInAll_18 : decode cX2_idleInAll 18 = .ok (.iload_n 2, 1) := by decide +kernel
theorem dX2_idleInAll_19 : decode cX2_idleInAll 19 = .ok (.invokevirtual 83, 3) := by decide +kernel
theorem dX2_idleInAll_22 : decode cX2_idleInAll 22 = .ok (.iand, 1) := by decide +kernel
theorem dX2_idleInAll_23 : decode cX2_idleInAll 23 = .ok (.istore_n 1, 1) := by decide +kernel
theorem dX2_idleInAll_24 : decode cX2_idleInAll 24 = .ok (.iinc 2 1, 3) := by decide +kernel
theorem dX2_idleInAll_27 : decode cX2_idleInAll 27 = .ok (.goto (-19), 3) := by decide +kernel
theorem dX2_idleInAll_30 : decode cX2_idleInAll 30 = .ok (.iload_n 1, 1) := by decide +kernel
theorem dX2_idleInAll_31 : decode cX2_idleInAll 31 = .ok (.ireturn, 1) := by decide +kernel
theorem dX2_areAtOdds_0 : decode cX2_areAtOdds 0 = .ok (.iconst 0, 1) := by decide +kernel
theorem dX2_areAtOdds_1 : decode cX2_areAtOdds 1 = .ok (.istore_n 3, 1) := by decide +kernel
theorem dX2_areAtOdds_2 : decode cX2_areAtOdds 2 = .ok (.iconst 0, 1) := by decide +kernel
theorem dX2_areAtOdds_3 : decode cX2_areAtOdds 3 = .ok (.istore 4, 2) := by decide +kernel
theorem dX2_areAtOdds_5 : decode cX2_areAtOdds 5 = .ok (.iconst 0, 1) := by decide +kernel
theorem dX2_areAtOdds_6 : decode cX2_areAtOdds 6 = .ok (.istore 5, 2) := by decide +kernel
theorem dX2_areAtOdds_8 : decode cX2_areAtOdds 8 = .ok (.iload 5, 2) := by decide +kernel
theorem dX2_areAtOdds_10 : decode cX2_areAtOdds 10 = .ok (.aload_n 0, 1) := by decide +kernel
theorem dX2_areAtOdds_11 : decode cX2_areAtOdds 11 = .ok (.getfield 33, 3) := by decide +kernel
theorem dX2_areAtOdds_14 : decode cX2_areAtOdds 14 = .ok (.if_icmp .ge 73, 3) := by decide +kernel
theorem dX2_areAtOdds_17 : decode cX2_areAtOdds 17 = .ok (.aload_n 0, 1) := by decide +kernel
theorem dX2_areAtOdds_18 : decode cX2_areAtOdds 18 = .ok (.iload 5, 2) := by decide +kernel
theorem dX2_areAtOdds_20 : decode cX2_areAtOdds 20 = .ok (.iload_n 1, 1) := by decide +kernel
theorem dX2_areAtOdds_21 : decode cX2_areAtOdds 21 = .ok (.invokevirtual 86, 3) := by decide +kernel
theorem dX2_areAtOdds_24 : decode cX2_areAtOdds 24 = .ok (.ifCond .eq 15, 3) := by decide +kernel
theorem dX2_areAtOdds_27 : decode cX2_areAtOdds 27 = .ok (.aload_n 0, 1) := by decide +kernel
theorem dX2_areAtOdds_28 : decode cX2_areAtOdds 28 = .ok (.iload 5, 2) := by decide +kernel
theorem dX2_areAtOdds_30 : decode cX2_areAtOdds 30 = .ok (.iload_n 2, 1) := by decide +kernel
theorem dX2_areAtOdds_31 : decode cX2_areAtOdds 31 = .ok (.invokevirtual 86, 3) := by decide +kernel
theorem dX2_areAtOdds_34 : decode cX2_areAtOdds 34 = .ok (.ifCond .eq 5, 3) := by decide +kernel
theorem dX2_areAtOdds_37 : decode cX2_areAtOdds 37 = .ok (.iconst 0, 1) := by decide +kernel
theorem dX2_areAtOdds_38 : decode cX2_areAtOdds 38 = .ok (.ireturn, 1) := by decide +kernel
theorem dX2_areAtOdds_39 : decode cX2_areAtOdds 39 = .ok (.iload_n 3, 1) := by decide +kernel
theorem dX2_areAtOdds_40 : decode cX2_areAtOdds 40 = .ok (.ifCond .ne 13, 3) := by decide +kernel
theorem dX2_areAtOdds_43 : decode cX2_areAtOdds 43 = .ok (.aload_n 0, 1) := by decide +kernel
theorem dX2_areAtOdds_44 : decode cX2_areAtOdds 44 = .ok (.iload 5, 2) := by decide +kernel
theorem dX2_areAtOdds_46 : decode cX2_areAtOdds 46 = .ok (.iload_n 1, 1) := by decide +kernel
theorem dX2_areAtOdds_47 : decode cX2_areAtOdds 47 = .ok (.invokevirtual 86, 3) := by decide +kernel
theorem dX2_areAtOdds_50 : decode cX2_areAtOdds 50 = .ok (.ifCond .eq 7, 3) := by decide +kernel
theorem dX2_areAtOdds_53 : decode cX2_areAtOdds 53 = .ok (.iconst 1, 1) := by decide +kernel
theorem dX2_areAtOdds_54 : decode cX2_areAtOdds 54 = .ok (.goto 4, 3) := by decide +kernel
theorem dX2_areAtOdds_57 : decode cX2_areAtOdds 57 = .ok (.iconst 0, 1) := by decide +kernel
theorem dX2_areAtOdds_58 : decode cX2_areAtOdds 58 = .ok (.istore_n 3, 1) := by decide +kernel
theorem dX2_areAtOdds_59 : decode cX2_areAtOdds 59 = .ok (.iload 4, 2) := by decide +kernel
theorem dX2_areAtOdds_61 : decode cX2_areAtOdds 61 = .ok (.ifCond .ne 13, 3) := by decide +kernel
theorem dX2_areAtOdds_64 : decode cX2_areAtOdds 64 = .ok (.aload_n 0, 1) := by decide +kernel
theorem dX2_areAtOdds_65 : decode cX2_areAtOdds 65 = .ok (.iload 5, 2) := by decide +kernel
theorem dX2_areAtOdds_67 : decode cX2_areAtOdds 67 = .ok (.iload_n 2, 1) := by decide +kernel
theorem dX2_areAtOdds_68 : decode cX2_areAtOdds 68 = .ok (.invokevirtual 86, 3) := by decide +kernel
theorem dX2_areAtOdds_71 : decode cX2_areAtOdds 71 = .ok (.ifCond .eq 7, 3) := by decide +kernel
theorem dX2_areAtOdds_74 : decode cX2_areAtOdds 74 = .ok (.iconst 1, 1) := by decide +kernel
theorem dX2_areAtOdds_75 : decode cX2_areAtOdds 75 = .ok (.goto 4, 3) := by decide +kernel
theorem dX2_areAtOdds_78 : decode cX2_areAtOdds 78 = .ok (.iconst 0, 1) := by decide +kernel
theorem dX2_areAtOdds_79 : decode cX2_areAtOdds 79 = .ok (.istore 4, 2) := by decide +kernel
theorem dX2_areAtOdds_81 : decode cX2_areAtOdds 81 = .ok (.iinc 5 1, 3) := by decide +kernel
theorem dX2_areAtOdds_84 : decode cX2_areAtOdds 84 = .ok (.goto (-76), 3) := by decide +kernel
theorem dX2_areAtOdds_87 : decode cX2_areAtOdds 87 = .ok (.iload_n 3, 1) := by decide +kernel
theorem dX2_areAtOdds_88 : decode cX2_areAtOdds 88 = .ok (.ifCond .eq 12, 3) := by decide +kernel
theorem dX2_areAtOdds_91 : decode cX2_areAtOdds 91 = .ok (.iload 4, 2) := by decide +kernel
theorem dX2_areAtOdds_93 : decode cX2_areAtOdds 93 = .ok (.ifCond .eq 7, 3) := by decide +kernel
theorem dX2_areAtOdds_96 : decode cX2_areAtOdds 96 = .ok (.iconst 1, 1) := by decide +kernel
theorem dX2_areAtOdds_97 : decode cX2_areAtOdds 97 = .ok (.goto 4, 3) := by decide +kernel
theorem dX2_areAtOdds_100 : decode cX2_areAtOdds 100 = .ok (.iconst 0, 1) := by decide +kernel
theorem dX2_areAtOdds_101 : decode cX2_areAtOdds 101 = .ok (.ireturn, 1) := by decide +kernel
theorem dX2_evenestCase_0 : decode cX2_evenestCase 0 = .ok (.iconst 0, 1) := by decide +kernel
theorem dX2_evenestCase_1 : decode cX2_evenestCase 1 = .ok (.istore_n 1, 1) := by decide +kernel
theorem dX2_evenestCase_2 : decode cX2_evenestCase 2 = .ok (.aload_n 0, 1) := by decide +kernel
theorem dX2_evenestCase_3 : decode cX2_evenestCase 3 = .ok (.getfield 33, 3) := by decide +kernel
theorem dX2_evenestCase_6 : decode cX2_evenestCase 6 = .ok (.iconst 1, 1) := by decide +kernel
theorem dX2_evenestCase_7 : decode cX2_evenestCase 7 = .ok (.iadd, 1) := by decide +kernel
theorem dX2_evenestCase_8 : decode cX2_evenestCase 8 = .ok (.istore_n 2, 1) := by decide +kernel
theorem dX2_evenestCase_9 : decode cX2_evenestCase 9 = .ok (.iconst 0, 1) := by decide +kernel
theorem dX2_evenestCase_10 : decode cX2_evenestCase 10 = .ok (.istore_n 3, 1) := by decide +kernel
theorem dX2_evenestCase_11 : decode cX2_evenestCase 11 = .ok (.iload_n 3, 1) := by decide +kernel
theorem dX2_evenestCase_12 : decode cX2_evenestCase 12 = .ok (.bipush 32, 2) := by decide +kernel
theorem dX2_evenestCase_14 : decode cX2_evenestCase 14 = .ok (.if_icmp .ge 37, 3) := by decide +kernel
theorem dX2_evenestCase_17 : decode cX2_evenestCase 17 = .ok (.iconst 2, 1) := by decide +kernel
theorem dX2_evenestCase_18 : decode cX2_evenestCase 18 = .ok (.aload_n 0, 1) := by decide +kernel
theorem dX2_evenestCase_19 : decode cX2_evenestCase 19 = .ok (.iload_n 3, 1) := by decide +kernel
theorem dX2_evenestCase_20 : decode cX2_evenestCase 20 = .ok (.invokevirtual 90, 3) := by decide +kernel
theorem dX2_evenestCase_23 : decode cX2_evenestCase 23 = .ok (.imul, 1) := by decide +kernel
theorem dX2_evenestCase_24 : decode cX2_evenestCase 24 = .ok (.aload_n 0, 1) := by decide +kernel
theorem dX2_evenestCase_25 : decode cX2_evenestCase 25 = .ok (.getfield 33, 3) := by decide +kernel
theorem dX2_evenestCase_28 : decode cX2_evenestCase 28 = .ok (.isub, 1) := by decide +kernel
theorem dX2_evenestCase_29 : decode cX2_evenestCase 29 = .ok (.invokestatic 93, 3) := by decide +kernel
theorem dX2_evenestCase_32 : decode cX2_evenestCase 32 = .ok (.istore 4, 2) := by decide +kernel
theorem dX2_evenestCase_34 : decode cX2_evenestCase 34 = .ok (.iload 4, 2) := by decide +kernel
theorem dX2_evenestCase_36 : decode cX2_evenestCase 36 = .ok (.iload_n 2, 1) := by decide +kernel
theorem dX2_evenestCase_37 : decode cX2_evenestCase 37 = .ok (.if_icmp .ge 8, 3) := by decide +kernel
theorem dX2_evenestCase_40 : decode cX2_evenestCase 40 = .ok (.iload 4, 2) := by decide +kernel
theorem dX2_evenestCase_42 : decode cX2_evenestCase 42 = .ok (.istore_n 2, 1) := by decide +kernel
theorem dX2_evenestCase_43 : decode cX2_evenestCase 43 = .ok (.iload_n 3, 1) := by decide +kernel
theorem dX2_evenestCase_44 : decode cX2_evenestCase 44 = .ok (.istore_n 1, 1) := by decide +kernel
theorem dX2_evenestCase_45 : decode cX2_evenestCase 45 = .ok (.iinc 3 1, 3) := by decide +kernel
theorem dX2_evenestCase_48 : decode cX2_evenestCase 48 = .ok (.goto (-37), 3) := by decide +kernel
theorem dX2_evenestCase_51 : decode cX2_evenestCase 51 = .ok (.iload_n 1, 1) := by decide +kernel
theorem dX2_evenestCase_52 : decode cX2_evenestCase 52 = .ok (.ireturn, 1) := by decide +kernel
theorem dX3_init_0 : decode cX3_init 0 = .ok (.aload_n 0, 1) := by decide +kernel
theorem dX3_init_1 : decode cX3_init 1 = .ok (.invokespecial 3, 3) := by decide +kernel
theorem dX3_init_4 : decode cX3_init 4 = .ok (.aload_n 0, 1) := by decide +kernel
theorem dX3_init_5 : decode cX3_init 5 = .ok (.sipush 484, 3) := by decide +kernel
theorem dX3_init_8 : decode cX3_init 8 = .ok (.newarray .int, 2) := by decide +kernel
theorem dX3_init_10 : decode cX3_init 10 = .ok (.putfield 11, 3) := by decide +kernel
theorem dX3_init_13 : decode cX3_init 13 = .ok (.aload_n 0, 1) := by decide +kernel
theorem dX3_init_14 : decode cX3_init 14 = .ok (.sipush 200, 3) := by decide +kernel
theorem dX3_init_17 : decode cX3_init 17 = .ok (.newarray .int, 2) := by decide +kernel
theorem dX3_init_19 : decode cX3_init 19 = .ok (.putfield 15, 3) := by decide +kernel
theorem dX3_init_22 : decode cX3_init 22 = .ok (.return_, 1) := by decide +kernel
theorem dX3_begin_0 : decode cX3_begin 0 = .ok (.aload_n 0, 1) := by decide +kernel
theorem dX3_begin_1 : decode cX3_begin 1 = .ok (.iconst 0, 1) := by decide +kernel
theorem dX3_begin_2 : decode cX3_begin 2 = .ok (.putfield 18, 3) := by decide +kernel
theorem dX3_begin_5 : decode cX3_begin 5 = .ok (.aload_n 0, 1) := by decide +kernel
theorem dX3_begin_6 : decode cX3_begin 6 = .ok (.iconst 0, 1) := by decide +kernel
theorem dX3_begin_7 : decode cX3_begin 7 = .ok (.putfield 22, 3) := by decide +kernel
theorem dX3_begin_10 : decode cX3_begin 10 = .ok (.iconst 0, 1) := by decide +kernel
theorem dX3_begin_11 : decode cX3_begin 11 = .ok (.istore_n 2, 1) := by decide +kernel
theorem dX3_begin_12 : decode cX3_begin 12 = .ok (.iload_n 2, 1) := by decide +kernel
theorem dX3_begin_13 : decode cX3_begin 13 = .ok (.aload_n 0, 1) := by decide +kernel
theorem dX3_begin_14 : decode cX3_begin 14 = .ok (.getfield 11, 3) := by decide +kernel
theorem dX3_begin_17 : decode cX3_begin 17 = .ok (.arraylength, 1) := by decide +kernel
theorem dX3_begin_18 : decode cX3_begin 18 = .ok (.if_icmp .ge 18, 3) := by decide +kernel
theorem dX3_begin_21 : decode cX3_begin 21 = .ok (.aload_n 0, 1) := by decide +kernel
theorem dX3_begin_22 : decode cX3_begin 22 = .ok (.getfield 11, 3) := by decide +kernel
theorem dX3_begin_25 : decode cX3_begin 25 = .ok (.iload_n 2, 1) := by decide +kernel
theorem dX3_begin_26 : decode cX3_begin 26 = .ok (.iconst 0, 1) := by decide +kernel
theorem dX3_begin_27 : decode cX3_begin 27 = .ok (.invokestatic 25, 3) := by decide +kernel
theorem dX3_begin_30 : decode cX3_begin 30 = .ok (.iinc 2 1, 3) := by decide +kernel
theorem dX3_begin_33 : decode cX3_begin 33 = .ok (.goto (-21), 3) := by decide +kernel
theorem dX3_begin_36 : decode cX3_begin 36 = .ok (.iconst 1, 1) := by decide +kernel
theorem dX3_begin_37 : decode cX3_begin 37 = .ok (.istore_n 2, 1) := by decide +kernel
theorem dX3_begin_38 : decode cX3_begin 38 = .ok (.iload_n 2, 1) := by decide +kernel
theorem dX3_begin_39 : decode cX3_begin 39 = .ok (.aload_n 1, 1) := by decide +kernel
theorem dX3_begin_40 : decode cX3_begin 40 = .ok (.invokevirtual 29, 3) := by decide +kernel
theorem dX3_begin_43 : decode cX3_begin 43 = .ok (.if_icmp .ge 62, 3) := by decide +kernel
theorem dX3_begin_46 : decode cX3_begin 46 = .ok (.aload_n 1, 1) := by decide +kernel
theorem dX3_begin_47 : decode cX3_begin 47 = .ok (.iload_n 2, 1) := by decide +kernel
theorem dX3_begin_48 : decode cX3_begin 48 = .ok (.invokevirtual 34, 3) := by decide +kernel
theorem dX3_begin_51 : decode cX3_begin 51 = .ok (.ifCond .eq 48, 3) := by decide +kernel
theorem dX3_begin_54 : decode cX3_begin 54 = .ok (.aload_n 1, 1) := by decide +kernel
theorem dX3_begin_55 : decode cX3_begin 55 = .ok (.iload_n 2, 1) := by decide +kernel
theorem dX3_begin_56 : decode cX3_begin 56 = .ok (.invokevirtual 34, 3) := by decide +kernel
theorem dX3_begin_59 : decode cX3_begin 59 = .ok (.iconst 2, 1) := by decide +kernel
theorem dX3_begin_60 : decode cX3_begin 60 = .ok (.if_icmp .eq 39, 3) := by decide +kernel
theorem dX3_begin_63 : decode cX3_begin 63 = .ok (.aload_n 0, 1) := by decide +kernel
theorem dX3_begin_64 : decode cX3_begin 64 = .ok (.getfield 11, 3) := by decide +kernel
theorem dX3_begin_67 : decode cX3_begin 67 = .ok (.aload_n 1, 1) := by decide +kernel
theorem dX3_begin_68 : decode cX3_begin 68 = .ok (.iload_n 2, 1) := by decide +kernel
theorem dX3_begin_69 : decode cX3_begin 69 = .ok (.invokevirtual 38, 3) := by decide +kernel
theorem dX3_begin_72 : decode cX3_begin 72 = .ok (.bipush 22, 2) := by decide +kernel
theorem dX3_begin_74 : decode cX3_begin 74 = .ok (.imul, 1) := by decide +kernel
theorem dX3_begin_75 : decode cX3_begin 75 = .ok (.aload_n 1, 1) := by decide +kernel
theorem dX3_begin_76 : decode cX3_begin 76 = .ok (.iload_n 2, 1) := by decide +kernel
theorem dX3_begin_77 : decode cX3_begin 77 = .ok (.invokevirtual 41, 3) := by decide +kernel
theorem dX3_begin_80 : decode cX3_begin 80 = .ok (.iadd, 1) := by decide +kernel
theorem dX3_begin_81 : decode cX3_begin 81 = .ok (.iconst 1, 1) := by decide +kernel
theorem dX3_begin_82 : decode cX3_begin 82 = .ok (.iload_n 2, 1) := by decide +kernel
theorem dX3_begin_83 : decode cX3_begin 83 = .ok (.ishl, 1) := by decide +kernel
theorem dX3_begin_84 : decode cX3_begin 84 = .ok (.invokestatic 25, 3) := by decide +kernel
theorem dX3_begin_87 : decode cX3_begin 87 = .ok (.aload_n 0, 1) := by decide +kernel
theorem dX3_begin_88 : decode cX3_begin 88 = .ok (.dup, 1) := by decide +kernel
theorem dX3_begin_89 : decode cX3_begin 89 = .ok (.getfield 22, 3) := by decide +kernel
theorem dX3_begin_92 : decode cX3_begin 92 = .ok (.iconst 1, 1) := by decide +kernel
theorem dX3_begin_93 : decode cX3_begin 93 = .ok (.iload_n 2, 1) := by decide +kernel
theorem dX3_begin_94 : decode cX3_begin 94 = .ok (.ishl, 1) := by decide +kernel
theorem dX3_begin_95 : decode cX3_begin 95 = .ok (.ior, 1) := by decide +kernel
theorem dX3_begin_96 : decode cX3_begin 96 = .ok (.putfield 22, 3) := by decide +kernel
theorem dX3_begin_99 : decode cX3_begin 99 = .ok (.iinc 2 1, 3) := by decide +kernel
theorem dX3_begin_102 : decode cX3_begin 102 = .ok (.goto (-64), 3) := by decide +kernel
theorem dX3_begin_105 : decode cX3_begin 105 = .ok (.return_, 1) := by decide +kernel
theorem dX3_hold_0 : decode cX3_hold 0 = .ok (.iconst 0, 1) := by decide +kernel
theorem dX3_hold_1 : decode cX3_hold 1 = .ok (.istore_n 2, 1) := by decide +kernel
theorem dX3_hold_2 : decode cX3_hold 2 = .ok (.iconst 0, 1) := by decide +kernel
theorem dX3_hold_3 : decode cX3_hold 3 = .ok (.istore_n 3, 1) := by decide +kernel
theorem dX3_hold_4 : decode cX3_hold 4 = .ok (.iload_n 3, 1) := by decide +kernel
theorem dX3_hold_5 : decode cX3_hold 5 = .ok (.aload_n 1, 1) := by decide +kernel
theorem dX3_hold_6 : decode cX3_hold 6 = .ok (.invokevirtual 29, 3) := by decide +kernel
theorem dX3_hold_9 : decode cX3_hold 9 = .ok (.if_icmp .ge 33, 3) := by decide +kernel
theorem dX3_hold_12 : decode cX3_hold 12 = .ok (.iload_n 2, 1) := by decide +kernel
theorem dX3_hold_13 : decode cX3_hold 13 = .ok (.aload_n 0, 1) := by decide +kernel
theorem dX3_hold_14 : decode cX3_hold 14 = .ok (.getfield 11, 3) := by decide +kernel
theorem dX3_hold_17 : decode cX3_hold 17 = .ok (.aload_n 1, 1) := by decide +kernel
theorem dX3_hold_18 : decode cX3_hold 18 = .ok (.iload_n 3, 1) := by decide +kernel
theorem dX3_hold_19 : decode cX3_hold 19 = .ok (.invokevirtual 38, 3) := by decide +kernel
theorem dX3_hold_22 : decode cX3_hold 22 = .ok (.bipush 22, 2) := by decide +kernel
theorem dX3_hold_24 : decode cX3_hold 24 = .ok (.imul, 1) := by decide +kernel
theorem dX3_hold_25 : decode cX3_hold 25 = .ok (.aload_n 1, 1) := by decide +kernel
theorem dX3_hold_26 : decode cX3_hold 26 = .ok (.iload_n 3, 1) := by decide +kernel
theorem dX3_hold_27 : decode cX3_hold 27 = .ok (.invokevirtual 41, 3) := by decide +kernel
theorem dX3_hold_30 : decode cX3_hold 30 = .ok (.iadd, 1) := by decide +kernel
theorem dX3_hold_31 : decode cX3_hold 31 = .ok (.invokestatic 44, 3) := by decide +kernel
theorem dX3_hold_34 : decode cX3_hold 34 = .ok (.ior, 1) := by decide +kernel
theorem dX3_hold_35 : decode cX3_hold 35 = .ok (.istore_n 2, 1) := by decide +kernel
theorem dX3_hold_36 : decode cX3_hold 36 = .ok (.iinc 3 1, 3) := by decide +kernel
theorem dX3_hold_39 : decode cX3_hold 39 = .ok (.goto (-35), 3) := by decide +kernel
theorem dX3_hold_42 : decode cX3_hold 42 = .ok (.aload_n 0, 1) := by decide +kernel
theorem dX3_hold_43 : decode cX3_hold 43 = .ok (.getfield 15, 3) := by decide +kernel
theorem dX3_hold_46 : decode cX3_hold 46 = .ok (.aload_n 0, 1) := by decide +kernel
theorem dX3_hold_47 : decode cX3_hold 47 = .ok (.getfield 18, 3) := by decide +kernel
theorem dX3_hold_50 : decode cX3_hold 50 = .ok (.iload_n 2, 1) := by decide +kernel
theorem dX3_hold_51 : decode cX3_hold 51 = .ok (.invokestatic 25, 3) := by decide +kernel
theorem dX3_hold_54 : decode cX3_hold 54 = .ok (.aload_n 0, 1) := by decide +kernel
theorem dX3_hold_55 : decode cX3_hold 55 = .ok (.dup, 1) := by decide +kernel
theorem dX3_hold_56 : decode cX3_hold 56 = .ok (.getfield 18, 3) := by decide +kernel
theorem dX3_hold_59 : decode cX3_hold 59 = .ok (.iconst 1, 1) := by decide +kernel
theorem dX3_hold_60 : decode cX3_hold 60 = .ok (.iadd, 1) := by decide +kernel
theorem dX3_hold_61 : decode cX3_hold 61 = .ok (.putfield 18, 3) := by decide +kernel
theorem dX3_hold_64 : decode cX3_hold 64 = .ok (.return_, 1) := by decide +kernel
theorem dX3_fewestNodes_0 : decode cX3_fewestNodes 0 = .ok (.aload_n 0, 1) := by decide +kernel
theorem dX3_fewestNodes_1 : decode cX3_fewestNodes 1 = .ok (.getfield 18, 3) := by decide +kernel
theorem dX3_fewestNodes_4 : decode cX3_fewestNodes 4 = .ok (.ifCond .ne 5, 3) := by decide +kernel
theorem dX3_fewestNodes_7 : decode cX3_fewestNodes 7 = .ok (.iconst 0, 1) := by decide +kernel
theorem dX3_fewestNodes_8 : decode cX3_fewestNodes 8 = .ok (.ireturn, 1) := by decide +kernel
theorem dX3_fewestNodes_9 : decode cX3_fewestNodes 9 = .ok (.aload_n 0, 1) := by decide +kernel
theorem dX3_fewestNodes_10 : decode cX3_fewestNodes 10 = .ok (.getfield 22, 3) := by decide +kernel
theorem dX3_fewestNodes_13 : decode cX3_fewestNodes 13 = .ok (.aload_n 0, 1) := by decide +kernel
theorem dX3_fewestNodes_14 : decode cX3_fewestNodes 14 = .ok (.iconst 0, 1) := by decide +kernel
theorem dX3_fewestNodes_15 : decode cX3_fewestNodes 15 = .ok (.invokevirtual 48, 3) := by decide +kernel
theorem dX3_fewestNodes_18 : decode cX3_fewestNodes 18 = .ok (.iconst (-1), 1) := by decide +kernel
theorem dX3_fewestNodes_19 : decode cX3_fewestNodes 19 = .ok (.ixor, 1) := by decide +kernel
theorem dX3_fewestNodes_20 : decode cX3_fewestNodes 20 = .ok (.iand, 1) := by decide +kernel
theorem dX3_fewestNodes_21 : decode cX3_fewestNodes 21 = .ok (.ifCond .eq 5, 3) := by decide +kernel
theorem dX3_fewestNodes_24 : decode cX3_fewestNodes 24 = .ok (.iconst 1, 1) := by decide +kernel
theorem dX3_fewestNodes_25 : decode cX3_fewestNodes 25 = .ok (.ireturn, 1) := by decide +kernel
theorem dX3_fewestNodes_26 : decode cX3_fewestNodes 26 = .ok (.iconst 0, 1) := by decide +kernel
theorem dX3_fewestNodes_27 : decode cX3_fewestNodes 27 = .ok (.istore_n 1, 1) := by decide +kernel
theorem dX3_fewestNodes_28 : decode cX3_fewestNodes 28 = .ok (.iload_n 1, 1) := by decide +kernel
theorem dX3_fewestNodes_29 : decode cX3_fewestNodes 29 = .ok (.bipush 21, 2) := by decide +kernel
theorem dX3_fewestNodes_31 : decode cX3_fewestNodes 31 = .ok (.if_icmp .ge 39, 3) := by decide +kernel
theorem dX3_fewestNodes_34 : decode cX3_fewestNodes 34 = .ok (.aload_n 0, 1) := by decide +kernel
theorem dX3_fewestNodes_35 : decode cX3_fewestNodes 35 = .ok (.getfield 22, 3) := by decide +kernel
theorem dX3_fewestNodes_38 : decode cX3_fewestNodes 38 = .ok (.iconst 1, 1) := by decide +kernel
theorem dX3_fewestNodes_39 : decode cX3_fewestNodes 39 = .ok (.iload_n 1, 1) := by decide +kernel
theorem dX3_fewestNodes_40 : decode cX3_fewestNodes 40 = .ok (.ishl, 1) := by decide +kernel
theorem dX3_fewestNodes_41 : decode cX3_fewestNodes 41 = .ok (.iand, 1) := by decide +kernel
theorem dX3_fewestNodes_42 : decode cX3_fewestNodes 42 = .ok (.istore_n 2, 1) := by decide +kernel
theorem dX3_fewestNodes_43 : decode cX3_fewestNodes 43 = .ok (.iload_n 2, 1) := by decide +kernel
theorem dX3_fewestNodes_44 : decode cX3_fewestNodes 44 = .ok (.ifCond .eq 20, 3) := by decide +kernel
theorem dX3_fewestNodes_47 : decode cX3_fewestNodes 47 = .ok (.aload_n 0, 1) := by decide +kernel
theorem dX3_fewestNodes_48 : decode cX3_fewestNodes 48 = .ok (.getfield 22, 3) := by decide +kernel
theorem dX3_fewestNodes_51 : decode cX3_fewestNodes 51 = .ok (.aload_n 0, 1) := by decide +kernel
theorem dX3_fewestNodes_52 : decode cX3_fewestNodes 52 = .ok (.iload_n 2, 1) := by decide +kernel
theorem dX3_fewestNodes_53 : decode cX3_fewestNodes 53 = .ok (.invokevirtual 48, 3) := by decide +kernel
theorem dX3_fewestNodes_56 : decode cX3_fewestNodes 56 = .ok (.iconst (-1), 1) := by decide +kernel
theorem dX3_fewestNodes_57 : decode cX3_fewestNodes 57 = .ok (.ixor, 1) := by decide +kernel
theorem dX3_fewestNodes_58 : decode cX3_fewestNodes 58 = .ok (.iand, 1) := by decide +kernel
theorem dX3_fewestNodes_59 : decode cX3_fewestNodes 59 = .ok (.ifCond .eq 5, 3) := by decide +kernel
theorem dX3_fewestNodes_62 : decode cX3_fewestNodes 62 = .ok (.iconst 2, 1) := by decide +kernel
theorem dX3_fewestNodes_63 : decode cX3_fewestNodes 63 = .ok (.ireturn, 1) := by decide +kernel
theorem dX3_fewestNodes_64 : decode cX3_fewestNodes 64 = .ok (.iinc 1 1, 3) := by decide +kernel
theorem dX3_fewestNodes_67 : decode cX3_fewestNodes 67 = .ok (.goto (-39), 3) := by decide +kernel
theorem dX3_fewestNodes_70 : decode cX3_fewestNodes 70 = .ok (.bipush (-9), 2) := by decide +kernel
theorem dX3_fewestNodes_72 : decode cX3_fewestNodes 72 = .ok (.ireturn, 1) := by decide +kernel
theorem dX3_sharedWith_0 : decode cX3_sharedWith 0 = .ok (.iconst 0, 1) := by decide +kernel
theorem dX3_sharedWith_1 : decode cX3_sharedWith 1 = .ok (.istore_n 2, 1) := by decide +kernel
theorem dX3_sharedWith_2 : decode cX3_sharedWith 2 = .ok (.iconst 0, 1) := by decide +kernel
theorem dX3_sharedWith_3 : decode cX3_sharedWith 3 = .ok (.istore_n 3, 1) := by decide +kernel
theorem dX3_sharedWith_4 : decode cX3_sharedWith 4 = .ok (.iload_n 3, 1) := by decide +kernel
theorem dX3_sharedWith_5 : decode cX3_sharedWith 5 = .ok (.aload_n 0, 1) := by decide +kernel
theorem dX3_sharedWith_6 : decode cX3_sharedWith 6 = .ok (.getfield 18, 3) := by decide +kernel
theorem dX3_sharedWith_9 : decode cX3_sharedWith 9 = .ok (.if_icmp .ge 34, 3) := by decide +kernel
theorem dX3_sharedWith_12 : decode cX3_sharedWith 12 = .ok (.aload_n 0, 1) := by decide +kernel
theorem dX3_sharedWith_13 : decode cX3_sharedWith 13 = .ok (.getfield 15, 3) := by decide +kernel
theorem dX3_sharedWith_16 : decode cX3_sharedWith 16 = .ok (.iload_n 3, 1) := by decide +kernel
theorem dX3_sharedWith_17 : decode cX3_sharedWith 17 = .ok (.invokestatic 44, 3) := by decide +kernel
theorem dX3_sharedWith_20 : decode cX3_sharedWith 20 = .ok (.iload_n 1, 1) := by decide +kernel
theorem dX3_sharedWith_21 : decode cX3_sharedWith 21 = .ok (.iand, 1) := by decide +kernel
theorem dX3_sharedWith_22 : decode cX3_sharedWith 22 = .ok (.iload_n 1, 1) := by decide +kernel
theorem dX3_sharedWith_23 : decode cX3_sharedWith 23 = .ok (.if_icmp .ne 14, 3) := by decide +kernel
theorem dX3_sharedWith_26 : decode cX3_sharedWith 26 = .ok (.iload_n 2, 1) := by decide +kernel
theorem dX3_sharedWith_27 : decode cX3_sharedWith 27 = .ok (.aload_n 0, 1) := by decide +kernel
theorem dX3_sharedWith_28 : decode cX3_sharedWith 28 = .ok (.getfield 15, 3) := by decide +kernel
theorem dX3_sharedWith_31 : decode cX3_sharedWith 31 = .ok (.iload_n 3, 1) := by decide +kernel
theorem dX3_sharedWith_32 : decode cX3_sharedWith 32 = .ok (.invokestatic 44, 3) := by decide +kernel
theorem dX3_sharedWith_35 : decode cX3_sharedWith 35 = .ok (.ior, 1) := by decide +kernel
theorem dX3_sharedWith_36 : decode cX3_sharedWith 36 = .ok (.istore_n 2, 1) := by decide +kernel
theorem dX3_sharedWith_37 : decode cX3_sharedWith 37 = .ok (.iinc 3 1, 3) := by decide +kernel
theorem dX3_sharedWith_40 : decode cX3_sharedWith 40 = .ok (.goto (-36), 3) := by decide +kernel
theorem dX3_sharedWith_43 : decode cX3_sharedWith 43 = .ok (.iload_n 2, 1) := by decide +kernel
theorem dX3_sharedWith_44 : decode cX3_sharedWith 44 = .ok (.ireturn, 1) := by decide +kernel
theorem dX4_init_0 : decode cX4_init 0 = .ok (.aload_n 0, 1) := by decide +kernel
theorem dX4_init_1 : decode cX4_init 1 = .ok (.invokespecial 3, 3) := by decide +kernel
theorem dX4_init_4 : decode cX4_init 4 = .ok (.aload_n 0, 1) := by decide +kernel
theorem dX4_init_5 : decode cX4_init 5 = .ok (.bipush 6, 2) := by decide +kernel
theorem dX4_init_7 : decode cX4_init 7 = .ok (.newarray .int, 2) := by decide +kernel
theorem dX4_init_9 : decode cX4_init 9 = .ok (.putfield 9, 3) := by decide +kernel
theorem dX4_init_12 : decode cX4_init 12 = .ok (.return_, 1) := by decide +kernel
theorem dX4_size_0 : decode cX4_size 0 = .ok (.aload_n 0, 1) := by decide +kernel
theorem dX4_size_1 : decode cX4_size 1 = .ok (.getfield 15, 3) := by decide +kernel
theorem dX4_size_4 : decode cX4_size 4 = .ok (.ireturn, 1) := by decide +kernel
theorem dX4_at_0 : decode cX4_at 0 = .ok (.aload_n 0, 1) := by decide +kernel
theorem dX4_at_1 : decode cX4_at 1 = .ok (.getfield 9, 3) := by decide +kernel
theorem dX4_at_4 : decode cX4_at 4 = .ok (.iload_n 1, 1) := by decide +kernel
theorem dX4_at_5 : decode cX4_at 5 = .ok (.invokestatic 19, 3) := by decide +kernel
theorem dX4_at_8 : decode cX4_at 8 = .ok (.ireturn, 1) := by decide +kernel
theorem dX4_clear_0 : decode cX4_clear 0 = .ok (.aload_n 0, 1) := by decide +kernel
theorem dX4_clear_1 : decode cX4_clear 1 = .ok (.iconst 0, 1) := by decide +kernel
theorem dX4_clear_2 : decode cX4_clear 2 = .ok (.putfield 15, 3) := by decide +kernel
theorem dX4_clear_5 : decode cX4_clear 5 = .ok (.return_, 1) := by decide +kernel
theorem dX4_has_0 : decode cX4_has 0 = .ok (.iconst 0, 1) := by decide +kernel
theorem dX4_has_1 : decode cX4_has 1 = .ok (.istore_n 2, 1) := by decide +kernel
theorem dX4_has_2 : decode cX4_has 2 = .ok (.iload_n 2, 1) := by decide +kernel
theorem dX4_has_3 : decode cX4_has 3 = .ok (.aload_n 0, 1) := by decide +kernel
theorem dX4_has_4 : decode cX4_has 4 = .ok (.getfield 15, 3) := by decide +kernel
theorem dX4_has_7 : decode cX4_has 7 = .ok (.if_icmp .ge 20, 3) := by decide +kernel
theorem dX4_has_10 : decode cX4_has 10 = .ok (.aload_n 0, 1) := by decide +kernel
theorem dX4_has_11 : decode cX4_has 11 = .ok (.iload_n 2, 1) := by decide +kernel
theorem dX4_has_12 : decode cX4_has 12 = .ok (.invokevirtual 23, 3) := by decide +kernel
theorem dX4_has_15 : decode cX4_has 15 = .ok (.iload_n 1, 1) := by decide +kernel
theorem dX4_has_16 : decode cX4_has 16 = .ok (.if_icmp .ne 5, 3) := by decide +kernel
theorem dX4_has_19 : decode cX4_has 19 = .ok (.iconst 1, 1) := by decide +kernel
theorem dX4_has_20 : decode cX4_has 20 = .ok (.ireturn, 1) := by decide +kernel
theorem dX4_has_21 : decode cX4_has 21 = .ok (.iinc 2 1, 3) := by decide +kernel
theorem dX4_has_24 : decode cX4_has 24 = .ok (.goto (-22), 3) := by decide +kernel
theorem dX4_has_27 : decode cX4_has 27 = .ok (.iconst 0, 1) := by decide +kernel
theorem dX4_has_28 : decode cX4_has 28 = .ok (.ireturn, 1) := by decide +kernel
theorem dX4_add_0 : decode cX4_add 0 = .ok (.aload_n 0, 1) := by decide +kernel
theorem dX4_add_1 : decode cX4_add 1 = .ok (.getfield 15, 3) := by decide +kernel
theorem dX4_add_4 : decode cX4_add 4 = .ok (.bipush 6, 2) := by decide +kernel
theorem dX4_add_6 : decode cX4_add 6 = .ok (.if_icmp .ge 25, 3) := by decide +kernel
theorem dX4_add_9 : decode cX4_add 9 = .ok (.aload_n 0, 1) := by decide +kernel
theorem dX4_add_10 : decode cX4_add 10 = .ok (.getfield 9, 3) := by decide +kernel
theorem dX4_add_13 : decode cX4_add 13 = .ok (.aload_n 0, 1) := by decide +kernel
theorem dX4_add_14 : decode cX4_add 14 = .ok (.getfield 15, 3) := by decide +kernel
theorem dX4_add_17 : decode cX4_add 17 = .ok (.iload_n 1, 1) := by decide +kernel
theorem dX4_add_18 : decode cX4_add 18 = .ok (.invokestatic 27, 3) := by decide +kernel
theorem dX4_add_21 : decode cX4_add 21 = .ok (.aload_n 0, 1) := by decide +kernel
theorem dX4_add_22 : decode cX4_add 22 = .ok (.dup, 1) := by decide +kernel
theorem dX4_add_23 : decode cX4_add 23 = .ok (.getfield 15, 3) := by decide +kernel
theorem dX4_add_26 : decode cX4_add 26 = .ok (.iconst 1, 1) := by decide +kernel
theorem dX4_add_27 : decode cX4_add 27 = .ok (.iadd, 1) := by decide +kernel
theorem dX4_add_28 : decode cX4_add 28 = .ok (.putfield 15, 3) := by decide +kernel
theorem dX4_add_31 : decode cX4_add 31 = .ok (.return_, 1) := by decide +kernel
theorem dX4_become_0 : decode cX4_become 0 = .ok (.aload_n 0, 1) := by decide +kernel
theorem dX4_become_1 : decode cX4_become 1 = .ok (.invokevirtual 31, 3) := by decide +kernel
theorem dX4_become_4 : decode cX4_become 4 = .ok (.iconst 0, 1) := by decide +kernel
theorem dX4_become_5 : decode cX4_become 5 = .ok (.istore_n 2, 1) := by decide +kernel
theorem dX4_become_6 : decode cX4_become 6 = .ok (.iload_n 2, 1) := by decide +kernel
theorem dX4_become_7 : decode cX4_become 7 = .ok (.aload_n 1, 1) := by decide +kernel
theorem dX4_become_8 : decode cX4_become 8 = .ok (.getfield 15, 3) := by decide +kernel
theorem dX4_become_11 : decode cX4_become 11 = .ok (.if_icmp .ge 18, 3) := by decide +kernel
theorem dX4_become_14 : decode cX4_become 14 = .ok (.aload_n 0, 1) := by decide +kernel
theorem dX4_become_15 : decode cX4_become 15 = .ok (.aload_n 1, 1) := by decide +kernel
theorem dX4_become_16 : decode cX4_become 16 = .ok (.iload_n 2, 1) := by decide +kernel
theorem dX4_become_17 : decode cX4_become 17 = .ok (.invokevirtual 23, 3) := by decide +kernel
theorem dX4_become_20 : decode cX4_become 20 = .ok (.invokevirtual 34, 3) := by decide +kernel
theorem dX4_become_23 : decode cX4_become 23 = .ok (.iinc 2 1, 3) := by decide +kernel
theorem dX4_become_26 : decode cX4_become 26 = .ok (.goto (-20), 3) := by decide +kernel
theorem dX4_become_29 : decode cX4_become 29 = .ok (.return_, 1) := by decide +kernel
theorem dX5_init_0 : decode cX5_init 0 = .ok (.aload_n 0, 1) := by decide +kernel
theorem dX5_init_1 : decode cX5_init 1 = .ok (.invokespecial 3, 3) := by decide +kernel
theorem dX5_init_4 : decode cX5_init 4 = .ok (.aload_n 0, 1) := by decide +kernel
theorem dX5_init_5 : decode cX5_init 5 = .ok (.bipush 21, 2) := by decide +kernel
theorem dX5_init_7 : decode cX5_init 7 = .ok (.newarray .long, 2) := by decide +kernel
theorem dX5_init_9 : decode cX5_init 9 = .ok (.putfield 9, 3) := by decide +kernel
theorem dX5_init_12 : decode cX5_init 12 = .ok (.aload_n 0, 1) := by decide +kernel
theorem dX5_init_13 : decode cX5_init 13 = .ok (.bipush 21, 2) := by decide +kernel
theorem dX5_init_15 : decode cX5_init 15 = .ok (.newarray .long, 2) := by decide +kernel
theorem dX5_init_17 : decode cX5_init 17 = .ok (.putfield 15, 3) := by decide +kernel
theorem dX5_init_20 : decode cX5_init 20 = .ok (.aload_n 0, 1) := by decide +kernel
theorem dX5_init_21 : decode cX5_init 21 = .ok (.bipush 21, 2) := by decide +kernel
theorem dX5_init_23 : decode cX5_init 23 = .ok (.newarray .int, 2) := by decide +kernel
theorem dX5_init_25 : decode cX5_init 25 = .ok (.putfield 18, 3) := by decide +kernel
theorem dX5_init_28 : decode cX5_init 28 = .ok (.return_, 1) := by decide +kernel
theorem dX5_meaning_0 : decode cX5_meaning 0 = .ok (.aload_n 0, 1) := by decide +kernel
theorem dX5_meaning_1 : decode cX5_meaning 1 = .ok (.getfield 9, 3) := by decide +kernel
theorem dX5_meaning_4 : decode cX5_meaning 4 = .ok (.iconst 0, 1) := by decide +kernel
theorem dX5_meaning_5 : decode cX5_meaning 5 = .ok (.invokestatic 22, 3) := by decide +kernel
theorem dX5_meaning_8 : decode cX5_meaning 8 = .ok (.lreturn, 1) := by decide +kernel
theorem dX5_idlePlaces_0 : decode cX5_idlePlaces 0 = .ok (.aload_n 0, 1) := by decide +kernel
theorem dX5_idlePlaces_1 : decode cX5_idlePlaces 1 = .ok (.getfield 26, 3) := by decide +kernel
theorem dX5_idlePlaces_4 : decode cX5_idlePlaces 4 = .ok (.ireturn, 1) := by decide +kernel
theorem dX5_metRules_0 : decode cX5_metRules 0 = .ok (.aload_n 0, 1) := by decide +kernel
theorem dX5_metRules_1 : decode cX5_metRules 1 = .ok (.getfield 30, 3) := by decide +kernel
theorem dX5_metRules_4 : decode cX5_metRules 4 = .ok (.ireturn, 1) := by decide +kernel
theorem dX5_weigh_0 : decode cX5_weigh 0 = .ok (.iconst 0, 1) := by decide +kernel
theorem dX5_weigh_1 : decode cX5_weigh 1 = .ok (.istore_n 3, 1) := by decide +kernel
theorem dX5_weigh_2 : decode cX5_weigh 2 = .ok (.aload_n 1, 1) := by decide +kernel
theorem dX5_weigh_3 : decode cX5_weigh 3 = .ok (.invokevirtual 33, 3) := by decide +kernel
theorem dX5_weigh_6 : decode cX5_weigh 6 = .ok (.iconst 1, 1) := by decide +kernel
theorem dX5_weigh_7 : decode cX5_weigh 7 = .ok (.isub, 1) := by decide +kernel
theorem dX5_weigh_8 : decode cX5_weigh 8 = .ok (.istore 4, 2) := by decide +kernel
theorem dX5_weigh_10 : decode cX5_weigh 10 = .ok (.iload 4, 2) := by decide +kernel
theorem dX5_weigh_12 : decode cX5_weigh 12 = .ok (.ifCond .lt 53, 3) := by decide +kernel
theorem dX5_weigh_15 : decode cX5_weigh 15 = .ok (.aload_n 0, 1) := by decide +kernel
theorem dX5_weigh_16 : decode cX5_weigh 16 = .ok (.getfield 9, 3) := by decide +kernel
theorem dX5_weigh_19 : decode cX5_weigh 19 = .ok (.iload 4, 2) := by decide +kernel
theorem dX5_weigh_21 : decode cX5_weigh 21 = .ok (.aload_n 0, 1) := by decide +kernel
theorem dX5_weigh_22 : decode cX5_weigh 22 = .ok (.aload_n 1, 1) := by decide +kernel
theorem dX5_weigh_23 : decode cX5_weigh 23 = .ok (.aload_n 2, 1) := by decide +kernel
theorem dX5_weigh_24 : decode cX5_weigh 24 = .ok (.iload 4, 2) := by decide +kernel
theorem dX5_weigh_26 : decode cX5_weigh 26 = .ok (.invokevirtual 39, 3) := by decide +kernel
theorem dX5_weigh_29 : decode cX5_weigh 29 = .ok (.invokestatic 43, 3) := by decide +kernel
theorem dX5_weigh_32 : decode cX5_weigh 32 = .ok (.aload_n 0, 1) := by decide +kernel
theorem dX5_weigh_33 : decode cX5_weigh 33 = .ok (.getfield 18, 3) := by decide +kernel
theorem dX5_weigh_36 : decode cX5_weigh 36 = .ok (.iload 4, 2) := by decide +kernel
theorem dX5_weigh_38 : decode cX5_weigh 38 = .ok (.aload_n 0, 1) := by decide +kernel
theorem dX5_weigh_39 : decode cX5_weigh 39 = .ok (.aload_n 1, 1) := by decide +kernel
theorem dX5_weigh_40 : decode cX5_weigh 40 = .ok (.iload 4, 2) := by decide +kernel
theorem dX5_weigh_42 : decode cX5_weigh 42 = .ok (.invokevirtual 47, 3) := by decide +kernel
theorem dX5_weigh_45 : decode cX5_weigh 45 = .ok (.invokestatic 51, 3) := by decide +kernel
theorem dX5_weigh_48 : decode cX5_weigh 48 = .ok (.iload_n 3, 1) := by decide +kernel
theorem dX5_weigh_49 : decode cX5_weigh 49 = .ok (.aload_n 0, 1) := by decide +kernel
theorem dX5_weigh_50 : decode cX5_weigh 50 = .ok (.aload_n 1, 1) := by decide +kernel
theorem dX5_weigh_51 : decode cX5_weigh 51 = .ok (.aload_n 2, 1) := by decide +kernel
theorem dX5_weigh_52 : decode cX5_weigh 52 = .ok (.iload 4, 2) := by decide +kernel
theorem dX5_weigh_54 : decode cX5_weigh 54 = .ok (.invokevirtual 54, 3) := by decide +kernel
theorem dX5_weigh_57 : decode cX5_weigh 57 = .ok (.ior, 1) := by decide +kernel
theorem dX5_weigh_58 : decode cX5_weigh 58 = .ok (.istore_n 3, 1) := by decide +kernel
theorem dX5_weigh_59 : decode cX5_weigh 59 = .ok (.iinc 4 (-1), 3) := by decide +kernel
theorem dX5_weigh_62 : decode cX5_weigh 62 = .ok (.goto (-52), 3) := by decide +kernel
theorem dX5_weigh_65 : decode cX5_weigh 65 = .ok (.aload_n 0, 1) := by decide +kernel
theorem dX5_weigh_66 : decode cX5_weigh 66 = .ok (.aload_n 1, 1) := by decide +kernel
theorem dX5_weigh_67 : decode cX5_weigh 67 = .ok (.invokevirtual 58, 3) := by decide +kernel
theorem dX5_weigh_70 : decode cX5_weigh 70 = .ok (.aload_n 0, 1) := by decide +kernel
theorem dX5_weigh_71 : decode cX5_weigh 71 = .ok (.bipush 63, 2) := by decide +kernel
theorem dX5_weigh_73 : decode cX5_weigh 73 = .ok (.iload_n 3, 1) := by decide +kernel
theorem dX5_weigh_74 : decode cX5_weigh 74 = .ok (.aload_n 0, 1) := by decide +kernel
theorem dX5_weigh_75 : decode cX5_weigh 75 = .ok (.invokevirtual 62, 3) := by decide +kernel
theorem dX5_weigh_78 : decode cX5_weigh 78 = .ok (.ior, 1) := by decide +kernel
theorem dX5_weigh_79 : decode cX5_weigh 79 = .ok (.iconst (-1), 1) := by decide +kernel
theorem dX5_weigh_80 : decode cX5_weigh 80 = .ok (.ixor, 1) := by decide +kernel
theorem dX5_weigh_81 : decode cX5_weigh 81 = .ok (.iand, 1) := by decide +kernel
theorem dX5_weigh_82 : decode cX5_weigh 82 = .ok (.putfield 30, 3) := by decide +kernel
theorem dX5_weigh_85 : decode cX5_weigh 85 = .ok (.return_, 1) := by decide +kernel
theorem dX5_meaningOf_0 : decode cX5_meaningOf 0 = .ok (.aload_n 0, 1) := by decide +kernel
theorem dX5_meaningOf_1 : decode cX5_meaningOf 1 = .ok (.getfield 9, 3) := by decide +kernel
theorem dX5_meaningOf_4 : decode cX5_meaningOf 4 = .ok (.aload_n 1, 1) := by decide +kernel
theorem dX5_meaningOf_5 : decode cX5_meaningOf 5 = .ok (.iload_n 3, 1) := by decide +kernel
theorem dX5_meaningOf_6 : decode cX5_meaningOf 6 = .ok (.invokevirtual 65, 3) := by decide +kernel
theorem dX5_meaningOf_9 : decode cX5_meaningOf 9 = .ok (.invokestatic 22, 3) := by decide +kernel
theorem dX5_meaningOf_12 : decode cX5_meaningOf 12 = .ok (.lstore 4, 2) := by decide +kernel
theorem dX5_meaningOf_14 : decode cX5_meaningOf 14 = .ok (.aload_n 0, 1) := by decide +kernel
theorem dX5_meaningOf_15 : decode cX5_meaningOf 15 = .ok (.getfield 9, 3) := by decide +kernel
theorem dX5_meaningOf_18 : decode cX5_meaningOf 18 = .ok (.aload_n 1, 1) := by decide +kernel
theorem dX5_meaningOf_19 : decode cX5_meaningOf 19 = .ok (.iload_n 3, 1) := by decide +kernel
theorem dX5_meaningOf_20 : decode cX5_meaningOf 20 = .ok (.invokevirtual 69, 3) := by decide +kernel
theorem dX5_meaningOf_23 : decode cX5_meaningOf 23 = .ok (.invokestatic 22, 3) := by decide +kernel
theorem dX5_meaningOf_26 : decode cX5_meaningOf 26 = .ok (.lstore 6, 2) := by decide +kernel
theorem dX5_meaningOf_28 : decode cX5_meaningOf 28 = .ok (.aload_n 1, 1) := by decide +kernel
theorem dX5_meaningOf_29 : decode cX5_meaningOf 29 = .ok (.iload_n 3, 1) := by decide +kernel
theorem dX5_meaningOf_30 : decode cX5_meaningOf 30 = .ok (.invokevirtual 72, 3) := by decide +kernel
theorem dX5_meaningOf_33 : decode cX5_meaningOf 33 = .ok (.tableswitch 103 0 6 #[43, 56, 103, 67, 73, 79, 93], 43) := by decide +kernel
theorem dX5_meaningOf_76 : decode cX5_meaningOf 76 = .ok (.aload_n 2, 1) := by decide +kernel
theorem dX5_meaningOf_77 : decode cX5_meaningOf 77 = .ok (.aload_n 1, 1) := by decide +kernel
theorem dX5_meaningOf_78 : decode cX5_meaningOf 78 = .ok (.iload_n 3, 1) := by decide +kernel
theorem dX5_meaningOf_79 : decode cX5_meaningOf 79 = .ok (.invokevirtual 75, 3) := by decide +kernel
theorem dX5_meaningOf_82 : decode cX5_meaningOf 82 = .ok (.invokevirtual 78, 3) := by decide +kernel
theorem dX5_meaningOf_85 : decode cX5_meaningOf 85 = .ok (.invokestatic 83, 3) := by decide +kernel
theorem dX5_meaningOf_88 : decode cX5_meaningOf 88 = .ok (.lreturn, 1) := by decide +kernel
theorem dX5_meaningOf_89 : decode cX5_meaningOf 89 = .ok (.ldc2_w 87, 3) := by decide +kernel
theorem dX5_meaningOf_92 : decode cX5_meaningOf 92 = .ok (.lload 4, 2) := by decide +kernel
theorem dX5_meaningOf_94 : decode cX5_meaningOf 94 = .ok (.ldc2_w 89, 3) := by decide +kernel
theorem dX5_meaningOf_97 : decode cX5_meaningOf 97 = .ok (.lxor, 1) := by decide +kernel
theorem dX5_meaningOf_98 : decode cX5_meaningOf 98 = .ok (.land, 1) := by decide +kernel
theorem dX5_meaningOf_99 : decode cX5_meaningOf 99 = .ok (.lreturn, 1) := by decide +kernel
theorem dX5_meaningOf_100 : decode cX5_meaningOf 100 = .ok (.lload 4, 2) := by decide +kernel
theorem dX5_meaningOf_102 : decode cX5_meaningOf 102 = .ok (.lload 6, 2) := by decide +kernel
theorem dX5_meaningOf_104 : decode cX5_meaningOf 104 = .ok (.land, 1) := by decide +kernel
theorem dX5_meaningOf_105 : decode cX5_meaningOf 105 = .ok (.lreturn, 1) := by decide +kernel
theorem dX5_meaningOf_106 : decode cX5_meaningOf 106 = .ok (.lload 4, 2) := by decide +kernel
theorem dX5_meaningOf_108 : decode cX5_meaningOf 108 = .ok (.lload 6, 2) := by decide +kernel
theorem dX5_meaningOf_110 : decode cX5_meaningOf 110 = .ok (.lor, 1) := by decide +kernel
theorem dX5_meaningOf_111 : decode cX5_meaningOf 111 = .ok (.lreturn, 1) := by decide +kernel
theorem dX5_meaningOf_112 : decode cX5_meaningOf 112 = .ok (.ldc2_w 87, 3) := by decide +kernel
theorem dX5_meaningOf_115 : decode cX5_meaningOf 115 = .ok (.lload 4, 2) := by decide +kernel
theorem dX5_meaningOf_117 : decode cX5_meaningOf 117 = .ok (.ldc2_w 89, 3) := by decide +kernel
theorem dX5_meaningOf_120 : decode cX5_meaningOf 120 = .ok (.lxor, 1) := by decide +kernel
theorem dX5_meaningOf_121 : decode cX5_meaningOf 121 = .ok (.lload 6, 2) := by decide +kernel
theorem dX5_meaningOf_123 : decode cX5_meaningOf 123 = .ok (.lor, 1) := by decide +kernel
theorem dX5_meaningOf_124 : decode cX5_meaningOf 124 = .ok (.land, 1) := by decide +kernel
theorem dX5_meaningOf_125 : decode cX5_meaningOf 125 = .ok (.lreturn, 1) := by decide +kernel
theorem dX5_meaningOf_126 : decode cX5_meaningOf 126 = .ok (.lload 4, 2) := by decide +kernel
theorem dX5_meaningOf_128 : decode cX5_meaningOf 128 = .ok (.lload 6, 2) := by decide +kernel
theorem dX5_meaningOf_130 : decode cX5_meaningOf 130 = .ok (.ldc2_w 89, 3) := by decide +kernel
theorem dX5_meaningOf_133 : decode cX5_meaningOf 133 = .ok (.lxor, 1) := by decide +kernel
theorem dX5_meaningOf_134 : decode cX5_meaningOf 134 = .ok (.land, 1) := by decide +kernel
theorem dX5_meaningOf_135 : decode cX5_meaningOf 135 = .ok (.lreturn, 1) := by decide +kernel
theorem dX5_meaningOf_136 : decode cX5_meaningOf 136 = .ok (.lload 4, 2) := by decide +kernel
theorem dX5_meaningOf_138 : decode cX5_meaningOf 138 = .ok (.lreturn, 1) := by decide +kernel
theorem dX5_bareOf_0 : decode cX5_bareOf 0 = .ok (.aload_n 1, 1) := by decide +kernel
theorem dX5_bareOf_1 : decode cX5_bareOf 1 = .ok (.iload_n 2, 1) := by decide +kernel
theorem dX5_bareOf_2 : decode cX5_bareOf 2 = .ok (.invokevirtual 72, 3) := by decide +kernel
theorem dX5_bareOf_5 : decode cX5_bareOf 5 = .ok (.istore_n 3, 1) := by decide +kernel
theorem dX5_bareOf_6 : decode cX5_bareOf 6 = .ok (.iload_n 3, 1) := by decide +kernel
theorem dX5_bareOf_7 : decode cX5_bareOf 7 = .ok (.ifCond .eq 8, 3) := by decide +kernel
theorem dX5_bareOf_10 : decode cX5_bareOf 10 = .ok (.iload_n 3, 1) := by decide +kernel
theorem dX5_bareOf_11 : decode cX5_bareOf 11 = .ok (.iconst 2, 1) := by decide +kernel
theorem dX5_bareOf_12 : decode cX5_bareOf 12 = .ok (.if_icmp .ne 5, 3) := by decide +kernel
theorem dX5_bareOf_15 : decode cX5_bareOf 15 = .ok (.iconst 0, 1) := by decide +kernel
theorem dX5_bareOf_16 : decode cX5_bareOf 16 = .ok (.ireturn, 1) := by decide +kernel
theorem dX5_bareOf_17 : decode cX5_bareOf 17 = .ok (.aload_n 0, 1) := by decide +kernel
theorem dX5_bareOf_18 : decode cX5_bareOf 18 = .ok (.getfield 18, 3) := by decide +kernel
theorem dX5_bareOf_21 : decode cX5_bareOf 21 = .ok (.aload_n 1, 1) := by decide +kernel
theorem dX5_bareOf_22 : decode cX5_bareOf 22 = .ok (.iload_n 2, 1) := by decide +kernel
theorem dX5_bareOf_23 : decode cX5_bareOf 23 = .ok (.invokevirtual 65, 3) := by decide +kernel
theorem dX5_bareOf_26 : decode cX5_bareOf 26 = .ok (.invokestatic 91, 3) := by decide +kernel
theorem dX5_bareOf_29 : decode cX5_bareOf 29 = .ok (.istore 4, 2) := by decide +kernel
theorem dX5_bareOf_31 : decode cX5_bareOf 31 = .ok (.iload_n 3, 1) := by decide +kernel
theorem dX5_bareOf_32 : decode cX5_bareOf 32 = .ok (.iconst 1, 1) := by decide +kernel
theorem dX5_bareOf_33 : decode cX5_bareOf 33 = .ok (.if_icmp .ne 8, 3) := by decide +kernel
theorem dX5_bareOf_36 : decode cX5_bareOf 36 = .ok (.iload 4, 2) := by decide +kernel
theorem dX5_bareOf_38 : decode cX5_bareOf 38 = .ok (.goto 22, 3) := by decide +kernel
theorem dX5_bareOf_41 : decode cX5_bareOf 41 = .ok (.iload 4, 2) := by decide +kernel
theorem dX5_bareOf_43 : decode cX5_bareOf 43 = .ok (.aload_n 0, 1) := by decide +kernel
theorem dX5_bareOf_44 : decode cX5_bareOf 44 = .ok (.getfield 18, 3) := by decide +kernel
theorem dX5_bareOf_47 : decode cX5_bareOf 47 = .ok (.aload_n 1, 1) := by decide +kernel
theorem dX5_bareOf_48 : decode cX5_bareOf 48 = .ok (.iload_n 2, 1) := by decide +kernel
theorem dX5_bareOf_49 : decode cX5_bareOf 49 = .ok (.invokevirtual 69, 3) := by decide +kernel
theorem dX5_bareOf_52 : decode cX5_bareOf 52 = .ok (.invokestatic 91, 3) := by decide +kernel
theorem dX5_bareOf_55 : decode cX5_bareOf 55 = .ok (.ior, 1) := by decide +kernel
theorem dX5_bareOf_56 : decode cX5_bareOf 56 = .ok (.iconst 1, 1) := by decide +kernel
theorem dX5_bareOf_57 : decode cX5_bareOf 57 = .ok (.iload_n 3, 1) := by decide +kernel
theorem dX5_bareOf_58 : decode cX5_bareOf 58 = .ok (.ishl, 1) := by decide +kernel
theorem dX5_bareOf_59 : decode cX5_bareOf 59 = .ok (.ior, 1) := by decide +kernel
theorem dX5_bareOf_60 : decode cX5_bareOf 60 = .ok (.ireturn, 1) := by decide +kernel
theorem dX5_findIdle_0 : decode cX5_findIdle 0 = .ok (.aload_n 0, 1) := by decide +kernel
theorem dX5_findIdle_1 : decode cX5_findIdle 1 = .ok (.iconst 0, 1) := by decide +kernel
theorem dX5_findIdle_2 : decode cX5_findIdle 2 = .ok (.putfield 26, 3) := by decide +kernel
theorem dX5_findIdle_5 : decode cX5_findIdle 5 = .ok (.aload_n 0, 1) := by decide +kernel
theorem dX5_findIdle_6 : decode cX5_findIdle 6 = .ok (.getfield 15, 3) := by decide +kernel
theorem dX5_findIdle_9 : decode cX5_findIdle 9 = .ok (.iconst 0, 1) := by decide +kernel
theorem dX5_findIdle_10 : decode cX5_findIdle 10 = .ok (.ldc2_w 87, 3) := by decide +kernel
theorem dX5_findIdle_13 : decode cX5_findIdle 13 = .ok (.invokestatic 43, 3) := by decide +kernel
theorem dX5_findIdle_16 : decode cX5_findIdle 16 = .ok (.iconst 0, 1) := by decide +kernel
theorem dX5_findIdle_17 : decode cX5_findIdle 17 = .ok (.istore_n 2, 1) := by decide +kernel
theorem dX5_findIdle_18 : decode cX5_findIdle 18 = .ok (.iload_n 2, 1) := by decide +kernel
theorem dX5_findIdle_19 : decode cX5_findIdle 19 = .ok (.aload_n 1, 1) := by decide +kernel
theorem dX5_findIdle_20 : decode cX5_findIdle 20 = .ok (.invokevirtual 33, 3) := by decide +kernel
theorem dX5_findIdle_23 : decode cX5_findIdle 23 = .ok (.if_icmp .ge 169, 3) := by decide +kernel
theorem dX5_findIdle_26 : decode cX5_findIdle 26 = .ok (.aload_n 1, 1) := by decide +kernel
theorem dX5_findIdle_27 : decode cX5_findIdle 27 = .ok (.iload_n 2, 1) := by decide +kernel
theorem dX5_findIdle_28 : decode cX5_findIdle 28 = .ok (.invokevirtual 72, 3) := by decide +kernel
theorem dX5_findIdle_31 : decode cX5_findIdle 31 = .ok (.istore_n 3, 1) := by decide +kernel
theorem dX5_findIdle_32 : decode cX5_findIdle 32 = .ok (.aload_n 0, 1) := by decide +kernel
theorem dX5_findIdle_33 : decode cX5_findIdle 33 = .ok (.getfield 15, 3) := by decide +kernel
theorem dX5_findIdle_36 : decode cX5_findIdle 36 = .ok (.iload_n 2, 1) := by decide +kernel
theorem dX5_findIdle_37 : decode cX5_findIdle 37 = .ok (.invokestatic 22, 3) := by decide +kernel
theorem dX5_findIdle_40 : decode cX5_findIdle 40 = .ok (.lstore 4, 2) := by decide +kernel
theorem dX5_findIdle_42 : decode cX5_findIdle 42 = .ok (.iload_n 3, 1) := by decide +kernel
theorem dX5_findIdle_43 : decode cX5_findIdle 43 = .ok (.invokestatic 94, 3) := by decide +kernel
theorem dX5_findIdle_46 : decode cX5_findIdle 46 = .ok (.ifCond .eq 96, 3) := by decide +kernel
theorem dX5_findIdle_49 : decode cX5_findIdle 49 = .ok (.aload_n 0, 1) := by decide +kernel
theorem dX5_findIdle_50 : decode cX5_findIdle 50 = .ok (.getfield 9, 3) := by decide +kernel
theorem dX5_findIdle_53 : decode cX5_findIdle 53 = .ok (.aload_n 1, 1) := by decide +kernel
theorem dX5_findIdle_54 : decode cX5_findIdle 54 = .ok (.iload_n 2, 1) := by decide +kernel
theorem dX5_findIdle_55 : decode cX5_findIdle 55 = .ok (.invokevirtual 65, 3) := by decide +kernel
theorem dX5_findIdle_58 : decode cX5_findIdle 58 = .ok (.invokestatic 22, 3) := by decide +kernel
theorem dX5_findIdle_61 : decode cX5_findIdle 61 = .ok (.lstore 6, 2) := by decide +kernel
theorem dX5_findIdle_63 : decode cX5_findIdle 63 = .ok (.aload_n 0, 1) := by decide +kernel
theorem dX5_findIdle_64 : decode cX5_findIdle 64 = .ok (.getfield 9, 3) := by decide +kernel
theorem dX5_findIdle_67 : decode cX5_findIdle 67 = .ok (.aload_n 1, 1) := by decide +kernel
theorem dX5_findIdle_68 : decode cX5_findIdle 68 = .ok (.iload_n 2, 1) := by decide +kernel
theorem dX5_findIdle_69 : decode cX5_findIdle 69 = .ok (.invokevirtual 69, 3) := by decide +kernel
theorem dX5_findIdle_72 : decode cX5_findIdle 72 = .ok (.invokestatic 22, 3) := by decide +kernel
theorem dX5_findIdle_75 : decode cX5_findIdle 75 = .ok (.lstore 8, 2) := by decide +kernel
theorem dX5_findIdle_77 : decode cX5_findIdle 77 = .ok (.aload_n 0, 1) := by decide +kernel
theorem dX5_findIdle_78 : decode cX5_findIdle 78 = .ok (.getfield 15, 3) := by decide +kernel
theorem dX5_findIdle_81 : decode cX5_findIdle 81 = .ok (.aload_n 1, 1) := by decide +kernel
theorem dX5_findIdle_82 : decode cX5_findIdle 82 = .ok (.iload_n 2, 1) := by decide +kernel
theorem dX5_findIdle_83 : decode cX5_findIdle 83 = .ok (.invokevirtual 65, 3) := by decide +kernel
theorem dX5_findIdle_86 : decode cX5_findIdle 86 = .ok (.lload 4, 2) := by decide +kernel
theorem dX5_findIdle_88 : decode cX5_findIdle 88 = .ok (.iload_n 3, 1) := by decide +kernel
theorem dX5_findIdle_89 : decode cX5_findIdle 89 = .ok (.iconst 3, 1) := by decide +kernel
theorem dX5_findIdle_90 : decode cX5_findIdle 90 = .ok (.if_icmp .ne 8, 3) := by decide +kernel
theorem dX5_findIdle_93 : decode cX5_findIdle 93 = .ok (.lload 8, 2) := by decide +kernel
theorem dX5_findIdle_95 : decode cX5_findIdle 95 = .ok (.goto 9, 3) := by decide +kernel
theorem dX5_findIdle_98 : decode cX5_findIdle 98 = .ok (.lload 8, 2) := by decide +kernel
theorem dX5_findIdle_100 : decode cX5_findIdle 100 = .ok (.ldc2_w 89, 3) := by decide +kernel
theorem dX5_findIdle_103 : decode cX5_findIdle 103 = .ok (.lxor, 1) := by decide +kernel
theorem dX5_findIdle_104 : decode cX5_findIdle 104 = .ok (.land, 1) := by decide +kernel
theorem dX5_findIdle_105 : decode cX5_findIdle 105 = .ok (.invokestatic 43, 3) := by decide +kernel
theorem dX5_findIdle_108 : decode cX5_findIdle 108 = .ok (.aload_n 0, 1) := by decide +kernel
theorem dX5_findIdle_109 : decode cX5_findIdle 109 = .ok (.getfield 15, 3) := by decide +kernel
theorem dX5_findIdle_112 : decode cX5_findIdle 112 = .ok (.aload_n 1, 1) := by decide +kernel
theorem dX5_findIdle_113 : decode cX5_findIdle 113 = .ok (.iload_n 2, 1) := by decide +kernel
theorem dX5_findIdle_114 : decode cX5_findIdle 114 = .ok (.invokevirtual 69, 3) := by decide +kernel
theorem dX5_findIdle_117 : decode cX5_findIdle 117 = .ok (.lload 4, 2) := by decide +kernel
theorem dX5_findIdle_119 : decode cX5_findIdle 119 = .ok (.iload_n 3, 1) := by decide +kernel
theorem dX5_findIdle_120 : decode cX5_findIdle 120 = .ok (.iconst 4, 1) := by decide +kernel
theorem dX5_findIdle_121 : decode cX5_findIdle 121 = .ok (.if_icmp .ne 12, 3) := by decide +kernel
theorem dX5_findIdle_124 : decode cX5_findIdle 124 = .ok (.lload 6, 2) := by decide +kernel
theorem dX5_findIdle_126 : decode cX5_findIdle 126 = .ok (.ldc2_w 89, 3) := by decide +kernel
theorem dX5_findIdle_129 : decode cX5_findIdle 129 = .ok (.lxor, 1) := by decide +kernel
theorem dX5_findIdle_130 : decode cX5_findIdle 130 = .ok (.goto 5, 3) := by decide +kernel
theorem dX5_findIdle_133 : decode cX5_findIdle 133 = .ok (.lload 6, 2) := by decide +kernel
theorem dX5_findIdle_135 : decode cX5_findIdle 135 = .ok (.land, 1) := by decide +kernel
theorem dX5_findIdle_136 : decode cX5_findIdle 136 = .ok (.invokestatic 43, 3) := by decide +kernel
theorem dX5_findIdle_139 : decode cX5_findIdle 139 = .ok (.goto 47, 3) := by decide +kernel
theorem dX5_findIdle_142 : decode cX5_findIdle 142 = .ok (.iload_n 3, 1) := by decide +kernel
theorem dX5_findIdle_143 : decode cX5_findIdle 143 = .ok (.ifCond .eq 20, 3) := by decide +kernel
theorem dX5_findIdle_146 : decode cX5_findIdle 146 = .ok (.aload_n 0, 1) := by decide +kernel
theorem dX5_findIdle_147 : decode cX5_findIdle 147 = .ok (.getfield 15, 3) := by decide +kernel
theorem dX5_findIdle_150 : decode cX5_findIdle 150 = .ok (.aload_n 1, 1) := by decide +kernel
theorem dX5_findIdle_151 : decode cX5_findIdle 151 = .ok (.iload_n 2, 1) := by decide +kernel
theorem dX5_findIdle_152 : decode cX5_findIdle 152 = .ok (.invokevirtual 65, 3) := by decide +kernel
theorem dX5_findIdle_155 : decode cX5_findIdle 155 = .ok (.lload 4, 2) := by decide +kernel
theorem dX5_findIdle_157 : decode cX5_findIdle 157 = .ok (.invokestatic 43, 3) := by decide +kernel
theorem dX5_findIdle_160 : decode cX5_findIdle 160 = .ok (.goto 26, 3) := by decide +kernel
theorem dX5_findIdle_163 : decode cX5_findIdle 163 = .ok (.lload 4, 2) := by decide +kernel
theorem dX5_findIdle_165 : decode cX5_findIdle 165 = .ok (.lconst 0, 1) := by decide +kernel
theorem dX5_findIdle_166 : decode cX5_findIdle 166 = .ok (.lcmp, 1) := by decide +kernel
