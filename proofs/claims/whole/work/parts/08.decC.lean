/-! THE DECODE ROWS: each instruction of each method. -/
theorem dX11_init_0 : decode cX11_init 0 = .ok (.aload_n 0, 1) := by decide +kernel
theorem dX11_init_1 : decode cX11_init 1 = .ok (.invokespecial 1, 3) := by decide +kernel
theorem dX11_init_4 : decode cX11_init 4 = .ok (.aload_n 0, 1) := by decide +kernel
theorem dX11_init_5 : decode cX11_init 5 = .ok (.new 7, 3) := by decide +kernel
theorem dX11_init_8 : decode cX11_init 8 = .ok (.dup, 1) := by decide +kernel
theorem dX11_init_9 : decode cX11_init 9 = .ok (.invokespecial 9, 3) := by decide +kernel
theorem dX11_init_12 : decode cX11_init 12 = .ok (.putfield 10, 3) := by decide +kernel
theorem dX11_init_15 : decode cX11_init 15 = .ok (.aload_n 0, 1) := by decide +kernel
theorem dX11_init_16 : decode cX11_init 16 = .ok (.new 7, 3) := by decide +kernel
theorem dX11_init_19 : decode cX11_init 19 = .ok (.dup, 1) := by decide +kernel
theorem dX11_init_20 : decode cX11_init 20 = .ok (.invokespecial 9, 3) := by decide +kernel
theorem dX11_init_23 : decode cX11_init 23 = .ok (.putfield 16, 3) := by decide +kernel
theorem dX11_init_26 : decode cX11_init 26 = .ok (.aload_n 0, 1) := by decide +kernel
theorem dX11_init_27 : decode cX11_init 27 = .ok (.iconst 2, 1) := by decide +kernel
theorem dX11_init_28 : decode cX11_init 28 = .ok (.anewarray 7, 3) := by decide +kernel
theorem dX11_init_31 : decode cX11_init 31 = .ok (.putfield 19, 3) := by decide +kernel
theorem dX11_init_34 : decode cX11_init 34 = .ok (.aload_n 0, 1) := by decide +kernel
theorem dX11_init_35 : decode cX11_init 35 = .ok (.new 23, 3) := by decide +kernel
theorem dX11_init_38 : decode cX11_init 38 = .ok (.dup, 1) := by decide +kernel
theorem dX11_init_39 : decode cX11_init 39 = .ok (.invokespecial 25, 3) := by decide +kernel
theorem dX11_init_42 : decode cX11_init 42 = .ok (.putfield 26, 3) := by decide +kernel
theorem dX11_init_45 : decode cX11_init 45 = .ok (.aload_n 0, 1) := by decide +kernel
theorem dX11_init_46 : decode cX11_init 46 = .ok (.new 30, 3) := by decide +kernel
theorem dX11_init_49 : decode cX11_init 49 = .ok (.dup, 1) := by decide +kernel
theorem dX11_init_50 : decode cX11_init 50 = .ok (.invokespecial 32, 3) := by decide +kernel
theorem dX11_init_53 : decode cX11_init 53 = .ok (.putfield 33, 3) := by decide +kernel
theorem dX11_init_56 : decode cX11_init 56 = .ok (.aload_n 0, 1) := by decide +kernel
theorem dX11_init_57 : decode cX11_init 57 = .ok (.lconst 0, 1) := by decide +kernel
theorem dX11_init_58 : decode cX11_init 58 = .ok (.putfield 37, 3) := by decide +kernel
theorem dX11_init_61 : decode cX11_init 61 = .ok (.aload_n 0, 1) := by decide +kernel
theorem dX11_init_62 : decode cX11_init 62 = .ok (.lconst 1, 1) := by decide +kernel
theorem dX11_init_63 : decode cX11_init 63 = .ok (.putfield 41, 3) := by decide +kernel
theorem dX11_init_66 : decode cX11_init 66 = .ok (.return_, 1) := by decide +kernel
theorem dX11_gold_0 : decode cX11_gold 0 = .ok (.aload_n 0, 1) := by decide +kernel
theorem dX11_gold_1 : decode cX11_gold 1 = .ok (.getfield 10, 3) := by decide +kernel
theorem dX11_gold_4 : decode cX11_gold 4 = .ok (.invokevirtual 44, 3) := by decide +kernel
theorem dX11_gold_7 : decode cX11_gold 7 = .ok (.istore_n 1, 1) := by decide +kernel
theorem dX11_gold_8 : decode cX11_gold 8 = .ok (.aload_n 0, 1) := by decide +kernel
theorem dX11_gold_9 : decode cX11_gold 9 = .ok (.getfield 10, 3) := by decide +kernel
theorem dX11_gold_12 : decode cX11_gold 12 = .ok (.invokevirtual 48, 3) := by decide +kernel
theorem dX11_gold_15 : decode cX11_gold 15 = .ok (.iload_n 1, 1) := by decide +kernel
theorem dX11_gold_16 : decode cX11_gold 16 = .ok (.ireturn, 1) := by decide +kernel
theorem dX11_one_0 : decode cX11_one 0 = .ok (.iload_n 1, 1) := by decide +kernel
theorem dX11_one_1 : decode cX11_one 1 = .ok (.iconst 0, 1) := by decide +kernel
theorem dX11_one_2 : decode cX11_one 2 = .ok (.iconst 5, 1) := by decide +kernel
theorem dX11_one_3 : decode cX11_one 3 = .ok (.invokestatic 51, 3) := by decide +kernel
theorem dX11_one_6 : decode cX11_one 6 = .ok (.ifCond .eq 34, 3) := by decide +kernel
theorem dX11_one_9 : decode cX11_one 9 = .ok (.iload_n 2, 1) := by decide +kernel
theorem dX11_one_10 : decode cX11_one 10 = .ok (.iconst 0, 1) := by decide +kernel
theorem dX11_one_11 : decode cX11_one 11 = .ok (.bipush 12, 2) := by decide +kernel
theorem dX11_one_13 : decode cX11_one 13 = .ok (.invokestatic 51, 3) := by decide +kernel
theorem dX11_one_16 : decode cX11_one 16 = .ok (.ifCond .eq 24, 3) := by decide +kernel
theorem dX11_one_19 : decode cX11_one 19 = .ok (.iload_n 3, 1) := by decide +kernel
theorem dX11_one_20 : decode cX11_one 20 = .ok (.iconst 0, 1) := by decide +kernel
theorem dX11_one_21 : decode cX11_one 21 = .ok (.bipush 30, 2) := by decide +kernel
theorem dX11_one_23 : decode cX11_one 23 = .ok (.invokestatic 51, 3) := by decide +kernel
theorem dX11_one_26 : decode cX11_one 26 = .ok (.ifCond .eq 14, 3) := by decide +kernel
theorem dX11_one_29 : decode cX11_one 29 = .ok (.iload 4, 2) := by decide +kernel
theorem dX11_one_31 : decode cX11_one 31 = .ok (.iconst 0, 1) := by decide +kernel
theorem dX11_one_32 : decode cX11_one 32 = .ok (.bipush 20, 2) := by decide +kernel
theorem dX11_one_34 : decode cX11_one 34 = .ok (.invokestatic 51, 3) := by decide +kernel
theorem dX11_one_37 : decode cX11_one 37 = .ok (.ifCond .ne 8, 3) := by decide +kernel
theorem dX11_one_40 : decode cX11_one 40 = .ok (.aload_n 0, 1) := by decide +kernel
theorem dX11_one_41 : decode cX11_one 41 = .ok (.invokevirtual 55, 3) := by decide +kernel
theorem dX11_one_44 : decode cX11_one 44 = .ok (.ireturn, 1) := by decide +kernel
theorem dX11_one_45 : decode cX11_one 45 = .ok (.aload_n 0, 1) := by decide +kernel
theorem dX11_one_46 : decode cX11_one 46 = .ok (.getfield 10, 3) := by decide +kernel
theorem dX11_one_49 : decode cX11_one 49 = .ok (.invokevirtual 44, 3) := by decide +kernel
theorem dX11_one_52 : decode cX11_one 52 = .ok (.bipush 6, 2) := by decide +kernel
theorem dX11_one_54 : decode cX11_one 54 = .ok (.if_icmp .lt 8, 3) := by decide +kernel
theorem dX11_one_57 : decode cX11_one 57 = .ok (.aload_n 0, 1) := by decide +kernel
theorem dX11_one_58 : decode cX11_one 58 = .ok (.invokevirtual 58, 3) := by decide +kernel
theorem dX11_one_61 : decode cX11_one 61 = .ok (.ireturn, 1) := by decide +kernel
theorem dX11_one_62 : decode cX11_one 62 = .ok (.aload_n 0, 1) := by decide +kernel
theorem dX11_one_63 : decode cX11_one 63 = .ok (.getfield 10, 3) := by decide +kernel
theorem dX11_one_66 : decode cX11_one 66 = .ok (.invokevirtual 61, 3) := by decide +kernel
theorem dX11_one_69 : decode cX11_one 69 = .ok (.aload_n 0, 1) := by decide +kernel
theorem dX11_one_70 : decode cX11_one 70 = .ok (.getfield 10, 3) := by decide +kernel
theorem dX11_one_73 : decode cX11_one 73 = .ok (.iload_n 1, 1) := by decide +kernel
theorem dX11_one_74 : decode cX11_one 74 = .ok (.iload_n 2, 1) := by decide +kernel
theorem dX11_one_75 : decode cX11_one 75 = .ok (.iload_n 3, 1) := by decide +kernel
theorem dX11_one_76 : decode cX11_one 76 = .ok (.iload 4, 2) := by decide +kernel
theorem dX11_one_78 : decode cX11_one 78 = .ok (.invokevirtual 64, 3) := by decide +kernel
theorem dX11_one_81 : decode cX11_one 81 = .ok (.ireturn, 1) := by decide +kernel
theorem dX11_hands_0 : decode cX11_hands 0 = .ok (.aload_n 0, 1) := by decide +kernel
theorem dX11_hands_1 : decode cX11_hands 1 = .ok (.iload_n 1, 1) := by decide +kernel
theorem dX11_hands_2 : decode cX11_hands 2 = .ok (.iload_n 2, 1) := by decide +kernel
theorem dX11_hands_3 : decode cX11_hands 3 = .ok (.invokevirtual 68, 3) := by decide +kernel
theorem dX11_hands_6 : decode cX11_hands 6 = .ok (.ifCond .eq 12, 3) := by decide +kernel
theorem dX11_hands_9 : decode cX11_hands 9 = .ok (.iload_n 3, 1) := by decide +kernel
theorem dX11_hands_10 : decode cX11_hands 10 = .ok (.iconst 0, 1) := by decide +kernel
theorem dX11_hands_11 : decode cX11_hands 11 = .ok (.iconst 1, 1) := by decide +kernel
theorem dX11_hands_12 : decode cX11_hands 12 = .ok (.invokestatic 51, 3) := by decide +kernel
theorem dX11_hands_15 : decode cX11_hands 15 = .ok (.ifCond .ne 8, 3) := by decide +kernel
theorem dX11_hands_18 : decode cX11_hands 18 = .ok (.aload_n 0, 1) := by decide +kernel
theorem dX11_hands_19 : decode cX11_hands 19 = .ok (.invokevirtual 55, 3) := by decide +kernel
theorem dX11_hands_22 : decode cX11_hands 22 = .ok (.ireturn, 1) := by decide +kernel
theorem dX11_hands_23 : decode cX11_hands 23 = .ok (.aload_n 0, 1) := by decide +kernel
theorem dX11_hands_24 : decode cX11_hands 24 = .ok (.getfield 10, 3) := by decide +kernel
theorem dX11_hands_27 : decode cX11_hands 27 = .ok (.iload_n 1, 1) := by decide +kernel
theorem dX11_hands_28 : decode cX11_hands 28 = .ok (.invokevirtual 72, 3) := by decide +kernel
theorem dX11_hands_31 : decode cX11_hands 31 = .ok (.istore 4, 2) := by decide +kernel
theorem dX11_hands_33 : decode cX11_hands 33 = .ok (.iconst 1, 1) := by decide +kernel
theorem dX11_hands_34 : decode cX11_hands 34 = .ok (.iload_n 2, 1) := by decide +kernel
theorem dX11_hands_35 : decode cX11_hands 35 = .ok (.ishl, 1) := by decide +kernel
theorem dX11_hands_36 : decode cX11_hands 36 = .ok (.istore 5, 2) := by decide +kernel
theorem dX11_hands_38 : decode cX11_hands 38 = .ok (.aload_n 0, 1) := by decide +kernel
theorem dX11_hands_39 : decode cX11_hands 39 = .ok (.getfield 10, 3) := by decide +kernel
theorem dX11_hands_42 : decode cX11_hands 42 = .ok (.invokevirtual 61, 3) := by decide +kernel
theorem dX11_hands_45 : decode cX11_hands 45 = .ok (.aload_n 0, 1) := by decide +kernel
theorem dX11_hands_46 : decode cX11_hands 46 = .ok (.getfield 10, 3) := by decide +kernel
theorem dX11_hands_49 : decode cX11_hands 49 = .ok (.iload_n 1, 1) := by decide +kernel
theorem dX11_hands_50 : decode cX11_hands 50 = .ok (.iload_n 3, 1) := by decide +kernel
theorem dX11_hands_51 : decode cX11_hands 51 = .ok (.iconst 1, 1) := by decide +kernel
theorem dX11_hands_52 : decode cX11_hands 52 = .ok (.if_icmp .ne 11, 3) := by decide +kernel
theorem dX11_hands_55 : decode cX11_hands 55 = .ok (.iload 4, 2) := by decide +kernel
theorem dX11_hands_57 : decode cX11_hands 57 = .ok (.iload 5, 2) := by decide +kernel
theorem dX11_hands_59 : decode cX11_hands 59 = .ok (.ior, 1) := by decide +kernel
theorem dX11_hands_60 : decode cX11_hands 60 = .ok (.goto 10, 3) := by decide +kernel
theorem dX11_hands_63 : decode cX11_hands 63 = .ok (.iload 4, 2) := by decide +kernel
theorem dX11_hands_65 : decode cX11_hands 65 = .ok (.iload 5, 2) := by decide +kernel
theorem dX11_hands_67 : decode cX11_hands 67 = .ok (.iconst (-1), 1) := by decide +kernel
theorem dX11_hands_68 : decode cX11_hands 68 = .ok (.ixor, 1) := by decide +kernel
theorem dX11_hands_69 : decode cX11_hands 69 = .ok (.iand, 1) := by decide +kernel
theorem dX11_hands_70 : decode cX11_hands 70 = .ok (.invokevirtual 76, 3) := by decide +kernel
theorem dX11_hands_73 : decode cX11_hands 73 = .ok (.iload 4, 2) := by decide +kernel
theorem dX11_hands_75 : decode cX11_hands 75 = .ok (.iload 5, 2) := by decide +kernel
theorem dX11_hands_77 : decode cX11_hands 77 = .ok (.iand, 1) := by decide +kernel
theorem dX11_hands_78 : decode cX11_hands 78 = .ok (.ifCond .eq 7, 3) := by decide +kernel
theorem dX11_hands_81 : decode cX11_hands 81 = .ok (.iconst 1, 1) := by decide +kernel
theorem dX11_hands_82 : decode cX11_hands 82 = .ok (.goto 4, 3) := by decide +kernel
theorem dX11_hands_85 : decode cX11_hands 85 = .ok (.iconst 0, 1) := by decide +kernel
theorem dX11_hands_86 : decode cX11_hands 86 = .ok (.ireturn, 1) := by decide +kernel
theorem dX11_type_0 : decode cX11_type 0 = .ok (.iload_n 1, 1) := by decide +kernel
theorem dX11_type_1 : decode cX11_type 1 = .ok (.iconst 0, 1) := by decide +kernel
theorem dX11_type_2 : decode cX11_type 2 = .ok (.bipush 127, 2) := by decide +kernel
theorem dX11_type_4 : decode cX11_type 4 = .ok (.invokestatic 51, 3) := by decide +kernel
theorem dX11_type_7 : decode cX11_type 7 = .ok (.ifCond .ne 8, 3) := by decide +kernel
theorem dX11_type_10 : decode cX11_type 10 = .ok (.aload_n 0, 1) := by decide +kernel
theorem dX11_type_11 : decode cX11_type 11 = .ok (.invokevirtual 55, 3) := by decide +kernel
theorem dX11_type_14 : decode cX11_type 14 = .ok (.ireturn, 1) := by decide +kernel
theorem dX11_type_15 : decode cX11_type 15 = .ok (.aload_n 0, 1) := by decide +kernel
theorem dX11_type_16 : decode cX11_type 16 = .ok (.getfield 26, 3) := by decide +kernel
theorem dX11_type_19 : decode cX11_type 19 = .ok (.invokevirtual 80, 3) := by decide +kernel
theorem dX11_type_22 : decode cX11_type 22 = .ok (.sipush 150, 3) := by decide +kernel
theorem dX11_type_25 : decode cX11_type 25 = .ok (.if_icmp .lt 8, 3) := by decide +kernel
theorem dX11_type_28 : decode cX11_type 28 = .ok (.aload_n 0, 1) := by decide +kernel
theorem dX11_type_29 : decode cX11_type 29 = .ok (.invokevirtual 58, 3) := by decide +kernel
theorem dX11_type_32 : decode cX11_type 32 = .ok (.ireturn, 1) := by decide +kernel
theorem dX11_type_33 : decode cX11_type 33 = .ok (.aload_n 0, 1) := by decide +kernel
theorem dX11_type_34 : decode cX11_type 34 = .ok (.getfield 26, 3) := by decide +kernel
theorem dX11_type_37 : decode cX11_type 37 = .ok (.iload_n 1, 1) := by decide +kernel
theorem dX11_type_38 : decode cX11_type 38 = .ok (.invokevirtual 83, 3) := by decide +kernel
theorem dX11_type_41 : decode cX11_type 41 = .ok (.ireturn, 1) := by decide +kernel
theorem dX11_clear_0 : decode cX11_clear 0 = .ok (.aload_n 0, 1) := by decide +kernel
theorem dX11_clear_1 : decode cX11_clear 1 = .ok (.getfield 26, 3) := by decide +kernel
theorem dX11_clear_4 : decode cX11_clear 4 = .ok (.invokevirtual 80, 3) := by decide +kernel
theorem dX11_clear_7 : decode cX11_clear 7 = .ok (.istore_n 1, 1) := by decide +kernel
theorem dX11_clear_8 : decode cX11_clear 8 = .ok (.aload_n 0, 1) := by decide +kernel
theorem dX11_clear_9 : decode cX11_clear 9 = .ok (.getfield 26, 3) := by decide +kernel
theorem dX11_clear_12 : decode cX11_clear 12 = .ok (.invokevirtual 86, 3) := by decide +kernel
theorem dX11_clear_15 : decode cX11_clear 15 = .ok (.iload_n 1, 1) := by decide +kernel
theorem dX11_clear_16 : decode cX11_clear 16 = .ok (.ireturn, 1) := by decide +kernel
theorem dX11_read_0 : decode cX11_read 0 = .ok (.aload_n 0, 1) := by decide +kernel
theorem dX11_read_1 : decode cX11_read 1 = .ok (.getfield 26, 3) := by decide +kernel
theorem dX11_read_4 : decode cX11_read 4 = .ok (.aload_n 0, 1) := by decide +kernel
theorem dX11_read_5 : decode cX11_read 5 = .ok (.getfield 16, 3) := by decide +kernel
theorem dX11_read_8 : decode cX11_read 8 = .ok (.invokevirtual 89, 3) := by decide +kernel
theorem dX11_read_11 : decode cX11_read 11 = .ok (.istore_n 1, 1) := by decide +kernel
theorem dX11_read_12 : decode cX11_read 12 = .ok (.aload_n 0, 1) := by decide +kernel
theorem dX11_read_13 : decode cX11_read 13 = .ok (.getfield 26, 3) := by decide +kernel
theorem dX11_read_16 : decode cX11_read 16 = .ok (.invokevirtual 93, 3) := by decide +kernel
theorem dX11_read_19 : decode cX11_read 19 = .ok (.ifCond .lt 14, 3) := by decide +kernel
theorem dX11_read_22 : decode cX11_read 22 = .ok (.bipush (-10), 2) := by decide +kernel
theorem dX11_read_24 : decode cX11_read 24 = .ok (.aload_n 0, 1) := by decide +kernel
theorem dX11_read_25 : decode cX11_read 25 = .ok (.getfield 26, 3) := by decide +kernel
theorem dX11_read_28 : decode cX11_read 28 = .ok (.invokevirtual 93, 3) := by decide +kernel
theorem dX11_read_31 : decode cX11_read 31 = .ok (.isub, 1) := by decide +kernel
theorem dX11_read_32 : decode cX11_read 32 = .ok (.ireturn, 1) := by decide +kernel
theorem dX11_read_33 : decode cX11_read 33 = .ok (.aload_n 0, 1) := by decide +kernel
theorem dX11_read_34 : decode cX11_read 34 = .ok (.getfield 10, 3) := by decide +kernel
theorem dX11_read_37 : decode cX11_read 37 = .ok (.aload_n 0, 1) := by decide +kernel
theorem dX11_read_38 : decode cX11_read 38 = .ok (.getfield 16, 3) := by decide +kernel
theorem dX11_read_41 : decode cX11_read 41 = .ok (.invokevirtual 96, 3) := by decide +kernel
theorem dX11_read_44 : decode cX11_read 44 = .ok (.iload_n 1, 1) := by decide +kernel
theorem dX11_read_45 : decode cX11_read 45 = .ok (.ireturn, 1) := by decide +kernel
theorem dX11_lie_0 : decode cX11_lie 0 = .ok (.aload_n 0, 1) := by decide +kernel
theorem dX11_lie_1 : decode cX11_lie 1 = .ok (.getfield 10, 3) := by decide +kernel
theorem dX11_lie_4 : decode cX11_lie 4 = .ok (.iload_n 1, 1) := by decide +kernel
theorem dX11_lie_5 : decode cX11_lie 5 = .ok (.invokevirtual 100, 3) := by decide +kernel
theorem dX11_lie_8 : decode cX11_lie 8 = .ok (.ifCond .eq 12, 3) := by decide +kernel
theorem dX11_lie_11 : decode cX11_lie 11 = .ok (.iload_n 2, 1) := by decide +kernel
theorem dX11_lie_12 : decode cX11_lie 12 = .ok (.iconst 1, 1) := by decide +kernel
theorem dX11_lie_13 : decode cX11_lie 13 = .ok (.iconst 4, 1) := by decide +kernel
theorem dX11_lie_14 : decode cX11_lie 14 = .ok (.invokestatic 51, 3) := by decide +kernel
theorem dX11_lie_17 : decode cX11_lie 17 = .ok (.ifCond .ne 8, 3) := by decide +kernel
theorem dX11_lie_20 : decode cX11_lie 20 = .ok (.aload_n 0, 1) := by decide +kernel
theorem dX11_lie_21 : decode cX11_lie 21 = .ok (.invokevirtual 55, 3) := by decide +kernel
theorem dX11_lie_24 : decode cX11_lie 24 = .ok (.ireturn, 1) := by decide +kernel
theorem dX11_lie_25 : decode cX11_lie 25 = .ok (.aload_n 0, 1) := by decide +kernel
theorem dX11_lie_26 : decode cX11_lie 26 = .ok (.getfield 10, 3) := by decide +kernel
theorem dX11_lie_29 : decode cX11_lie 29 = .ok (.invokevirtual 104, 3) := by decide +kernel
theorem dX11_lie_32 : decode cX11_lie 32 = .ok (.aload_n 0, 1) := by decide +kernel
theorem dX11_lie_33 : decode cX11_lie 33 = .ok (.getfield 10, 3) := by decide +kernel
theorem dX11_lie_36 : decode cX11_lie 36 = .ok (.iload_n 1, 1) := by decide +kernel
theorem dX11_lie_37 : decode cX11_lie 37 = .ok (.iload_n 2, 1) := by decide +kernel
theorem dX11_lie_38 : decode cX11_lie 38 = .ok (.invokevirtual 107, 3) := by decide +kernel
theorem dX11_lie_41 : decode cX11_lie 41 = .ok (.aload_n 0, 1) := by decide +kernel
theorem dX11_lie_42 : decode cX11_lie 42 = .ok (.getfield 10, 3) := by decide +kernel
theorem dX11_lie_45 : decode cX11_lie 45 = .ok (.iload_n 1, 1) := by decide +kernel
theorem dX11_lie_46 : decode cX11_lie 46 = .ok (.invokevirtual 110, 3) := by decide +kernel
theorem dX11_lie_49 : decode cX11_lie 49 = .ok (.ireturn, 1) := by decide +kernel
theorem dX11_give_0 : decode cX11_give 0 = .ok (.aload_n 0, 1) := by decide +kernel
theorem dX11_give_1 : decode cX11_give 1 = .ok (.iload_n 1, 1) := by decide +kernel
theorem dX11_give_2 : decode cX11_give 2 = .ok (.iload_n 2, 1) := by decide +kernel
theorem dX11_give_3 : decode cX11_give 3 = .ok (.invokevirtual 68, 3) := by decide +kernel
theorem dX11_give_6 : decode cX11_give 6 = .ok (.ifCond .eq 13, 3) := by decide +kernel
theorem dX11_give_9 : decode cX11_give 9 = .ok (.iload_n 3, 1) := by decide +kernel
theorem dX11_give_10 : decode cX11_give 10 = .ok (.iconst 1, 1) := by decide +kernel
theorem dX11_give_11 : decode cX11_give 11 = .ok (.bipush 99, 2) := by decide +kernel
theorem dX11_give_13 : decode cX11_give 13 = .ok (.invokestatic 51, 3) := by decide +kernel
theorem dX11_give_16 : decode cX11_give 16 = .ok (.ifCond .ne 8, 3) := by decide +kernel
theorem dX11_give_19 : decode cX11_give 19 = .ok (.aload_n 0, 1) := by decide +kernel
theorem dX11_give_20 : decode cX11_give 20 = .ok (.invokevirtual 55, 3) := by decide +kernel
theorem dX11_give_23 : decode cX11_give 23 = .ok (.ireturn, 1) := by decide +kernel
theorem dX11_give_24 : decode cX11_give 24 = .ok (.aload_n 0, 1) := by decide +kernel
theorem dX11_give_25 : decode cX11_give 25 = .ok (.getfield 10, 3) := by decide +kernel
theorem dX11_give_28 : decode cX11_give 28 = .ok (.iload_n 1, 1) := by decide +kernel
theorem dX11_give_29 : decode cX11_give 29 = .ok (.invokevirtual 72, 3) := by decide +kernel
theorem dX11_give_32 : decode cX11_give 32 = .ok (.iconst 1, 1) := by decide +kernel
theorem dX11_give_33 : decode cX11_give 33 = .ok (.iload_n 2, 1) := by decide +kernel
theorem dX11_give_34 : decode cX11_give 34 = .ok (.ishl, 1) := by decide +kernel
theorem dX11_give_35 : decode cX11_give 35 = .ok (.iand, 1) := by decide +kernel
theorem dX11_give_36 : decode cX11_give 36 = .ok (.ifCond .eq 15, 3) := by decide +kernel
theorem dX11_give_39 : decode cX11_give 39 = .ok (.aload_n 0, 1) := by decide +kernel
theorem dX11_give_40 : decode cX11_give 40 = .ok (.getfield 10, 3) := by decide +kernel
theorem dX11_give_43 : decode cX11_give 43 = .ok (.iload_n 1, 1) := by decide +kernel
theorem dX11_give_44 : decode cX11_give 44 = .ok (.invokevirtual 113, 3) := by decide +kernel
theorem dX11_give_47 : decode cX11_give 47 = .ok (.iload_n 3, 1) := by decide +kernel
theorem dX11_give_48 : decode cX11_give 48 = .ok (.if_icmp .ge 8, 3) := by decide +kernel
theorem dX11_give_51 : decode cX11_give 51 = .ok (.aload_n 0, 1) := by decide +kernel
theorem dX11_give_52 : decode cX11_give 52 = .ok (.invokevirtual 116, 3) := by decide +kernel
theorem dX11_give_55 : decode cX11_give 55 = .ok (.ireturn, 1) := by decide +kernel
theorem dX11_give_56 : decode cX11_give 56 = .ok (.aload_n 0, 1) := by decide +kernel
theorem dX11_give_57 : decode cX11_give 57 = .ok (.getfield 10, 3) := by decide +kernel
theorem dX11_give_60 : decode cX11_give 60 = .ok (.invokevirtual 104, 3) := by decide +kernel
theorem dX11_give_63 : decode cX11_give 63 = .ok (.aload_n 0, 1) := by decide +kernel
theorem dX11_give_64 : decode cX11_give 64 = .ok (.getfield 10, 3) := by decide +kernel
theorem dX11_give_67 : decode cX11_give 67 = .ok (.iload_n 1, 1) := by decide +kernel
theorem dX11_give_68 : decode cX11_give 68 = .ok (.iload_n 2, 1) := by decide +kernel
theorem dX11_give_69 : decode cX11_give 69 = .ok (.iload_n 3, 1) := by decide +kernel
theorem dX11_give_70 : decode cX11_give 70 = .ok (.invokevirtual 119, 3) := by decide +kernel
theorem dX11_give_73 : decode cX11_give 73 = .ok (.aload_n 0, 1) := by decide +kernel
theorem dX11_give_74 : decode cX11_give 74 = .ok (.getfield 10, 3) := by decide +kernel
theorem dX11_give_77 : decode cX11_give 77 = .ok (.iload_n 1, 1) := by decide +kernel
theorem dX11_give_78 : decode cX11_give 78 = .ok (.invokevirtual 113, 3) := by decide +kernel
theorem dX11_give_81 : decode cX11_give 81 = .ok (.ireturn, 1) := by decide +kernel
theorem dX11_day_0 : decode cX11_day 0 = .ok (.aload_n 0, 1) := by decide +kernel
theorem dX11_day_1 : decode cX11_day 1 = .ok (.getfield 10, 3) := by decide +kernel
theorem dX11_day_4 : decode cX11_day 4 = .ok (.invokevirtual 104, 3) := by decide +kernel
theorem dX11_day_7 : decode cX11_day 7 = .ok (.aload_n 0, 1) := by decide +kernel
theorem dX11_day_8 : decode cX11_day 8 = .ok (.getfield 10, 3) := by decide +kernel
theorem dX11_day_11 : decode cX11_day 11 = .ok (.invokevirtual 123, 3) := by decide +kernel
theorem dX11_day_14 : decode cX11_day 14 = .ok (.aload_n 0, 1) := by decide +kernel
theorem dX11_day_15 : decode cX11_day 15 = .ok (.getfield 10, 3) := by decide +kernel
theorem dX11_day_18 : decode cX11_day 18 = .ok (.invokevirtual 126, 3) := by decide +kernel
theorem dX11_day_21 : decode cX11_day 21 = .ok (.ireturn, 1) := by decide +kernel
theorem dX11_undo_0 : decode cX11_undo 0 = .ok (.aload_n 0, 1) := by decide +kernel
theorem dX11_undo_1 : decode cX11_undo 1 = .ok (.getfield 10, 3) := by decide +kernel
theorem dX11_undo_4 : decode cX11_undo 4 = .ok (.invokevirtual 129, 3) := by decide +kernel
theorem dX11_undo_7 : decode cX11_undo 7 = .ok (.ifCond .ne 8, 3) := by decide +kernel
theorem dX11_undo_10 : decode cX11_undo 10 = .ok (.aload_n 0, 1) := by decide +kernel
theorem dX11_undo_11 : decode cX11_undo 11 = .ok (.invokevirtual 116, 3) := by decide +kernel
theorem dX11_undo_14 : decode cX11_undo 14 = .ok (.ireturn, 1) := by decide +kernel
theorem dX11_undo_15 : decode cX11_undo 15 = .ok (.aload_n 0, 1) := by decide +kernel
theorem dX11_undo_16 : decode cX11_undo 16 = .ok (.getfield 10, 3) := by decide +kernel
theorem dX11_undo_19 : decode cX11_undo 19 = .ok (.invokevirtual 132, 3) := by decide +kernel
theorem dX11_undo_22 : decode cX11_undo 22 = .ok (.aload_n 0, 1) := by decide +kernel
theorem dX11_undo_23 : decode cX11_undo 23 = .ok (.getfield 10, 3) := by decide +kernel
theorem dX11_undo_26 : decode cX11_undo 26 = .ok (.invokevirtual 126, 3) := by decide +kernel
theorem dX11_undo_29 : decode cX11_undo 29 = .ok (.ireturn, 1) := by decide +kernel
theorem dX11_of_0 : decode cX11_of 0 = .ok (.aload_n 0, 1) := by decide +kernel
theorem dX11_of_1 : decode cX11_of 1 = .ok (.getfield 10, 3) := by decide +kernel
theorem dX11_of_4 : decode cX11_of 4 = .ok (.iload_n 1, 1) := by decide +kernel
theorem dX11_of_5 : decode cX11_of 5 = .ok (.invokevirtual 100, 3) := by decide +kernel
theorem dX11_of_8 : decode cX11_of 8 = .ok (.ifCond .ne 8, 3) := by decide +kernel
theorem dX11_of_11 : decode cX11_of 11 = .ok (.aload_n 0, 1) := by decide +kernel
theorem dX11_of_12 : decode cX11_of 12 = .ok (.invokevirtual 55, 3) := by decide +kernel
theorem dX11_of_15 : decode cX11_of 15 = .ok (.ireturn, 1) := by decide +kernel
theorem dX11_of_16 : decode cX11_of 16 = .ok (.iload_n 2, 1) := by decide +kernel
theorem dX11_of_17 : decode cX11_of 17 = .ok (.tableswitch 106 0 6 #[43, 52, 61, 70, 79, 88, 97], 43) := by decide +kernel
theorem dX11_of_60 : decode cX11_of 60 = .ok (.aload_n 0, 1) := by decide +kernel
theorem dX11_of_61 : decode cX11_of 61 = .ok (.getfield 10, 3) := by decide +kernel
theorem dX11_of_64 : decode cX11_of 64 = .ok (.iload_n 1, 1) := by decide +kernel
theorem dX11_of_65 : decode cX11_of 65 = .ok (.invokevirtual 135, 3) := by decide +kernel
theorem dX11_of_68 : decode cX11_of 68 = .ok (.ireturn, 1) := by decide +kernel
theorem dX11_of_69 : decode cX11_of 69 = .ok (.aload_n 0, 1) := by decide +kernel
theorem dX11_of_70 : decode cX11_of 70 = .ok (.getfield 10, 3) := by decide +kernel
theorem dX11_of_73 : decode cX11_of 73 = .ok (.iload_n 1, 1) := by decide +kernel
theorem dX11_of_74 : decode cX11_of 74 = .ok (.invokevirtual 110, 3) := by decide +kernel
theorem dX11_of_77 : decode cX11_of 77 = .ok (.ireturn, 1) := by decide +kernel
theorem dX11_of_78 : decode cX11_of 78 = .ok (.aload_n 0, 1) := by decide +kernel
theorem dX11_of_79 : decode cX11_of 79 = .ok (.getfield 10, 3) := by decide +kernel
theorem dX11_of_82 : decode cX11_of 82 = .ok (.iload_n 1, 1) := by decide +kernel
theorem dX11_of_83 : decode cX11_of 83 = .ok (.invokevirtual 113, 3) := by decide +kernel
theorem dX11_of_86 : decode cX11_of 86 = .ok (.ireturn, 1) := by decide +kernel
theorem dX11_of_87 : decode cX11_of 87 = .ok (.aload_n 0, 1) := by decide +kernel
theorem dX11_of_88 : decode cX11_of 88 = .ok (.getfield 10, 3) := by decide +kernel
theorem dX11_of_91 : decode cX11_of 91 = .ok (.iload_n 1, 1) := by decide +kernel
theorem dX11_of_92 : decode cX11_of 92 = .ok (.invokevirtual 138, 3) := by decide +kernel
theorem dX11_of_95 : decode cX11_of 95 = .ok (.ireturn, 1) := by decide +kernel
theorem dX11_of_96 : decode cX11_of 96 = .ok (.aload_n 0, 1) := by decide +kernel
theorem dX11_of_97 : decode cX11_of 97 = .ok (.getfield 10, 3) := by decide +kernel
theorem dX11_of_100 : decode cX11_of 100 = .ok (.iload_n 1, 1) := by decide +kernel
theorem dX11_of_101 : decode cX11_of 101 = .ok (.invokevirtual 141, 3) := by decide +kernel
theorem dX11_of_104 : decode cX11_of 104 = .ok (.ireturn, 1) := by decide +kernel
theorem dX11_of_105 : decode cX11_of 105 = .ok (.aload_n 0, 1) := by decide +kernel
theorem dX11_of_106 : decode cX11_of 106 = .ok (.getfield 10, 3) := by decide +kernel
theorem dX11_of_109 : decode cX11_of 109 = .ok (.iload_n 1, 1) := by decide +kernel
theorem dX11_of_110 : decode cX11_of 110 = .ok (.invokevirtual 72, 3) := by decide +kernel
theorem dX11_of_113 : decode cX11_of 113 = .ok (.ireturn, 1) := by decide +kernel
theorem dX11_of_114 : decode cX11_of 114 = .ok (.aload_n 0, 1) := by decide +kernel
theorem dX11_of_115 : decode cX11_of 115 = .ok (.getfield 10, 3) := by decide +kernel
theorem dX11_of_118 : decode cX11_of 118 = .ok (.iload_n 1, 1) := by decide +kernel
theorem dX11_of_119 : decode cX11_of 119 = .ok (.invokevirtual 144, 3) := by decide +kernel
theorem dX11_of_122 : decode cX11_of 122 = .ok (.ireturn, 1) := by decide +kernel
theorem dX11_of_123 : decode cX11_of 123 = .ok (.aload_n 0, 1) := by decide +kernel
theorem dX11_of_124 : decode cX11_of 124 = .ok (.invokevirtual 55, 3) := by decide +kernel
theorem dX11_of_127 : decode cX11_of 127 = .ok (.ireturn, 1) := by decide +kernel
theorem dX11_weighs_0 : decode cX11_weighs 0 = .ok (.aload_n 0, 1) := by decide +kernel
theorem dX11_weighs_1 : decode cX11_weighs 1 = .ok (.getfield 10, 3) := by decide +kernel
theorem dX11_weighs_4 : decode cX11_weighs 4 = .ok (.iload_n 1, 1) := by decide +kernel
theorem dX11_weighs_5 : decode cX11_weighs 5 = .ok (.invokevirtual 100, 3) := by decide +kernel
theorem dX11_weighs_8 : decode cX11_weighs 8 = .ok (.ifCond .eq 13, 3) := by decide +kernel
theorem dX11_weighs_11 : decode cX11_weighs 11 = .ok (.iload_n 2, 1) := by decide +kernel
theorem dX11_weighs_12 : decode cX11_weighs 12 = .ok (.iconst 0, 1) := by decide +kernel
theorem dX11_weighs_13 : decode cX11_weighs 13 = .ok (.bipush 99, 2) := by decide +kernel
theorem dX11_weighs_15 : decode cX11_weighs 15 = .ok (.invokestatic 51, 3) := by decide +kernel
theorem dX11_weighs_18 : decode cX11_weighs 18 = .ok (.ifCond .ne 8, 3) := by decide +kernel
theorem dX11_weighs_21 : decode cX11_weighs 21 = .ok (.aload_n 0, 1) := by decide +kernel
theorem dX11_weighs_22 : decode cX11_weighs 22 = .ok (.invokevirtual 55, 3) := by decide +kernel
theorem dX11_weighs_25 : decode cX11_weighs 25 = .ok (.ireturn, 1) := by decide +kernel
theorem dX11_weighs_26 : decode cX11_weighs 26 = .ok (.aload_n 0, 1) := by decide +kernel
theorem dX11_weighs_27 : decode cX11_weighs 27 = .ok (.getfield 10, 3) := by decide +kernel
theorem dX11_weighs_30 : decode cX11_weighs 30 = .ok (.iload_n 1, 1) := by decide +kernel
theorem dX11_weighs_31 : decode cX11_weighs 31 = .ok (.iload_n 2, 1) := by decide +kernel
theorem dX11_weighs_32 : decode cX11_weighs 32 = .ok (.invokevirtual 147, 3) := by decide +kernel
theorem dX11_weighs_35 : decode cX11_weighs 35 = .ok (.ireturn, 1) := by decide +kernel
theorem dX11_all_0 : decode cX11_all 0 = .ok (.aload_n 0, 1) := by decide +kernel
theorem dX11_all_1 : decode cX11_all 1 = .ok (.getfield 10, 3) := by decide +kernel
theorem dX11_all_4 : decode cX11_all 4 = .ok (.invokevirtual 151, 3) := by decide +kernel
theorem dX11_all_7 : decode cX11_all 7 = .ok (.ireturn, 1) := by decide +kernel
theorem dX11_when_0 : decode cX11_when 0 = .ok (.aload_n 0, 1) := by decide +kernel
theorem dX11_when_1 : decode cX11_when 1 = .ok (.getfield 10, 3) := by decide +kernel
theorem dX11_when_4 : decode cX11_when 4 = .ok (.iload_n 1, 1) := by decide +kernel
theorem dX11_when_5 : decode cX11_when 5 = .ok (.invokevirtual 100, 3) := by decide +kernel
theorem dX11_when_8 : decode cX11_when 8 = .ok (.ifCond .eq 14, 3) := by decide +kernel
theorem dX11_when_11 : decode cX11_when 11 = .ok (.iload_n 2, 1) := by decide +kernel
theorem dX11_when_12 : decode cX11_when 12 = .ok (.iconst 0, 1) := by decide +kernel
theorem dX11_when_13 : decode cX11_when 13 = .ok (.sipush 999, 3) := by decide +kernel
theorem dX11_when_16 : decode cX11_when 16 = .ok (.invokestatic 51, 3) := by decide +kernel
theorem dX11_when_19 : decode cX11_when 19 = .ok (.ifCond .ne 8, 3) := by decide +kernel
theorem dX11_when_22 : decode cX11_when 22 = .ok (.aload_n 0, 1) := by decide +kernel
theorem dX11_when_23 : decode cX11_when 23 = .ok (.invokevirtual 55, 3) := by decide +kernel
theorem dX11_when_26 : decode cX11_when 26 = .ok (.ireturn, 1) := by decide +kernel
theorem dX11_when_27 : decode cX11_when 27 = .ok (.aload_n 0, 1) := by decide +kernel
theorem dX11_when_28 : decode cX11_when 28 = .ok (.getfield 10, 3) := by decide +kernel
theorem dX11_when_31 : decode cX11_when 31 = .ok (.iload_n 1, 1) := by decide +kernel
theorem dX11_when_32 : decode cX11_when 32 = .ok (.iload_n 2, 1) := by decide +kernel
theorem dX11_when_33 : decode cX11_when 33 = .ok (.invokevirtual 154, 3) := by decide +kernel
theorem dX11_when_36 : decode cX11_when 36 = .ok (.ireturn, 1) := by decide +kernel
theorem dX11_bag_0 : decode cX11_bag 0 = .ok (.aload_n 0, 1) := by decide +kernel
theorem dX11_bag_1 : decode cX11_bag 1 = .ok (.iload_n 1, 1) := by decide +kernel
theorem dX11_bag_2 : decode cX11_bag 2 = .ok (.iload_n 2, 1) := by decide +kernel
theorem dX11_bag_3 : decode cX11_bag 3 = .ok (.invokevirtual 68, 3) := by decide +kernel
theorem dX11_bag_6 : decode cX11_bag 6 = .ok (.ifCond .eq 19, 3) := by decide +kernel
theorem dX11_bag_9 : decode cX11_bag 9 = .ok (.iload_n 3, 1) := by decide +kernel
theorem dX11_bag_10 : decode cX11_bag 10 = .ok (.iconst 0, 1) := by decide +kernel
theorem dX11_bag_11 : decode cX11_bag 11 = .ok (.bipush 99, 2) := by decide +kernel
theorem dX11_bag_13 : decode cX11_bag 13 = .ok (.invokestatic 51, 3) := by decide +kernel
theorem dX11_bag_16 : decode cX11_bag 16 = .ok (.ifCond .eq 9, 3) := by decide +kernel
theorem dX11_bag_19 : decode cX11_bag 19 = .ok (.iload 4, 2) := by decide +kernel
theorem dX11_bag_21 : decode cX11_bag 21 = .ok (.iconst (-1), 1) := by decide +kernel
theorem dX11_bag_22 : decode cX11_bag 22 = .ok (.if_icmp .ge 11, 3) := by decide +kernel
theorem dX11_bag_25 : decode cX11_bag 25 = .ok (.aload_n 0, 1) := by decide +kernel
theorem dX11_bag_26 : decode cX11_bag 26 = .ok (.invokevirtual 55, 3) := by decide +kernel
theorem dX11_bag_29 : decode cX11_bag 29 = .ok (.pop, 1) := by decide +kernel
theorem dX11_bag_30 : decode cX11_bag 30 = .ok (.bipush (-10), 2) := by decide +kernel
theorem dX11_bag_32 : decode cX11_bag 32 = .ok (.ireturn, 1) := by decide +kernel
theorem dX11_bag_33 : decode cX11_bag 33 = .ok (.aload_n 0, 1) := by decide +kernel
theorem dX11_bag_34 : decode cX11_bag 34 = .ok (.getfield 33, 3) := by decide +kernel
theorem dX11_bag_37 : decode cX11_bag 37 = .ok (.aload_n 0, 1) := by decide +kernel
theorem dX11_bag_38 : decode cX11_bag 38 = .ok (.getfield 10, 3) := by decide +kernel
theorem dX11_bag_41 : decode cX11_bag 41 = .ok (.iload_n 1, 1) := by decide +kernel
theorem dX11_bag_42 : decode cX11_bag 42 = .ok (.iload_n 2, 1) := by decide +kernel
theorem dX11_bag_43 : decode cX11_bag 43 = .ok (.iload_n 3, 1) := by decide +kernel
theorem dX11_bag_44 : decode cX11_bag 44 = .ok (.invokevirtual 157, 3) := by decide +kernel
theorem dX11_bag_47 : decode cX11_bag 47 = .ok (.istore 5, 2) := by decide +kernel
theorem dX11_bag_49 : decode cX11_bag 49 = .ok (.iload 5, 2) := by decide +kernel
theorem dX11_bag_51 : decode cX11_bag 51 = .ok (.iconst (-1), 1) := by decide +kernel
theorem dX11_bag_52 : decode cX11_bag 52 = .ok (.if_icmp .eq 9, 3) := by decide +kernel
theorem dX11_bag_55 : decode cX11_bag 55 = .ok (.iload 4, 2) := by decide +kernel
theorem dX11_bag_57 : decode cX11_bag 57 = .ok (.iconst (-1), 1) := by decide +kernel
theorem dX11_bag_58 : decode cX11_bag 58 = .ok (.if_icmp .ne 6, 3) := by decide +kernel
theorem dX11_bag_61 : decode cX11_bag 61 = .ok (.iload 5, 2) := by decide +kernel
theorem dX11_bag_63 : decode cX11_bag 63 = .ok (.ireturn, 1) := by decide +kernel
theorem dX11_bag_64 : decode cX11_bag 64 = .ok (.aload_n 0, 1) := by decide +kernel
theorem dX11_bag_65 : decode cX11_bag 65 = .ok (.getfield 33, 3) := by decide +kernel
theorem dX11_bag_68 : decode cX11_bag 68 = .ok (.aload_n 0, 1) := by decide +kernel
theorem dX11_bag_69 : decode cX11_bag 69 = .ok (.getfield 10, 3) := by decide +kernel
theorem dX11_bag_72 : decode cX11_bag 72 = .ok (.iload_n 1, 1) := by decide +kernel
theorem dX11_bag_73 : decode cX11_bag 73 = .ok (.iload 4, 2) := by decide +kernel
theorem dX11_bag_75 : decode cX11_bag 75 = .ok (.invokevirtual 161, 3) := by decide +kernel
theorem dX11_bag_78 : decode cX11_bag 78 = .ok (.ireturn, 1) := by decide +kernel
theorem dX11_debt_0 : decode cX11_debt 0 = .ok (.aload_n 0, 1) := by decide +kernel
theorem dX11_debt_1 : decode cX11_debt 1 = .ok (.getfield 10, 3) := by decide +kernel
theorem dX11_debt_4 : decode cX11_debt 4 = .ok (.iload_n 1, 1) := by decide +kernel
theorem dX11_debt_5 : decode cX11_debt 5 = .ok (.invokevirtual 100, 3) := by decide +kernel
theorem dX11_debt_8 : decode cX11_debt 8 = .ok (.ifCond .eq 14, 3) := by decide +kernel
theorem dX11_debt_11 : decode cX11_debt 11 = .ok (.iload_n 2, 1) := by decide +kernel
theorem dX11_debt_12 : decode cX11_debt 12 = .ok (.iconst 0, 1) := by decide +kernel
theorem dX11_debt_13 : decode cX11_debt 13 = .ok (.sipush 999, 3) := by decide +kernel
theorem dX11_debt_16 : decode cX11_debt 16 = .ok (.invokestatic 51, 3) := by decide +kernel
theorem dX11_debt_19 : decode cX11_debt 19 = .ok (.ifCond .ne 8, 3) := by decide +kernel
theorem dX11_debt_22 : decode cX11_debt 22 = .ok (.aload_n 0, 1) := by decide +kernel
theorem dX11_debt_23 : decode cX11_debt 23 = .ok (.invokevirtual 55, 3) := by decide +kernel
theorem dX11_debt_26 : decode cX11_debt 26 = .ok (.ireturn, 1) := by decide +kernel
theorem dX11_debt_27 : decode cX11_debt 27 = .ok (.aload_n 0, 1) := by decide +kernel
theorem dX11_debt_28 : decode cX11_debt 28 = .ok (.getfield 10, 3) := by decide +kernel
theorem dX11_debt_31 : decode cX11_debt 31 = .ok (.iload_n 1, 1) := by decide +kernel
theorem dX11_debt_32 : decode cX11_debt 32 = .ok (.iload_n 2, 1) := by decide +kernel
theorem dX11_debt_33 : decode cX11_debt 33 = .ok (.invokevirtual 165, 3) := by decide +kernel
theorem dX11_debt_36 : decode cX11_debt 36 = .ok (.ireturn, 1) := by decide +kernel
theorem dX11_hire_0 : decode cX11_hire 0 = .ok (.iload_n 1, 1) := by decide +kernel
theorem dX11_hire_1 : decode cX11_hire 1 = .ok (.iconst 0, 1) := by decide +kernel
theorem dX11_hire_2 : decode cX11_hire 2 = .ok (.bipush 120, 2) := by decide +kernel
theorem dX11_hire_4 : decode cX11_hire 4 = .ok (.invokestatic 51, 3) := by decide +kernel
theorem dX11_hire_7 : decode cX11_hire 7 = .ok (.ifCond .eq 22, 3) := by decide +kernel
theorem dX11_hire_10 : decode cX11_hire 10 = .ok (.iload_n 2, 1) := by decide +kernel
theorem dX11_hire_11 : decode cX11_hire 11 = .ok (.iconst 0, 1) := by decide +kernel
theorem dX11_hire_12 : decode cX11_hire 12 = .ok (.bipush 99, 2) := by decide +kernel
theorem dX11_hire_14 : decode cX11_hire 14 = .ok (.invokestatic 51, 3) := by decide +kernel
theorem dX11_hire_17 : decode cX11_hire 17 = .ok (.ifCond .eq 12, 3) := by decide +kernel
theorem dX11_hire_20 : decode cX11_hire 20 = .ok (.iload_n 3, 1) := by decide +kernel
theorem dX11_hire_21 : decode cX11_hire 21 = .ok (.iconst 0, 1) := by decide +kernel
theorem dX11_hire_22 : decode cX11_hire 22 = .ok (.iconst 1, 1) := by decide +kernel
theorem dX11_hire_23 : decode cX11_hire 23 = .ok (.invokestatic 51, 3) := by decide +kernel
theorem dX11_hire_26 : decode cX11_hire 26 = .ok (.ifCond .ne 8, 3) := by decide +kernel
theorem dX11_hire_29 : decode cX11_hire 29 = .ok (.aload_n 0, 1) := by decide +kernel
theorem dX11_hire_30 : decode cX11_hire 30 = .ok (.invokevirtual 55, 3) := by decide +kernel
theorem dX11_hire_33 : decode cX11_hire 33 = .ok (.ireturn, 1) := by decide +kernel
theorem dX11_hire_34 : decode cX11_hire 34 = .ok (.aload_n 0, 1) := by decide +kernel
theorem dX11_hire_35 : decode cX11_hire 35 = .ok (.getfield 33, 3) := by decide +kernel
theorem dX11_hire_38 : decode cX11_hire 38 = .ok (.aload_n 0, 1) := by decide +kernel
theorem dX11_hire_39 : decode cX11_hire 39 = .ok (.getfield 10, 3) := by decide +kernel
theorem dX11_hire_42 : decode cX11_hire 42 = .ok (.iload_n 1, 1) := by decide +kernel
theorem dX11_hire_43 : decode cX11_hire 43 = .ok (.iload_n 2, 1) := by decide +kernel
theorem dX11_hire_44 : decode cX11_hire 44 = .ok (.invokevirtual 168, 3) := by decide +kernel
theorem dX11_hire_47 : decode cX11_hire 47 = .ok (.istore 4, 2) := by decide +kernel
theorem dX11_hire_49 : decode cX11_hire 49 = .ok (.iload_n 3, 1) := by decide +kernel
theorem dX11_hire_50 : decode cX11_hire 50 = .ok (.ifCond .ne 8, 3) := by decide +kernel
theorem dX11_hire_53 : decode cX11_hire 53 = .ok (.iload 4, 2) := by decide +kernel
theorem dX11_hire_55 : decode cX11_hire 55 = .ok (.goto 12, 3) := by decide +kernel
theorem dX11_hire_58 : decode cX11_hire 58 = .ok (.aload_n 0, 1) := by decide +kernel
theorem dX11_hire_59 : decode cX11_hire 59 = .ok (.getfield 33, 3) := by decide +kernel
theorem dX11_hire_62 : decode cX11_hire 62 = .ok (.iload 4, 2) := by decide +kernel
theorem dX11_hire_64 : decode cX11_hire 64 = .ok (.invokevirtual 171, 3) := by decide +kernel
theorem dX11_hire_67 : decode cX11_hire 67 = .ok (.ireturn, 1) := by decide +kernel
theorem dX11_shelves_0 : decode cX11_shelves 0 = .ok (.iload_n 1, 1) := by decide +kernel
theorem dX11_shelves_1 : decode cX11_shelves 1 = .ok (.iconst 0, 1) := by decide +kernel
theorem dX11_shelves_2 : decode cX11_shelves 2 = .ok (.bipush 20, 2) := by decide +kernel
theorem dX11_shelves_4 : decode cX11_shelves 4 = .ok (.invokestatic 51, 3) := by decide +kernel
theorem dX11_shelves_7 : decode cX11_shelves 7 = .ok (.ifCond .eq 29, 3) := by decide +kernel
theorem dX11_shelves_10 : decode cX11_shelves 10 = .ok (.iload_n 2, 1) := by decide +kernel
theorem dX11_shelves_11 : decode cX11_shelves 11 = .ok (.iconst 0, 1) := by decide +kernel
theorem dX11_shelves_12 : decode cX11_shelves 12 = .ok (.bipush 9, 2) := by decide +kernel
theorem dX11_shelves_14 : decode cX11_shelves 14 = .ok (.invokestatic 51, 3) := by decide +kernel
theorem dX11_shelves_17 : decode cX11_shelves 17 = .ok (.ifCond .eq 19, 3) := by decide +kernel
theorem dX11_shelves_20 : decode cX11_shelves 20 = .ok (.iload_n 3, 1) := by decide +kernel
theorem dX11_shelves_21 : decode cX11_shelves 21 = .ok (.iconst (-1), 1) := by decide +kernel
theorem dX11_shelves_22 : decode cX11_shelves 22 = .ok (.if_icmp .eq 22, 3) := by decide +kernel
theorem dX11_shelves_25 : decode cX11_shelves 25 = .ok (.aload_n 0, 1) := by decide +kernel
theorem dX11_shelves_26 : decode cX11_shelves 26 = .ok (.getfield 10, 3) := by decide +kernel
theorem dX11_shelves_29 : decode cX11_shelves 29 = .ok (.iload_n 3, 1) := by decide +kernel
theorem dX11_shelves_30 : decode cX11_shelves 30 = .ok (.invokevirtual 100, 3) := by decide +kernel
theorem dX11_shelves_33 : decode cX11_shelves 33 = .ok (.ifCond .ne 11, 3) := by decide +kernel
theorem dX11_shelves_36 : decode cX11_shelves 36 = .ok (.aload_n 0, 1) := by decide +kernel
theorem dX11_shelves_37 : decode cX11_shelves 37 = .ok (.invokevirtual 55, 3) := by decide +kernel
theorem dX11_shelves_40 : decode cX11_shelves 40 = .ok (.pop, 1) := by decide +kernel
theorem dX11_shelves_41 : decode cX11_shelves 41 = .ok (.bipush (-10), 2) := by decide +kernel
theorem dX11_shelves_43 : decode cX11_shelves 43 = .ok (.ireturn, 1) := by decide +kernel
theorem dX11_shelves_44 : decode cX11_shelves 44 = .ok (.aload_n 0, 1) := by decide +kernel
theorem dX11_shelves_45 : decode cX11_shelves 45 = .ok (.getfield 33, 3) := by decide +kernel
theorem dX11_shelves_48 : decode cX11_shelves 48 = .ok (.aload_n 0, 1) := by decide +kernel
theorem dX11_shelves_49 : decode cX11_shelves 49 = .ok (.getfield 10, 3) := by decide +kernel
theorem dX11_shelves_52 : decode cX11_shelves 52 = .ok (.iload_n 1, 1) := by decide +kernel
theorem dX11_shelves_53 : decode cX11_shelves 53 = .ok (.iload_n 2, 1) := by decide +kernel
theorem dX11_shelves_54 : decode cX11_shelves 54 = .ok (.invokevirtual 174, 3) := by decide +kernel
theorem dX11_shelves_57 : decode cX11_shelves 57 = .ok (.istore 4, 2) := by decide +kernel
theorem dX11_shelves_59 : decode cX11_shelves 59 = .ok (.iload_n 3, 1) := by decide +kernel
theorem dX11_shelves_60 : decode cX11_shelves 60 = .ok (.iconst (-1), 1) := by decide +kernel
theorem dX11_shelves_61 : decode cX11_shelves 61 = .ok (.if_icmp .ne 8, 3) := by decide +kernel
theorem dX11_shelves_64 : decode cX11_shelves 64 = .ok (.iload 4, 2) := by decide +kernel
theorem dX11_shelves_66 : decode cX11_shelves 66 = .ok (.goto 18, 3) := by decide +kernel
theorem dX11_shelves_69 : decode cX11_shelves 69 = .ok (.aload_n 0, 1) := by decide +kernel
theorem dX11_shelves_70 : decode cX11_shelves 70 = .ok (.getfield 33, 3) := by decide +kernel
theorem dX11_shelves_73 : decode cX11_shelves 73 = .ok (.iload_n 3, 1) := by decide +kernel
theorem dX11_shelves_74 : decode cX11_shelves 74 = .ok (.aload_n 0, 1) := by decide +kernel
theorem dX11_shelves_75 : decode cX11_shelves 75 = .ok (.getfield 10, 3) := by decide +kernel
theorem dX11_shelves_78 : decode cX11_shelves 78 = .ok (.invokevirtual 44, 3) := by decide +kernel
theorem dX11_shelves_81 : decode cX11_shelves 81 = .ok (.invokevirtual 177, 3) := by decide +kernel
theorem dX11_shelves_84 : decode cX11_shelves 84 = .ok (.ireturn, 1) := by decide +kernel
theorem dX11_note_0 : decode cX11_note 0 = .ok (.aload_n 0, 1) := by decide +kernel
theorem dX11_note_1 : decode cX11_note 1 = .ok (.getfield 10, 3) := by decide +kernel
theorem dX11_note_4 : decode cX11_note 4 = .ok (.iload_n 1, 1) := by decide +kernel
theorem dX11_note_5 : decode cX11_note 5 = .ok (.invokevirtual 100, 3) := by decide +kernel
theorem dX11_note_8 : decode cX11_note 8 = .ok (.ifCond .eq 35, 3) := by decide +kernel
theorem dX11_note_11 : decode cX11_note 11 = .ok (.iload_n 2, 1) := by decide +kernel
theorem dX11_note_12 : decode cX11_note 12 = .ok (.iconst 0, 1) := by decide +kernel
theorem dX11_note_13 : decode cX11_note 13 = .ok (.bipush 99, 2) := by decide +kernel
theorem dX11_note_15 : decode cX11_note 15 = .ok (.invokestatic 51, 3) := by decide +kernel
theorem dX11_note_18 : decode cX11_note 18 = .ok (.ifCond .eq 25, 3) := by decide +kernel
theorem dX11_note_21 : decode cX11_note 21 = .ok (.iload_n 3, 1) := by decide +kernel
theorem dX11_note_22 : decode cX11_note 22 = .ok (.iconst 0, 1) := by decide +kernel
theorem dX11_note_23 : decode cX11_note 23 = .ok (.sipush 2000, 3) := by decide +kernel
theorem dX11_note_26 : decode cX11_note 26 = .ok (.invokestatic 51, 3) := by decide +kernel
theorem dX11_note_29 : decode cX11_note 29 = .ok (.ifCond .eq 14, 3) := by decide +kernel
theorem dX11_note_32 : decode cX11_note 32 = .ok (.iload 4, 2) := by decide +kernel
theorem dX11_note_34 : decode cX11_note 34 = .ok (.iconst 0, 1) := by decide +kernel
theorem dX11_note_35 : decode cX11_note 35 = .ok (.bipush 99, 2) := by decide +kernel
theorem dX11_note_37 : decode cX11_note 37 = .ok (.invokestatic 51, 3) := by decide +kernel
theorem dX11_note_40 : decode cX11_note 40 = .ok (.ifCond .ne 8, 3) := by decide +kernel
theorem dX11_note_43 : decode cX11_note 43 = .ok (.aload_n 0, 1) := by decide +kernel
theorem dX11_note_44 : decode cX11_note 44 = .ok (.invokevirtual 55, 3) := by decide +kernel
theorem dX11_note_47 : decode cX11_note 47 = .ok (.ireturn, 1) := by decide +kernel
theorem dX11_note_48 : decode cX11_note 48 = .ok (.aload_n 0, 1) := by decide +kernel
theorem dX11_note_49 : decode cX11_note 49 = .ok (.getfield 10, 3) := by decide +kernel
theorem dX11_note_52 : decode cX11_note 52 = .ok (.invokevirtual 180, 3) := by decide +kernel
theorem dX11_note_55 : decode cX11_note 55 = .ok (.invokevirtual 184, 3) := by decide +kernel
theorem dX11_note_58 : decode cX11_note 58 = .ok (.bipush 6, 2) := by decide +kernel
theorem dX11_note_60 : decode cX11_note 60 = .ok (.if_icmp .lt 8, 3) := by decide +kernel
theorem dX11_note_63 : decode cX11_note 63 = .ok (.aload_n 0, 1) := by decide +kernel
theorem dX11_note_64 : decode cX11_note 64 = .ok (.invokevirtual 58, 3) := by decide +kernel
theorem dX11_note_67 : decode cX11_note 67 = .ok (.ireturn, 1) := by decide +kernel
theorem dX11_note_68 : decode cX11_note 68 = .ok (.aload_n 0, 1) := by decide +kernel
theorem dX11_note_69 : decode cX11_note 69 = .ok (.getfield 10, 3) := by decide +kernel
theorem dX11_note_72 : decode cX11_note 72 = .ok (.invokevirtual 180, 3) := by decide +kernel
theorem dX11_note_75 : decode cX11_note 75 = .ok (.iload_n 1, 1) := by decide +kernel
theorem dX11_note_76 : decode cX11_note 76 = .ok (.iload_n 2, 1) := by decide +kernel
theorem dX11_note_77 : decode cX11_note 77 = .ok (.iload_n 3, 1) := by decide +kernel
theorem dX11_note_78 : decode cX11_note 78 = .ok (.iload 4, 2) := by decide +kernel
theorem dX11_note_80 : decode cX11_note 80 = .ok (.invokevirtual 189, 3) := by decide +kernel
theorem dX11_note_83 : decode cX11_note 83 = .ok (.ireturn, 1) := by decide +kernel
theorem dX11_forget_0 : decode cX11_forget 0 = .ok (.aload_n 0, 1) := by decide +kernel
theorem dX11_forget_1 : decode cX11_forget 1 = .ok (.getfield 10, 3) := by decide +kernel
theorem dX11_forget_4 : decode cX11_forget 4 = .ok (.invokevirtual 180, 3) := by decide +kernel
theorem dX11_forget_7 : decode cX11_forget 7 = .ok (.invokevirtual 184, 3) := by decide +kernel
theorem dX11_forget_10 : decode cX11_forget 10 = .ok (.istore_n 1, 1) := by decide +kernel
theorem dX11_forget_11 : decode cX11_forget 11 = .ok (.aload_n 0, 1) := by decide +kernel
theorem dX11_forget_12 : decode cX11_forget 12 = .ok (.getfield 10, 3) := by decide +kernel
theorem dX11_forget_15 : decode cX11_forget 15 = .ok (.invokevirtual 180, 3) := by decide +kernel
theorem dX11_forget_18 : decode cX11_forget 18 = .ok (.invokevirtual 192, 3) := by decide +kernel
theorem dX11_forget_21 : decode cX11_forget 21 = .ok (.iload_n 1, 1) := by decide +kernel
theorem dX11_forget_22 : decode cX11_forget 22 = .ok (.ireturn, 1) := by decide +kernel
theorem dX11_is_0 : decode cX11_is 0 = .ok (.aload_n 0, 1) := by decide +kernel
theorem dX11_is_1 : decode cX11_is 1 = .ok (.getfield 10, 3) := by decide +kernel
theorem dX11_is_4 : decode cX11_is 4 = .ok (.iload_n 1, 1) := by decide +kernel
theorem dX11_is_5 : decode cX11_is 5 = .ok (.invokevirtual 100, 3) := by decide +kernel
theorem dX11_is_8 : decode cX11_is 8 = .ok (.ifCond .eq 12, 3) := by decide +kernel
theorem dX11_is_11 : decode cX11_is 11 = .ok (.iload_n 2, 1) := by decide +kernel
theorem dX11_is_12 : decode cX11_is 12 = .ok (.iconst 0, 1) := by decide +kernel
theorem dX11_is_13 : decode cX11_is 13 = .ok (.iconst 1, 1) := by decide +kernel
theorem dX11_is_14 : decode cX11_is 14 = .ok (.invokestatic 51, 3) := by decide +kernel
theorem dX11_is_17 : decode cX11_is 17 = .ok (.ifCond .ne 8, 3) := by decide +kernel
theorem dX11_is_20 : decode cX11_is 20 = .ok (.aload_n 0, 1) := by decide +kernel
theorem dX11_is_21 : decode cX11_is 21 = .ok (.invokevirtual 55, 3) := by decide +kernel
theorem dX11_is_24 : decode cX11_is 24 = .ok (.ireturn, 1) := by decide +kernel
theorem dX11_is_25 : decode cX11_is 25 = .ok (.iload_n 2, 1) := by decide +kernel
theorem dX11_is_26 : decode cX11_is 26 = .ok (.ifCond .ne 21, 3) := by decide +kernel
theorem dX11_is_29 : decode cX11_is 29 = .ok (.aload_n 0, 1) := by decide +kernel
theorem dX11_is_30 : decode cX11_is 30 = .ok (.getfield 10, 3) := by decide +kernel
theorem dX11_is_33 : decode cX11_is 33 = .ok (.invokevirtual 180, 3) := by decide +kernel
theorem dX11_is_36 : decode cX11_is 36 = .ok (.aload_n 0, 1) := by decide +kernel
theorem dX11_is_37 : decode cX11_is 37 = .ok (.getfield 10, 3) := by decide +kernel
theorem dX11_is_40 : decode cX11_is 40 = .ok (.iload_n 1, 1) := by decide +kernel
theorem dX11_is_41 : decode cX11_is 41 = .ok (.invokevirtual 193, 3) := by decide +kernel
theorem dX11_is_44 : decode cX11_is 44 = .ok (.goto 18, 3) := by decide +kernel
theorem dX11_is_47 : decode cX11_is 47 = .ok (.aload_n 0, 1) := by decide +kernel
theorem dX11_is_48 : decode cX11_is 48 = .ok (.getfield 10, 3) := by decide +kernel
theorem dX11_is_51 : decode cX11_is 51 = .ok (.invokevirtual 180, 3) := by decide +kernel
theorem dX11_is_54 : decode cX11_is 54 = .ok (.aload_n 0, 1) := by decide +kernel
theorem dX11_is_55 : decode cX11_is 55 = .ok (.getfield 10, 3) := by decide +kernel
theorem dX11_is_58 : decode cX11_is 58 = .ok (.iload_n 1, 1) := by decide +kernel
theorem dX11_is_59 : decode cX11_is 59 = .ok (.invokevirtual 197, 3) := by decide +kernel
theorem dX11_is_62 : decode cX11_is 62 = .ok (.ireturn, 1) := by decide +kernel
theorem dX11_next_0 : decode cX11_next 0 = .ok (.aload_n 0, 1) := by decide +kernel
theorem dX11_next_1 : decode cX11_next 1 = .ok (.getfield 10, 3) := by decide +kernel
theorem dX11_next_4 : decode cX11_next 4 = .ok (.iload_n 1, 1) := by decide +kernel
theorem dX11_next_5 : decode cX11_next 5 = .ok (.invokevirtual 100, 3) := by decide +kernel
theorem dX11_next_8 : decode cX11_next 8 = .ok (.ifCond .ne 8, 3) := by decide +kernel
theorem dX11_next_11 : decode cX11_next 11 = .ok (.aload_n 0, 1) := by decide +kernel
theorem dX11_next_12 : decode cX11_next 12 = .ok (.invokevirtual 55, 3) := by decide +kernel
theorem dX11_next_15 : decode cX11_next 15 = .ok (.ireturn, 1) := by decide +kernel
theorem dX11_next_16 : decode cX11_next 16 = .ok (.aload_n 0, 1) := by decide +kernel
theorem dX11_next_17 : decode cX11_next 17 = .ok (.getfield 10, 3) := by decide +kernel
theorem dX11_next_20 : decode cX11_next 20 = .ok (.invokevirtual 180, 3) := by decide +kernel
theorem dX11_next_23 : decode cX11_next 23 = .ok (.aload_n 0, 1) := by decide +kernel
theorem dX11_next_24 : decode cX11_next 24 = .ok (.getfield 10, 3) := by decide +kernel
theorem dX11_next_27 : decode cX11_next 27 = .ok (.iload_n 1, 1) := by decide +kernel
theorem dX11_next_28 : decode cX11_next 28 = .ok (.invokevirtual 193, 3) := by decide +kernel
theorem dX11_next_31 : decode cX11_next 31 = .ok (.istore_n 2, 1) := by decide +kernel
theorem dX11_next_32 : decode cX11_next 32 = .ok (.aload_n 0, 1) := by decide +kernel
theorem dX11_next_33 : decode cX11_next 33 = .ok (.getfield 10, 3) := by decide +kernel
theorem dX11_next_36 : decode cX11_next 36 = .ok (.iload_n 2, 1) := by decide +kernel
theorem dX11_next_37 : decode cX11_next 37 = .ok (.aload_n 0, 1) := by decide +kernel
theorem dX11_next_38 : decode cX11_next 38 = .ok (.getfield 10, 3) := by decide +kernel
theorem dX11_next_41 : decode cX11_next 41 = .ok (.iload_n 1, 1) := by decide +kernel
theorem dX11_next_42 : decode cX11_next 42 = .ok (.invokevirtual 110, 3) := by decide +kernel
theorem dX11_next_45 : decode cX11_next 45 = .ok (.invokestatic 200, 3) := by decide +kernel
theorem dX11_next_48 : decode cX11_next 48 = .ok (.ireturn, 1) := by decide +kernel
theorem dX11_two_0 : decode cX11_two 0 = .ok (.aload_n 0, 1) := by decide +kernel
theorem dX11_two_1 : decode cX11_two 1 = .ok (.iload_n 1, 1) := by decide +kernel
theorem dX11_two_2 : decode cX11_two 2 = .ok (.iload_n 2, 1) := by decide +kernel
theorem dX11_two_3 : decode cX11_two 3 = .ok (.invokevirtual 68, 3) := by decide +kernel
theorem dX11_two_6 : decode cX11_two 6 = .ok (.ifCond .ne 8, 3) := by decide +kernel
theorem dX11_two_9 : decode cX11_two 9 = .ok (.aload_n 0, 1) := by decide +kernel
theorem dX11_two_10 : decode cX11_two 10 = .ok (.invokevirtual 55, 3) := by decide +kernel
theorem dX11_two_13 : decode cX11_two 13 = .ok (.ireturn, 1) := by decide +kernel
theorem dX11_two_14 : decode cX11_two 14 = .ok (.aload_n 0, 1) := by decide +kernel
theorem dX11_two_15 : decode cX11_two 15 = .ok (.getfield 10, 3) := by decide +kernel
theorem dX11_two_18 : decode cX11_two 18 = .ok (.iload_n 1, 1) := by decide +kernel
theorem dX11_two_19 : decode cX11_two 19 = .ok (.invokevirtual 203, 3) := by decide +kernel
theorem dX11_two_22 : decode cX11_two 22 = .ok (.istore_n 3, 1) := by decide +kernel
theorem dX11_two_23 : decode cX11_two 23 = .ok (.aload_n 0, 1) := by decide +kernel
theorem dX11_two_24 : decode cX11_two 24 = .ok (.getfield 10, 3) := by decide +kernel
theorem dX11_two_27 : decode cX11_two 27 = .ok (.iload_n 2, 1) := by decide +kernel
theorem dX11_two_28 : decode cX11_two 28 = .ok (.invokevirtual 203, 3) := by decide +kernel
theorem dX11_two_31 : decode cX11_two 31 = .ok (.istore 4, 2) := by decide +kernel
theorem dX11_two_33 : decode cX11_two 33 = .ok (.iconst 0, 1) := by decide +kernel
theorem dX11_two_34 : decode cX11_two 34 = .ok (.istore 5, 2) := by decide +kernel
theorem dX11_two_36 : decode cX11_two 36 = .ok (.iconst 0, 1) := by decide +kernel
theorem dX11_two_37 : decode cX11_two 37 = .ok (.istore 6, 2) := by decide +kernel
theorem dX11_two_39 : decode cX11_two 39 = .ok (.iload 6, 2) := by decide +kernel
theorem dX11_two_41 : decode cX11_two 41 = .ok (.iconst 4, 1) := by decide +kernel
theorem dX11_two_42 : decode cX11_two 42 = .ok (.if_icmp .ge 69, 3) := by decide +kernel
theorem dX11_two_45 : decode cX11_two 45 = .ok (.iload 6, 2) := by decide +kernel
theorem dX11_two_47 : decode cX11_two 47 = .ok (.iconst 1, 1) := by decide +kernel
theorem dX11_two_48 : decode cX11_two 48 = .ok (.iand, 1) := by decide +kernel
theorem dX11_two_49 : decode cX11_two 49 = .ok (.ifCond .eq 7, 3) := by decide +kernel
theorem dX11_two_52 : decode cX11_two 52 = .ok (.iconst 1, 1) := by decide +kernel
theorem dX11_two_53 : decode cX11_two 53 = .ok (.goto 4, 3) := by decide +kernel
theorem dX11_two_56 : decode cX11_two 56 = .ok (.iconst 0, 1) := by decide +kernel
theorem dX11_two_57 : decode cX11_two 57 = .ok (.istore 7, 2) := by decide +kernel
theorem dX11_two_59 : decode cX11_two 59 = .ok (.iload 6, 2) := by decide +kernel
theorem dX11_two_61 : decode cX11_two 61 = .ok (.iconst 2, 1) := by decide +kernel
theorem dX11_two_62 : decode cX11_two 62 = .ok (.iand, 1) := by decide +kernel
theorem dX11_two_63 : decode cX11_two 63 = .ok (.ifCond .eq 7, 3) := by decide +kernel
theorem dX11_two_66 : decode cX11_two 66 = .ok (.iconst 1, 1) := by decide +kernel
theorem dX11_two_67 : decode cX11_two 67 = .ok (.goto 4, 3) := by decide +kernel
theorem dX11_two_70 : decode cX11_two 70 = .ok (.iconst 0, 1) := by decide +kernel
theorem dX11_two_71 : decode cX11_two 71 = .ok (.istore 8, 2) := by decide +kernel
theorem dX11_two_73 : decode cX11_two 73 = .ok (.iload_n 3, 1) := by decide +kernel
theorem dX11_two_74 : decode cX11_two 74 = .ok (.iload 7, 2) := by decide +kernel
theorem dX11_two_76 : decode cX11_two 76 = .ok (.iload 8, 2) := by decide +kernel
theorem dX11_two_78 : decode cX11_two 78 = .ok (.invokestatic 206, 3) := by decide +kernel
theorem dX11_two_81 : decode cX11_two 81 = .ok (.ifCond .eq 24, 3) := by decide +kernel
theorem dX11_two_84 : decode cX11_two 84 = .ok (.iload 4, 2) := by decide +kernel
theorem dX11_two_86 : decode cX11_two 86 = .ok (.iload 8, 2) := by decide +kernel
theorem dX11_two_88 : decode cX11_two 88 = .ok (.iload 7, 2) := by decide +kernel
theorem dX11_two_90 : decode cX11_two 90 = .ok (.invokestatic 206, 3) := by decide +kernel
theorem dX11_two_93 : decode cX11_two 93 = .ok (.ifCond .eq 12, 3) := by decide +kernel
theorem dX11_two_96 : decode cX11_two 96 = .ok (.iload 5, 2) := by decide +kernel
theorem dX11_two_98 : decode cX11_two 98 = .ok (.iconst 1, 1) := by decide +kernel
theorem dX11_two_99 : decode cX11_two 99 = .ok (.iload 6, 2) := by decide +kernel
theorem dX11_two_101 : decode cX11_two 101 = .ok (.ishl, 1) := by decide +kernel
theorem dX11_two_102 : decode cX11_two 102 = .ok (.ior, 1) := by decide +kernel
theorem dX11_two_103 : decode cX11_two 103 = .ok (.istore 5, 2) := by decide +kernel
theorem dX11_two_105 : decode cX11_two 105 = .ok (.iinc 6 1, 3) := by decide +kernel
theorem dX11_two_108 : decode cX11_two 108 = .ok (.goto (-69), 3) := by decide +kernel
theorem dX11_two_111 : decode cX11_two 111 = .ok (.iload 5, 2) := by decide +kernel
theorem dX11_two_113 : decode cX11_two 113 = .ok (.ireturn, 1) := by decide +kernel
theorem dX11_winds_0 : decode cX11_winds 0 = .ok (.iload_n 1, 1) := by decide +kernel
theorem dX11_winds_1 : decode cX11_winds 1 = .ok (.iconst 0, 1) := by decide +kernel
theorem dX11_winds_2 : decode cX11_winds 2 = .ok (.sipush 999, 3) := by decide +kernel
theorem dX11_winds_5 : decode cX11_winds 5 = .ok (.invokestatic 51, 3) := by decide +kernel
theorem dX11_winds_8 : decode cX11_winds 8 = .ok (.ifCond .eq 13, 3) := by decide +kernel
theorem dX11_winds_11 : decode cX11_winds 11 = .ok (.iload_n 2, 1) := by decide +kernel
theorem dX11_winds_12 : decode cX11_winds 12 = .ok (.iconst 0, 1) := by decide +kernel
theorem dX11_winds_13 : decode cX11_winds 13 = .ok (.bipush 10, 2) := by decide +kernel
theorem dX11_winds_15 : decode cX11_winds 15 = .ok (.invokestatic 51, 3) := by decide +kernel
theorem dX11_winds_18 : decode cX11_winds 18 = .ok (.ifCond .ne 8, 3) := by decide +kernel
theorem dX11_winds_21 : decode cX11_winds 21 = .ok (.aload_n 0, 1) := by decide +kernel
theorem dX11_winds_22 : decode cX11_winds 22 = .ok (.invokevirtual 55, 3) := by decide +kernel
theorem dX11_winds_25 : decode cX11_winds 25 = .ok (.ireturn, 1) := by decide +kernel
theorem dX11_winds_26 : decode cX11_winds 26 = .ok (.iconst 0, 1) := by decide +kernel
theorem dX11_winds_27 : decode cX11_winds 27 = .ok (.istore_n 3, 1) := by decide +kernel
theorem dX11_winds_28 : decode cX11_winds 28 = .ok (.iconst 0, 1) := by decide +kernel
theorem dX11_winds_29 : decode cX11_winds 29 = .ok (.istore 4, 2) := by decide +kernel
theorem dX11_winds_31 : decode cX11_winds 31 = .ok (.iload 4, 2) := by decide +kernel
theorem dX11_winds_33 : decode cX11_winds 33 = .ok (.aload_n 0, 1) := by decide +kernel
theorem dX11_winds_34 : decode cX11_winds 34 = .ok (.getfield 10, 3) := by decide +kernel
theorem dX11_winds_37 : decode cX11_winds 37 = .ok (.invokevirtual 44, 3) := by decide +kernel
theorem dX11_winds_40 : decode cX11_winds 40 = .ok (.if_icmp .ge 48, 3) := by decide +kernel
theorem dX11_winds_43 : decode cX11_winds 43 = .ok (.aload_n 0, 1) := by decide +kernel
theorem dX11_winds_44 : decode cX11_winds 44 = .ok (.getfield 10, 3) := by decide +kernel
theorem dX11_winds_47 : decode cX11_winds 47 = .ok (.iload 4, 2) := by decide +kernel
theorem dX11_winds_49 : decode cX11_winds 49 = .ok (.invokevirtual 144, 3) := by decide +kernel
theorem dX11_winds_52 : decode cX11_winds 52 = .ok (.iload_n 1, 1) := by decide +kernel
theorem dX11_winds_53 : decode cX11_winds 53 = .ok (.if_icmp .ge 10, 3) := by decide +kernel
theorem dX11_winds_56 : decode cX11_winds 56 = .ok (.bipush 10, 2) := by decide +kernel
theorem dX11_winds_58 : decode cX11_winds 58 = .ok (.iload_n 2, 1) := by decide +kernel
theorem dX11_winds_59 : decode cX11_winds 59 = .ok (.isub, 1) := by decide +kernel
theorem dX11_winds_60 : decode cX11_winds 60 = .ok (.goto 5, 3) := by decide +kernel
theorem dX11_winds_63 : decode cX11_winds 63 = .ok (.bipush 10, 2) := by decide +kernel
theorem dX11_winds_65 : decode cX11_winds 65 = .ok (.istore 5, 2) := by decide +kernel
theorem dX11_winds_67 : decode cX11_winds 67 = .ok (.iload_n 3, 1) := by decide +kernel
theorem dX11_winds_68 : decode cX11_winds 68 = .ok (.iload 5, 2) := by decide +kernel
theorem dX11_winds_70 : decode cX11_winds 70 = .ok (.aload_n 0, 1) := by decide +kernel
theorem dX11_winds_71 : decode cX11_winds 71 = .ok (.getfield 10, 3) := by decide +kernel
theorem dX11_winds_74 : decode cX11_winds 74 = .ok (.iload 4, 2) := by decide +kernel
theorem dX11_winds_76 : decode cX11_winds 76 = .ok (.invokevirtual 113, 3) := by decide +kernel
theorem dX11_winds_79 : decode cX11_winds 79 = .ok (.imul, 1) := by decide +kernel
theorem dX11_winds_80 : decode cX11_winds 80 = .ok (.iadd, 1) := by decide +kernel
theorem dX11_winds_81 : decode cX11_winds 81 = .ok (.istore_n 3, 1) := by decide +kernel
theorem dX11_winds_82 : decode cX11_winds 82 = .ok (.iinc 4 1, 3) := by decide +kernel
theorem dX11_winds_85 : decode cX11_winds 85 = .ok (.goto (-54), 3) := by decide +kernel
theorem dX11_winds_88 : decode cX11_winds 88 = .ok (.aload_n 0, 1) := by decide +kernel
theorem dX11_winds_89 : decode cX11_winds 89 = .ok (.iload_n 3, 1) := by decide +kernel
theorem dX11_winds_90 : decode cX11_winds 90 = .ok (.i2l, 1) := by decide +kernel
theorem dX11_winds_91 : decode cX11_winds 91 = .ok (.ldc2_w 210, 3) := by decide +kernel
theorem dX11_winds_94 : decode cX11_winds 94 = .ok (.invokevirtual 212, 3) := by decide +kernel
theorem dX11_winds_97 : decode cX11_winds 97 = .ok (.iconst 1, 1) := by decide +kernel
theorem dX11_winds_98 : decode cX11_winds 98 = .ok (.ireturn, 1) := by decide +kernel
theorem dX11_years_0 : decode cX11_years 0 = .ok (.iload_n 1, 1) := by decide +kernel
theorem dX11_years_1 : decode cX11_years 1 = .ok (.iconst 0, 1) := by decide +kernel
theorem dX11_years_2 : decode cX11_years 2 = .ok (.ldc 216, 2) := by decide +kernel
theorem dX11_years_4 : decode cX11_years 4 = .ok (.invokestatic 51, 3) := by decide +kernel
theorem dX11_years_7 : decode cX11_years 7 = .ok (.ifCond .eq 13, 3) := by decide +kernel
theorem dX11_years_10 : decode cX11_years 10 = .ok (.iload_n 2, 1) := by decide +kernel
theorem dX11_years_11 : decode cX11_years 11 = .ok (.iconst 0, 1) := by decide +kernel
theorem dX11_years_12 : decode cX11_years 12 = .ok (.bipush 60, 2) := by decide +kernel
theorem dX11_years_14 : decode cX11_years 14 = .ok (.invokestatic 51, 3) := by decide +kernel
theorem dX11_years_17 : decode cX11_years 17 = .ok (.ifCond .ne 8, 3) := by decide +kernel
theorem dX11_years_20 : decode cX11_years 20 = .ok (.aload_n 0, 1) := by decide +kernel
theorem dX11_years_21 : decode cX11_years 21 = .ok (.invokevirtual 55, 3) := by decide +kernel
theorem dX11_years_24 : decode cX11_years 24 = .ok (.ireturn, 1) := by decide +kernel
theorem dX11_years_25 : decode cX11_years 25 = .ok (.aload_n 0, 1) := by decide +kernel
theorem dX11_years_26 : decode cX11_years 26 = .ok (.getfield 16, 3) := by decide +kernel
theorem dX11_years_29 : decode cX11_years 29 = .ok (.aload_n 0, 1) := by decide +kernel
theorem dX11_years_30 : decode cX11_years 30 = .ok (.getfield 10, 3) := by decide +kernel
theorem dX11_years_33 : decode cX11_years 33 = .ok (.invokevirtual 96, 3) := by decide +kernel
theorem dX11_years_36 : decode cX11_years 36 = .ok (.iload_n 1, 1) := by decide +kernel
theorem dX11_years_37 : decode cX11_years 37 = .ok (.i2l, 1) := by decide +kernel
theorem dX11_years_38 : decode cX11_years 38 = .ok (.lstore_n 3, 1) := by decide +kernel
theorem dX11_years_39 : decode cX11_years 39 = .ok (.iconst 0, 1) := by decide +kernel
theorem dX11_years_40 : decode cX11_years 40 = .ok (.istore 5, 2) := by decide +kernel
theorem dX11_years_42 : decode cX11_years 42 = .ok (.iload 5, 2) := by decide +kernel
theorem dX11_years_44 : decode cX11_years 44 = .ok (.iload_n 2, 1) := by decide +kernel
theorem dX11_years_45 : decode cX11_years 45 = .ok (.if_icmp .ge 70, 3) := by decide +kernel
theorem dX11_years_48 : decode cX11_years 48 = .ok (.lload_n 3, 1) := by decide +kernel
theorem dX11_years_49 : decode cX11_years 49 = .ok (.ldc2_w 217, 3) := by decide +kernel
theorem dX11_years_52 : decode cX11_years 52 = .ok (.lmul, 1) := by decide +kernel
theorem dX11_years_53 : decode cX11_years 53 = .ok (.ldc2_w 219, 3) := by decide +kernel
theorem dX11_years_56 : decode cX11_years 56 = .ok (.ladd, 1) := by decide +kernel
theorem dX11_years_57 : decode cX11_years 57 = .ok (.ldc2_w 221, 3) := by decide +kernel
theorem dX11_years_60 : decode cX11_years 60 = .ok (.lrem, 1) := by decide +kernel
theorem dX11_years_61 : decode cX11_years 61 = .ok (.lstore_n 3, 1) := by decide +kernel
theorem dX11_years_62 : decode cX11_years 62 = .ok (.lload_n 3, 1) := by decide +kernel
theorem dX11_years_63 : decode cX11_years 63 = .ok (.ldc2_w 223, 3) := by decide +kernel
theorem dX11_years_66 : decode cX11_years 66 = .ok (.ldiv, 1) := by decide +kernel
theorem dX11_years_67 : decode cX11_years 67 = .ok (.ldc2_w 225, 3) := by decide +kernel
theorem dX11_years_70 : decode cX11_years 70 = .ok (.lrem, 1) := by decide +kernel
theorem dX11_years_71 : decode cX11_years 71 = .ok (.l2i, 1) := by decide +kernel
theorem dX11_years_72 : decode cX11_years 72 = .ok (.istore 6, 2) := by decide +kernel
theorem dX11_years_74 : decode cX11_years 74 = .ok (.lload_n 3, 1) := by decide +kernel
theorem dX11_years_75 : decode cX11_years 75 = .ok (.ldc2_w 227, 3) := by decide +kernel
theorem dX11_years_78 : decode cX11_years 78 = .ok (.ldiv, 1) := by decide +kernel
theorem dX11_years_79 : decode cX11_years 79 = .ok (.ldc2_w 229, 3) := by decide +kernel
theorem dX11_years_82 : decode cX11_years 82 = .ok (.lrem, 1) := by decide +kernel
theorem dX11_years_83 : decode cX11_years 83 = .ok (.l2i, 1) := by decide +kernel
theorem dX11_years_84 : decode cX11_years 84 = .ok (.istore 7, 2) := by decide +kernel
theorem dX11_years_86 : decode cX11_years 86 = .ok (.iload 7, 2) := by decide +kernel
theorem dX11_years_88 : decode cX11_years 88 = .ok (.ifCond .eq 14, 3) := by decide +kernel
theorem dX11_years_91 : decode cX11_years 91 = .ok (.aload_n 0, 1) := by decide +kernel
theorem dX11_years_92 : decode cX11_years 92 = .ok (.getfield 16, 3) := by decide +kernel
theorem dX11_years_95 : decode cX11_years 95 = .ok (.iload 6, 2) := by decide +kernel
theorem dX11_years_97 : decode cX11_years 97 = .ok (.iload 7, 2) := by decide +kernel
theorem dX11_years_99 : decode cX11_years 99 = .ok (.invokevirtual 107, 3) := by decide +kernel
theorem dX11_years_102 : decode cX11_years 102 = .ok (.aload_n 0, 1) := by decide +kernel
theorem dX11_years_103 : decode cX11_years 103 = .ok (.getfield 16, 3) := by decide +kernel
theorem dX11_years_106 : decode cX11_years 106 = .ok (.invokevirtual 123, 3) := by decide +kernel
theorem dX11_years_109 : decode cX11_years 109 = .ok (.iinc 5 1, 3) := by decide +kernel
theorem dX11_years_112 : decode cX11_years 112 = .ok (.goto (-70), 3) := by decide +kernel
theorem dX11_years_115 : decode cX11_years 115 = .ok (.aload_n 0, 1) := by decide +kernel
theorem dX11_years_116 : decode cX11_years 116 = .ok (.getfield 16, 3) := by decide +kernel
theorem dX11_years_119 : decode cX11_years 119 = .ok (.invokevirtual 151, 3) := by decide +kernel
theorem dX11_years_122 : decode cX11_years 122 = .ok (.ireturn, 1) := by decide +kernel
theorem dX11_part_0 : decode cX11_part 0 = .ok (.iload_n 1, 1) := by decide +kernel
theorem dX11_part_1 : decode cX11_part 1 = .ok (.lookupswitch 37 #[(0, 27), (1, 32)], 27) := by decide +kernel
theorem dX11_part_28 : decode cX11_part 28 = .ok (.aload_n 0, 1) := by decide +kernel
theorem dX11_part_29 : decode cX11_part 29 = .ok (.getfield 37, 3) := by decide +kernel
theorem dX11_part_32 : decode cX11_part 32 = .ok (.lreturn, 1) := by decide +kernel
theorem dX11_part_33 : decode cX11_part 33 = .ok (.aload_n 0, 1) := by decide +kernel
theorem dX11_part_34 : decode cX11_part 34 = .ok (.getfield 41, 3) := by decide +kernel
theorem dX11_part_37 : decode cX11_part 37 = .ok (.lreturn, 1) := by decide +kernel
theorem dX11_part_38 : decode cX11_part 38 = .ok (.aload_n 0, 1) := by decide +kernel
theorem dX11_part_39 : decode cX11_part 39 = .ok (.invokevirtual 55, 3) := by decide +kernel
theorem dX11_part_42 : decode cX11_part 42 = .ok (.i2l, 1) := by decide +kernel
theorem dX11_part_43 : decode cX11_part 43 = .ok (.lreturn, 1) := by decide +kernel
theorem dX11_image_0 : decode cX11_image 0 = .ok (.iload_n 1, 1) := by decide +kernel
theorem dX11_image_1 : decode cX11_image 1 = .ok (.iconst 0, 1) := by decide +kernel
theorem dX11_image_2 : decode cX11_image 2 = .ok (.iconst 1, 1) := by decide +kernel
theorem dX11_image_3 : decode cX11_image 3 = .ok (.invokestatic 51, 3) := by decide +kernel
theorem dX11_image_6 : decode cX11_image 6 = .ok (.ifCond .ne 8, 3) := by decide +kernel
theorem dX11_image_9 : decode cX11_image 9 = .ok (.aload_n 0, 1) := by decide +kernel
theorem dX11_image_10 : decode cX11_image 10 = .ok (.invokevirtual 55, 3) := by decide +kernel
theorem dX11_image_13 : decode cX11_image 13 = .ok (.ireturn, 1) := by decide +kernel
theorem dX11_image_14 : decode cX11_image 14 = .ok (.aload_n 0, 1) := by decide +kernel
theorem dX11_image_15 : decode cX11_image 15 = .ok (.getfield 19, 3) := by decide +kernel
theorem dX11_image_18 : decode cX11_image 18 = .ok (.iload_n 1, 1) := by decide +kernel
theorem dX11_image_19 : decode cX11_image 19 = .ok (.aaload, 1) := by decide +kernel
theorem dX11_image_20 : decode cX11_image 20 = .ok (.ifnonnull 16, 3) := by decide +kernel
theorem dX11_image_23 : decode cX11_image 23 = .ok (.aload_n 0, 1) := by decide +kernel
theorem dX11_image_24 : decode cX11_image 24 = .ok (.getfield 19, 3) := by decide +kernel
theorem dX11_image_27 : decode cX11_image 27 = .ok (.iload_n 1, 1) := by decide +kernel
theorem dX11_image_28 : decode cX11_image 28 = .ok (.new 7, 3) := by decide +kernel
theorem dX11_image_31 : decode cX11_image 31 = .ok (.dup, 1) := by decide +kernel
theorem dX11_image_32 : decode cX11_image 32 = .ok (.invokespecial 9, 3) := by decide +kernel
theorem dX11_image_35 : decode cX11_image 35 = .ok (.aastore, 1) := by decide +kernel
theorem dX11_image_36 : decode cX11_image 36 = .ok (.aload_n 0, 1) := by decide +kernel
theorem dX11_image_37 : decode cX11_image 37 = .ok (.getfield 19, 3) := by decide +kernel
theorem dX11_image_40 : decode cX11_image 40 = .ok (.iload_n 1, 1) := by decide +kernel
theorem dX11_image_41 : decode cX11_image 41 = .ok (.aaload, 1) := by decide +kernel
theorem dX11_image_42 : decode cX11_image 42 = .ok (.aload_n 0, 1) := by decide +kernel
theorem dX11_image_43 : decode cX11_image 43 = .ok (.getfield 10, 3) := by decide +kernel
theorem dX11_image_46 : decode cX11_image 46 = .ok (.invokevirtual 96, 3) := by decide +kernel
theorem dX11_image_49 : decode cX11_image 49 = .ok (.iconst 1, 1) := by decide +kernel
theorem dX11_image_50 : decode cX11_image 50 = .ok (.ireturn, 1) := by decide +kernel
theorem dX11_from_0 : decode cX11_from 0 = .ok (.iload_n 1, 1) := by decide +kernel
theorem dX11_from_1 : decode cX11_from 1 = .ok (.iconst 0, 1) := by decide +kernel
theorem dX11_from_2 : decode cX11_from 2 = .ok (.iconst 1, 1) := by decide +kernel
theorem dX11_from_3 : decode cX11_from 3 = .ok (.invokestatic 51, 3) := by decide +kernel
theorem dX11_from_6 : decode cX11_from 6 = .ok (.ifCond .ne 8, 3) := by decide +kernel
theorem dX11_from_9 : decode cX11_from 9 = .ok (.aload_n 0, 1) := by decide +kernel
theorem dX11_from_10 : decode cX11_from 10 = .ok (.invokevirtual 55, 3) := by decide +kernel
theorem dX11_from_13 : decode cX11_from 13 = .ok (.ireturn, 1) := by decide +kernel
theorem dX11_from_14 : decode cX11_from 14 = .ok (.aload_n 0, 1) := by decide +kernel
theorem dX11_from_15 : decode cX11_from 15 = .ok (.getfield 19, 3) := by decide +kernel
theorem dX11_from_18 : decode cX11_from 18 = .ok (.iload_n 1, 1) := by decide +kernel
theorem dX11_from_19 : decode cX11_from 19 = .ok (.aaload, 1) := by decide +kernel
theorem dX11_from_20 : decode cX11_from 20 = .ok (.ifnonnull 8, 3) := by decide +kernel
theorem dX11_from_23 : decode cX11_from 23 = .ok (.aload_n 0, 1) := by decide +kernel
theorem dX11_from_24 : decode cX11_from 24 = .ok (.invokevirtual 116, 3) := by decide +kernel
theorem dX11_from_27 : decode cX11_from 27 = .ok (.ireturn, 1) := by decide +kernel
theorem dX11_from_28 : decode cX11_from 28 = .ok (.aload_n 0, 1) := by decide +kernel
theorem dX11_from_29 : decode cX11_from 29 = .ok (.getfield 10, 3) := by decide +kernel
theorem dX11_from_32 : decode cX11_from 32 = .ok (.aload_n 0, 1) := by decide +kernel
theorem dX11_from_33 : decode cX11_from 33 = .ok (.getfield 19, 3) := by decide +kernel
theorem dX11_from_36 : decode cX11_from 36 = .ok (.iload_n 1, 1) := by decide +kernel
theorem dX11_from_37 : decode cX11_from 37 = .ok (.aaload, 1) := by decide +kernel
theorem dX11_from_38 : decode cX11_from 38 = .ok (.invokevirtual 96, 3) := by decide +kernel
theorem dX11_from_41 : decode cX11_from 41 = .ok (.iconst 1, 1) := by decide +kernel
theorem dX11_from_42 : decode cX11_from 42 = .ok (.ireturn, 1) := by decide +kernel
theorem dX11_status_0 : decode cX11_status 0 = .ok (.iload_n 1, 1) := by decide +kernel
theorem dX11_status_1 : decode cX11_status 1 = .ok (.tableswitch 42 0 2 #[27, 32, 37], 27) := by decide +kernel
theorem dX11_status_28 : decode cX11_status 28 = .ok (.aload_n 0, 1) := by decide +kernel
theorem dX11_status_29 : decode cX11_status 29 = .ok (.getfield 231, 3) := by decide +kernel
theorem dX11_status_32 : decode cX11_status 32 = .ok (.ireturn, 1) := by decide +kernel
theorem dX11_status_33 : decode cX11_status 33 = .ok (.aload_n 0, 1) := by decide +kernel
theorem dX11_status_34 : decode cX11_status 34 = .ok (.getfield 235, 3) := by decide +kernel
theorem dX11_status_37 : decode cX11_status 37 = .ok (.ireturn, 1) := by decide +kernel
theorem dX11_status_38 : decode cX11_status 38 = .ok (.aload_n 0, 1) := by decide +kernel
theorem dX11_status_39 : decode cX11_status 39 = .ok (.getfield 238, 3) := by decide +kernel
theorem dX11_status_42 : decode cX11_status 42 = .ok (.ireturn, 1) := by decide +kernel
theorem dX11_status_43 : decode cX11_status 43 = .ok (.aload_n 0, 1) := by decide +kernel
theorem dX11_status_44 : decode cX11_status 44 = .ok (.invokevirtual 55, 3) := by decide +kernel
theorem dX11_status_47 : decode cX11_status 47 = .ok (.pop, 1) := by decide +kernel
theorem dX11_status_48 : decode cX11_status 48 = .ok (.iconst (-1), 1) := by decide +kernel
theorem dX11_status_49 : decode cX11_status 49 = .ok (.ireturn, 1) := by decide +kernel
theorem dX11_count_0 : decode cX11_count 0 = .ok (.iload_n 1, 1) := by decide +kernel
theorem dX11_count_1 : decode cX11_count 1 = .ok (.iconst 0, 1) := by decide +kernel
theorem dX11_count_2 : decode cX11_count 2 = .ok (.bipush 6, 2) := by decide +kernel
theorem dX11_count_4 : decode cX11_count 4 = .ok (.invokestatic 51, 3) := by decide +kernel
theorem dX11_count_7 : decode cX11_count 7 = .ok (.ifCond .eq 11, 3) := by decide +kernel
theorem dX11_count_10 : decode cX11_count 10 = .ok (.aload_n 0, 1) := by decide +kernel
theorem dX11_count_11 : decode cX11_count 11 = .ok (.iload_n 1, 1) := by decide +kernel
theorem dX11_count_12 : decode cX11_count 12 = .ok (.invokevirtual 241, 3) := by decide +kernel
theorem dX11_count_15 : decode cX11_count 15 = .ok (.goto 7, 3) := by decide +kernel
theorem dX11_count_18 : decode cX11_count 18 = .ok (.aload_n 0, 1) := by decide +kernel
theorem dX11_count_19 : decode cX11_count 19 = .ok (.invokevirtual 55, 3) := by decide +kernel
theorem dX11_count_22 : decode cX11_count 22 = .ok (.ireturn, 1) := by decide +kernel
theorem dX11_digest_0 : decode cX11_digest 0 = .ok (.ldc2_w 244, 3) := by decide +kernel
theorem dX11_digest_3 : decode cX11_digest 3 = .ok (.lstore_n 1, 1) := by decide +kernel
theorem dX11_digest_4 : decode cX11_digest 4 = .ok (.iconst 0, 1) := by decide +kernel
theorem dX11_digest_5 : decode cX11_digest 5 = .ok (.istore_n 3, 1) := by decide +kernel
theorem dX11_digest_6 : decode cX11_digest 6 = .ok (.iload_n 3, 1) := by decide +kernel
theorem dX11_digest_7 : decode cX11_digest 7 = .ok (.bipush 7, 2) := by decide +kernel
theorem dX11_digest_9 : decode cX11_digest 9 = .ok (.if_icmp .ge 22, 3) := by decide +kernel
theorem dX11_digest_12 : decode cX11_digest 12 = .ok (.ldc2_w 246, 3) := by decide +kernel
theorem dX11_digest_15 : decode cX11_digest 15 = .ok (.lload_n 1, 1) := by decide +kernel
theorem dX11_digest_16 : decode cX11_digest 16 = .ok (.lmul, 1) := by decide +kernel
theorem dX11_digest_17 : decode cX11_digest 17 = .ok (.aload_n 0, 1) := by decide +kernel
theorem dX11_digest_18 : decode cX11_digest 18 = .ok (.iload_n 3, 1) := by decide +kernel
theorem dX11_digest_19 : decode cX11_digest 19 = .ok (.invokevirtual 241, 3) := by decide +kernel
theorem dX11_digest_22 : decode cX11_digest 22 = .ok (.i2l, 1) := by decide +kernel
theorem dX11_digest_23 : decode cX11_digest 23 = .ok (.ladd, 1) := by decide +kernel
theorem dX11_digest_24 : decode cX11_digest 24 = .ok (.lstore_n 1, 1) := by decide +kernel
theorem dX11_digest_25 : decode cX11_digest 25 = .ok (.iinc 3 1, 3) := by decide +kernel
theorem dX11_digest_28 : decode cX11_digest 28 = .ok (.goto (-22), 3) := by decide +kernel
theorem dX11_digest_31 : decode cX11_digest 31 = .ok (.aload_n 0, 1) := by decide +kernel
theorem dX11_digest_32 : decode cX11_digest 32 = .ok (.getfield 10, 3) := by decide +kernel
theorem dX11_digest_35 : decode cX11_digest 35 = .ok (.lload_n 1, 1) := by decide +kernel
theorem dX11_digest_36 : decode cX11_digest 36 = .ok (.invokevirtual 248, 3) := by decide +kernel
theorem dX11_digest_39 : decode cX11_digest 39 = .ok (.lstore_n 1, 1) := by decide +kernel
theorem dX11_digest_40 : decode cX11_digest 40 = .ok (.ldc2_w 246, 3) := by decide +kernel
theorem dX11_digest_43 : decode cX11_digest 43 = .ok (.lload_n 1, 1) := by decide +kernel
theorem dX11_digest_44 : decode cX11_digest 44 = .ok (.lmul, 1) := by decide +kernel
theorem dX11_digest_45 : decode cX11_digest 45 = .ok (.aload_n 0, 1) := by decide +kernel
theorem dX11_digest_46 : decode cX11_digest 46 = .ok (.getfield 37, 3) := by decide +kernel
theorem dX11_digest_49 : decode cX11_digest 49 = .ok (.ladd, 1) := by decide +kernel
theorem dX11_digest_50 : decode cX11_digest 50 = .ok (.lstore_n 1, 1) := by decide +kernel
theorem dX11_digest_51 : decode cX11_digest 51 = .ok (.ldc2_w 246, 3) := by decide +kernel
theorem dX11_digest_54 : decode cX11_digest 54 = .ok (.lload_n 1, 1) := by decide +kernel
theorem dX11_digest_55 : decode cX11_digest 55 = .ok (.lmul, 1) := by decide +kernel
theorem dX11_digest_56 : decode cX11_digest 56 = .ok (.aload_n 0, 1) := by decide +kernel
theorem dX11_digest_57 : decode cX11_digest 57 = .ok (.getfield 41, 3) := by decide +kernel
theorem dX11_digest_60 : decode cX11_digest 60 = .ok (.ladd, 1) := by decide +kernel
theorem dX11_digest_61 : decode cX11_digest 61 = .ok (.lreturn, 1) := by decide +kernel
theorem dX11_within_0 : decode cX11_within 0 = .ok (.iload_n 0, 1) := by decide +kernel
theorem dX11_within_1 : decode cX11_within 1 = .ok (.iload_n 1, 1) := by decide +kernel
theorem dX11_within_2 : decode cX11_within 2 = .ok (.if_icmp .lt 12, 3) := by decide +kernel
theorem dX11_within_5 : decode cX11_within 5 = .ok (.iload_n 0, 1) := by decide +kernel
theorem dX11_within_6 : decode cX11_within 6 = .ok (.iload_n 2, 1) := by decide +kernel
theorem dX11_within_7 : decode cX11_within 7 = .ok (.if_icmp .gt 7, 3) := by decide +kernel
theorem dX11_within_10 : decode cX11_within 10 = .ok (.iconst 1, 1) := by decide +kernel
theorem dX11_within_11 : decode cX11_within 11 = .ok (.goto 4, 3) := by decide +kernel
theorem dX11_within_14 : decode cX11_within 14 = .ok (.iconst 0, 1) := by decide +kernel
theorem dX11_within_15 : decode cX11_within 15 = .ok (.ireturn, 1) := by decide +kernel
theorem dX11_twoOfThem_0 : decode cX11_twoOfThem 0 = .ok (.aload_n 0, 1) := by decide +kernel
theorem dX11_twoOfThem_1 : decode cX11_twoOfThem 1 = .ok (.getfield 10, 3) := by decide +kernel
theorem dX11_twoOfThem_4 : decode cX11_twoOfThem 4 = .ok (.iload_n 1, 1) := by decide +kernel
theorem dX11_twoOfThem_5 : decode cX11_twoOfThem 5 = .ok (.invokevirtual 100, 3) := by decide +kernel
theorem dX11_twoOfThem_8 : decode cX11_twoOfThem 8 = .ok (.ifCond .eq 23, 3) := by decide +kernel
theorem dX11_twoOfThem_11 : decode cX11_twoOfThem 11 = .ok (.aload_n 0, 1) := by decide +kernel
theorem dX11_twoOfThem_12 : decode cX11_twoOfThem 12 = .ok (.getfield 10, 3) := by decide +kernel
theorem dX11_twoOfThem_15 : decode cX11_twoOfThem 15 = .ok (.iload_n 2, 1) := by decide +kernel
theorem dX11_twoOfThem_16 : decode cX11_twoOfThem 16 = .ok (.invokevirtual 100, 3) := by decide +kernel
theorem dX11_twoOfThem_19 : decode cX11_twoOfThem 19 = .ok (.ifCond .eq 12, 3) := by decide +kernel
theorem dX11_twoOfThem_22 : decode cX11_twoOfThem 22 = .ok (.iload_n 1, 1) := by decide +kernel
theorem dX11_twoOfThem_23 : decode cX11_twoOfThem 23 = .ok (.iload_n 2, 1) := by decide +kernel
theorem dX11_twoOfThem_24 : decode cX11_twoOfThem 24 = .ok (.if_icmp .eq 7, 3) := by decide +kernel
theorem dX11_twoOfThem_27 : decode cX11_twoOfThem 27 = .ok (.iconst 1, 1) := by decide +kernel
theorem dX11_twoOfThem_28 : decode cX11_twoOfThem 28 = .ok (.goto 4, 3) := by decide +kernel
theorem dX11_twoOfThem_31 : decode cX11_twoOfThem 31 = .ok (.iconst 0, 1) := by decide +kernel
theorem dX11_twoOfThem_32 : decode cX11_twoOfThem 32 = .ok (.ireturn, 1) := by decide +kernel
theorem dX11_refuseBad_0 : decode cX11_refuseBad 0 = .ok (.aload_n 0, 1) := by decide +kernel
theorem dX11_refuseBad_1 : decode cX11_refuseBad 1 = .ok (.dup, 1) := by decide +kernel
theorem dX11_refuseBad_2 : decode cX11_refuseBad 2 = .ok (.getfield 231, 3) := by decide +kernel
theorem dX11_refuseBad_5 : decode cX11_refuseBad 5 = .ok (.iconst 1, 1) := by decide +kernel
theorem dX11_refuseBad_6 : decode cX11_refuseBad 6 = .ok (.iadd, 1) := by decide +kernel
theorem dX11_refuseBad_7 : decode cX11_refuseBad 7 = .ok (.putfield 231, 3) := by decide +kernel
theorem dX11_refuseBad_10 : decode cX11_refuseBad 10 = .ok (.bipush (-2), 2) := by decide +kernel
theorem dX11_refuseBad_12 : decode cX11_refuseBad 12 = .ok (.ireturn, 1) := by decide +kernel
theorem dX11_refuseNo_0 : decode cX11_refuseNo 0 = .ok (.aload_n 0, 1) := by decide +kernel
theorem dX11_refuseNo_1 : decode cX11_refuseNo 1 = .ok (.dup, 1) := by decide +kernel
theorem dX11_refuseNo_2 : decode cX11_refuseNo 2 = .ok (.getfield 235, 3) := by decide +kernel
theorem dX11_refuseNo_5 : decode cX11_refuseNo 5 = .ok (.iconst 1, 1) := by decide +kernel
theorem dX11_refuseNo_6 : decode cX11_refuseNo 6 = .ok (.iadd, 1) := by decide +kernel
theorem dX11_refuseNo_7 : decode cX11_refuseNo 7 = .ok (.putfield 235, 3) := by decide +kernel
theorem dX11_refuseNo_10 : decode cX11_refuseNo 10 = .ok (.bipush (-3), 2) := by decide +kernel
theorem dX11_refuseNo_12 : decode cX11_refuseNo 12 = .ok (.ireturn, 1) := by decide +kernel
theorem dX11_refuseFull_0 : decode cX11_refuseFull 0 = .ok (.aload_n 0, 1) := by decide +kernel
theorem dX11_refuseFull_1 : decode cX11_refuseFull 1 = .ok (.dup, 1) := by decide +kernel
theorem dX11_refuseFull_2 : decode cX11_refuseFull 2 = .ok (.getfield 238, 3) := by decide +kernel
theorem dX11_refuseFull_5 : decode cX11_refuseFull 5 = .ok (.iconst 1, 1) := by decide +kernel
theorem dX11_refuseFull_6 : decode cX11_refuseFull 6 = .ok (.iadd, 1) := by decide +kernel
theorem dX11_refuseFull_7 : decode cX11_refuseFull 7 = .ok (.putfield 238, 3) := by decide +kernel
theorem dX11_refuseFull_10 : decode cX11_refuseFull 10 = .ok (.bipush (-4), 2) := by decide +kernel
theorem dX11_refuseFull_12 : decode cX11_refuseFull 12 = .ok (.ireturn, 1) := by decide +kernel
theorem dX11_counted_0 : decode cX11_counted 0 = .ok (.iload_n 1, 1) := by decide +kernel
theorem dX11_counted_1 : decode cX11_counted 1 = .ok (.tableswitch 90 0 5 #[39, 47, 55, 63, 71, 82], 39) := by decide +kernel
theorem dX11_counted_40 : decode cX11_counted 40 = .ok (.aload_n 0, 1) := by decide +kernel
theorem dX11_counted_41 : decode cX11_counted 41 = .ok (.getfield 10, 3) := by decide +kernel
theorem dX11_counted_44 : decode cX11_counted 44 = .ok (.invokevirtual 44, 3) := by decide +kernel
theorem dX11_counted_47 : decode cX11_counted 47 = .ok (.ireturn, 1) := by decide +kernel
theorem dX11_counted_48 : decode cX11_counted 48 = .ok (.aload_n 0, 1) := by decide +kernel
theorem dX11_counted_49 : decode cX11_counted 49 = .ok (.getfield 10, 3) := by decide +kernel
theorem dX11_counted_52 : decode cX11_counted 52 = .ok (.invokevirtual 126, 3) := by decide +kernel
theorem dX11_counted_55 : decode cX11_counted 55 = .ok (.ireturn, 1) := by decide +kernel
theorem dX11_counted_56 : decode cX11_counted 56 = .ok (.aload_n 0, 1) := by decide +kernel
theorem dX11_counted_57 : decode cX11_counted 57 = .ok (.getfield 10, 3) := by decide +kernel
theorem dX11_counted_60 : decode cX11_counted 60 = .ok (.invokevirtual 252, 3) := by decide +kernel
theorem dX11_counted_63 : decode cX11_counted 63 = .ok (.ireturn, 1) := by decide +kernel
theorem dX11_counted_64 : decode cX11_counted 64 = .ok (.aload_n 0, 1) := by decide +kernel
theorem dX11_counted_65 : decode cX11_counted 65 = .ok (.getfield 10, 3) := by decide +kernel
theorem dX11_counted_68 : decode cX11_counted 68 = .ok (.invokevirtual 255, 3) := by decide +kernel
theorem dX11_counted_71 : decode cX11_counted 71 = .ok (.ireturn, 1) := by decide +kernel
theorem dX11_counted_72 : decode cX11_counted 72 = .ok (.aload_n 0, 1) := by decide +kernel
theorem dX11_counted_73 : decode cX11_counted 73 = .ok (.getfield 10, 3) := by decide +kernel
theorem dX11_counted_76 : decode cX11_counted 76 = .ok (.invokevirtual 180, 3) := by decide +kernel
theorem dX11_counted_79 : decode cX11_counted 79 = .ok (.invokevirtual 184, 3) := by decide +kernel
theorem dX11_counted_82 : decode cX11_counted 82 = .ok (.ireturn, 1) := by decide +kernel
theorem dX11_counted_83 : decode cX11_counted 83 = .ok (.aload_n 0, 1) := by decide +kernel
theorem dX11_counted_84 : decode cX11_counted 84 = .ok (.getfield 10, 3) := by decide +kernel
theorem dX11_counted_87 : decode cX11_counted 87 = .ok (.invokevirtual 129, 3) := by decide +kernel
theorem dX11_counted_90 : decode cX11_counted 90 = .ok (.ireturn, 1) := by decide +kernel
theorem dX11_counted_91 : decode cX11_counted 91 = .ok (.aload_n 0, 1) := by decide +kernel
theorem dX11_counted_92 : decode cX11_counted 92 = .ok (.getfield 26, 3) := by decide +kernel
theorem dX11_counted_95 : decode cX11_counted 95 = .ok (.invokevirtual 80, 3) := by decide +kernel
theorem dX11_counted_98 : decode cX11_counted 98 = .ok (.ireturn, 1) := by decide +kernel
theorem dX11_isContent_0 : decode cX11_isContent 0 = .ok (.iload_n 2, 1) := by decide +kernel
theorem dX11_isContent_1 : decode cX11_isContent 1 = .ok (.ifCond .eq 7, 3) := by decide +kernel
theorem dX11_isContent_4 : decode cX11_isContent 4 = .ok (.iconst 1, 1) := by decide +kernel
theorem dX11_isContent_5 : decode cX11_isContent 5 = .ok (.goto 4, 3) := by decide +kernel
theorem dX11_isContent_8 : decode cX11_isContent 8 = .ok (.iconst 3, 1) := by decide +kernel
theorem dX11_isContent_9 : decode cX11_isContent 9 = .ok (.istore_n 3, 1) := by decide +kernel
theorem dX11_isContent_10 : decode cX11_isContent 10 = .ok (.iload_n 1, 1) := by decide +kernel
theorem dX11_isContent_11 : decode cX11_isContent 11 = .ok (.ifCond .eq 16, 3) := by decide +kernel
theorem dX11_isContent_14 : decode cX11_isContent 14 = .ok (.iload_n 3, 1) := by decide +kernel
theorem dX11_isContent_15 : decode cX11_isContent 15 = .ok (.iload_n 0, 1) := by decide +kernel
theorem dX11_isContent_16 : decode cX11_isContent 16 = .ok (.if_icmp .lt 7, 3) := by decide +kernel
theorem dX11_isContent_19 : decode cX11_isContent 19 = .ok (.iconst 1, 1) := by decide +kernel
theorem dX11_isContent_20 : decode cX11_isContent 20 = .ok (.goto 17, 3) := by decide +kernel
theorem dX11_isContent_23 : decode cX11_isContent 23 = .ok (.iconst 0, 1) := by decide +kernel
theorem dX11_isContent_24 : decode cX11_isContent 24 = .ok (.goto 13, 3) := by decide +kernel
theorem dX11_isContent_27 : decode cX11_isContent 27 = .ok (.iload_n 0, 1) := by decide +kernel
theorem dX11_isContent_28 : decode cX11_isContent 28 = .ok (.iload_n 3, 1) := by decide +kernel
theorem dX11_isContent_29 : decode cX11_isContent 29 = .ok (.if_icmp .lt 7, 3) := by decide +kernel
theorem dX11_isContent_32 : decode cX11_isContent 32 = .ok (.iconst 1, 1) := by decide +kernel
theorem dX11_isContent_33 : decode cX11_isContent 33 = .ok (.goto 4, 3) := by decide +kernel
theorem dX11_isContent_36 : decode cX11_isContent 36 = .ok (.iconst 0, 1) := by decide +kernel
theorem dX11_isContent_37 : decode cX11_isContent 37 = .ok (.ireturn, 1) := by decide +kernel
theorem dX11_keepFraction_0 : decode cX11_keepFraction 0 = .ok (.lload_n 1, 1) := by decide +kernel
theorem dX11_keepFraction_1 : decode cX11_keepFraction 1 = .ok (.lstore 5, 2) := by decide +kernel
theorem dX11_keepFraction_3 : decode cX11_keepFraction 3 = .ok (.lload_n 3, 1) := by decide +kernel
theorem dX11_keepFraction_4 : decode cX11_keepFraction 4 = .ok (.lstore 7, 2) := by decide +kernel
theorem dX11_keepFraction_6 : decode cX11_keepFraction 6 = .ok (.iconst 0, 1) := by decide +kernel
theorem dX11_keepFraction_7 : decode cX11_keepFraction 7 = .ok (.istore 9, 2) := by decide +kernel
theorem dX11_keepFraction_9 : decode cX11_keepFraction 9 = .ok (.iload 9, 2) := by decide +kernel
theorem dX11_keepFraction_11 : decode cX11_keepFraction 11 = .ok (.bipush 100, 2) := by decide +kernel
theorem dX11_keepFraction_13 : decode cX11_keepFraction 13 = .ok (.if_icmp .ge 31, 3) := by decide +kernel
theorem dX11_keepFraction_16 : decode cX11_keepFraction 16 = .ok (.lload 7, 2) := by decide +kernel
theorem dX11_keepFraction_18 : decode cX11_keepFraction 18 = .ok (.lconst 0, 1) := by decide +kernel
theorem dX11_keepFraction_19 : decode cX11_keepFraction 19 = .ok (.lcmp, 1) := by decide +kernel
theorem dX11_keepFraction_20 : decode cX11_keepFraction 20 = .ok (.ifCond .eq 24, 3) := by decide +kernel
theorem dX11_keepFraction_23 : decode cX11_keepFraction 23 = .ok (.lload 5, 2) := by decide +kernel
theorem dX11_keepFraction_25 : decode cX11_keepFraction 25 = .ok (.lload 7, 2) := by decide +kernel
theorem dX11_keepFraction_27 : decode cX11_keepFraction 27 = .ok (.lrem, 1) := by decide +kernel
theorem dX11_keepFraction_28 : decode cX11_keepFraction 28 = .ok (.lstore 10, 2) := by decide +kernel
theorem dX11_keepFraction_30 : decode cX11_keepFraction 30 = .ok (.lload 7, 2) := by decide +kernel
theorem dX11_keepFraction_32 : decode cX11_keepFraction 32 = .ok (.lstore 5, 2) := by decide +kernel
theorem dX11_keepFraction_34 : decode cX11_keepFraction 34 = .ok (.lload 10, 2) := by decide +kernel
theorem dX11_keepFraction_36 : decode cX11_keepFraction 36 = .ok (.lstore 7, 2) := by decide +kernel
theorem dX11_keepFraction_38 : decode cX11_keepFraction 38 = .ok (.iinc 9 1, 3) := by decide +kernel
theorem dX11_keepFraction_41 : decode cX11_keepFraction 41 = .ok (.goto (-32), 3) := by decide +kernel
theorem dX11_keepFraction_44 : decode cX11_keepFraction 44 = .ok (.lload 5, 2) := by decide +kernel
theorem dX11_keepFraction_46 : decode cX11_keepFraction 46 = .ok (.lconst 0, 1) := by decide +kernel
theorem dX11_keepFraction_47 : decode cX11_keepFraction 47 = .ok (.lcmp, 1) := by decide +kernel
theorem dX11_keepFraction_48 : decode cX11_keepFraction 48 = .ok (.ifCond .le 19, 3) := by decide +kernel
theorem dX11_keepFraction_51 : decode cX11_keepFraction 51 = .ok (.aload_n 0, 1) := by decide +kernel
theorem dX11_keepFraction_52 : decode cX11_keepFraction 52 = .ok (.lload_n 1, 1) := by decide +kernel
theorem dX11_keepFraction_53 : decode cX11_keepFraction 53 = .ok (.lload 5, 2) := by decide +kernel
theorem dX11_keepFraction_55 : decode cX11_keepFraction 55 = .ok (.ldiv, 1) := by decide +kernel
theorem dX11_keepFraction_56 : decode cX11_keepFraction 56 = .ok (.putfield 37, 3) := by decide +kernel
theorem dX11_keepFraction_59 : decode cX11_keepFraction 59 = .ok (.aload_n 0, 1) := by decide +kernel
theorem dX11_keepFraction_60 : decode cX11_keepFraction 60 = .ok (.lload_n 3, 1) := by decide +kernel
theorem dX11_keepFraction_61 : decode cX11_keepFraction 61 = .ok (.lload 5, 2) := by decide +kernel
theorem dX11_keepFraction_63 : decode cX11_keepFraction 63 = .ok (.ldiv, 1) := by decide +kernel
theorem dX11_keepFraction_64 : decode cX11_keepFraction 64 = .ok (.putfield 41, 3) := by decide +kernel
theorem dX11_keepFraction_67 : decode cX11_keepFraction 67 = .ok (.return_, 1) := by decide +kernel
theorem dJ6_bitCount_0f7a4_0 : decode cJ6_bitCount_0f7a4 0 = .ok (.iload_n 0, 1) := by decide +kernel
theorem dJ6_bitCount_0f7a4_1 : decode cJ6_bitCount_0f7a4 1 = .ok (.iload_n 0, 1) := by decide +kernel
theorem dJ6_bitCount_0f7a4_2 : decode cJ6_bitCount_0f7a4 2 = .ok (.iconst 1, 1) := by decide +kernel
theorem dJ6_bitCount_0f7a4_3 : decode cJ6_bitCount_0f7a4 3 = .ok (.iushr, 1) := by decide +kernel
theorem dJ6_bitCount_0f7a4_4 : decode cJ6_bitCount_0f7a4 4 = .ok (.ldc_w 265, 3) := by decide +kernel
theorem dJ6_bitCount_0f7a4_7 : decode cJ6_bitCount_0f7a4 7 = .ok (.iand, 1) := by decide +kernel
theorem dJ6_bitCount_0f7a4_8 : decode cJ6_bitCount_0f7a4 8 = .ok (.isub, 1) := by decide +kernel
theorem dJ6_bitCount_0f7a4_9 : decode cJ6_bitCount_0f7a4 9 = .ok (.istore_n 0, 1) := by decide +kernel
theorem dJ6_bitCount_0f7a4_10 : decode cJ6_bitCount_0f7a4 10 = .ok (.iload_n 0, 1) := by decide +kernel
theorem dJ6_bitCount_0f7a4_11 : decode cJ6_bitCount_0f7a4 11 = .ok (.ldc_w 266, 3) := by decide +kernel
theorem dJ6_bitCount_0f7a4_14 : decode cJ6_bitCount_0f7a4 14 = .ok (.iand, 1) := by decide +kernel
theorem dJ6_bitCount_0f7a4_15 : decode cJ6_bitCount_0f7a4 15 = .ok (.iload_n 0, 1) := by decide +kernel
theorem dJ6_bitCount_0f7a4_16 : decode cJ6_bitCount_0f7a4 16 = .ok (.iconst 2, 1) := by decide +kernel
theorem dJ6_bitCount_0f7a4_17 : decode cJ6_bitCount_0f7a4 17 = .ok (.iushr, 1) := by decide +kernel
theorem dJ6_bitCount_0f7a4_18 : decode cJ6_bitCount_0f7a4 18 = .ok (.ldc_w 266, 3) := by decide +kernel
theorem dJ6_bitCount_0f7a4_21 : decode cJ6_bitCount_0f7a4 21 = .ok (.iand, 1) := by decide +kernel
theorem dJ6_bitCount_0f7a4_22 : decode cJ6_bitCount_0f7a4 22 = .ok (.iadd, 1) := by decide +kernel
theorem dJ6_bitCount_0f7a4_23 : decode cJ6_bitCount_0f7a4 23 = .ok (.istore_n 0, 1) := by decide +kernel
theorem dJ6_bitCount_0f7a4_24 : decode cJ6_bitCount_0f7a4 24 = .ok (.iload_n 0, 1) := by decide +kernel
theorem dJ6_bitCount_0f7a4_25 : decode cJ6_bitCount_0f7a4 25 = .ok (.iload_n 0, 1) := by decide +kernel
theorem dJ6_bitCount_0f7a4_26 : decode cJ6_bitCount_0f7a4 26 = .ok (.iconst 4, 1) := by decide +kernel
theorem dJ6_bitCount_0f7a4_27 : decode cJ6_bitCount_0f7a4 27 = .ok (.iushr, 1) := by decide +kernel
theorem dJ6_bitCount_0f7a4_28 : decode cJ6_bitCount_0f7a4 28 = .ok (.iadd, 1) := by decide +kernel
theorem dJ6_bitCount_0f7a4_29 : decode cJ6_bitCount_0f7a4 29 = .ok (.ldc_w 267, 3) := by decide +kernel
theorem dJ6_bitCount_0f7a4_32 : decode cJ6_bitCount_0f7a4 32 = .ok (.iand, 1) := by decide +kernel
theorem dJ6_bitCount_0f7a4_33 : decode cJ6_bitCount_0f7a4 33 = .ok (.istore_n 0, 1) := by decide +kernel
theorem dJ6_bitCount_0f7a4_34 : decode cJ6_bitCount_0f7a4 34 = .ok (.iload_n 0, 1) := by decide +kernel
theorem dJ6_bitCount_0f7a4_35 : decode cJ6_bitCount_0f7a4 35 = .ok (.iload_n 0, 1) := by decide +kernel
theorem dJ6_bitCount_0f7a4_36 : decode cJ6_bitCount_0f7a4 36 = .ok (.bipush 8, 2) := by decide +kernel
theorem dJ6_bitCount_0f7a4_38 : decode cJ6_bitCount_0f7a4 38 = .ok (.iushr, 1) := by decide +kernel
theorem dJ6_bitCount_0f7a4_39 : decode cJ6_bitCount_0f7a4 39 = .ok (.iadd, 1) := by decide +kernel
theorem dJ6_bitCount_0f7a4_40 : decode cJ6_bitCount_0f7a4 40 = .ok (.istore_n 0, 1) := by decide +kernel
theorem dJ6_bitCount_0f7a4_41 : decode cJ6_bitCount_0f7a4 41 = .ok (.iload_n 0, 1) := by decide +kernel
theorem dJ6_bitCount_0f7a4_42 : decode cJ6_bitCount_0f7a4 42 = .ok (.iload_n 0, 1) := by decide +kernel
theorem dJ6_bitCount_0f7a4_43 : decode cJ6_bitCount_0f7a4 43 = .ok (.bipush 16, 2) := by decide +kernel
theorem dJ6_bitCount_0f7a4_45 : decode cJ6_bitCount_0f7a4 45 = .ok (.iushr, 1) := by decide +kernel
theorem dJ6_bitCount_0f7a4_46 : decode cJ6_bitCount_0f7a4 46 = .ok (.iadd, 1) := by decide +kernel
theorem dJ6_bitCount_0f7a4_47 : decode cJ6_bitCount_0f7a4 47 = .ok (.istore_n 0, 1) := by decide +kernel
theorem dJ6_bitCount_0f7a4_48 : decode cJ6_bitCount_0f7a4 48 = .ok (.iload_n 0, 1) := by decide +kernel
theorem dJ6_bitCount_0f7a4_49 : decode cJ6_bitCount_0f7a4 49 = .ok (.bipush 63, 2) := by decide +kernel
theorem dJ6_bitCount_0f7a4_51 : decode cJ6_bitCount_0f7a4 51 = .ok (.iand, 1) := by decide +kernel
theorem dJ6_bitCount_0f7a4_52 : decode cJ6_bitCount_0f7a4 52 = .ok (.ireturn, 1) := by decide +kernel
theorem dJ9_max_7cf53_0 : decode cJ9_max_7cf53 0 = .ok (.iload_n 0, 1) := by decide +kernel
theorem dJ9_max_7cf53_1 : decode cJ9_max_7cf53 1 = .ok (.iload_n 1, 1) := by decide +kernel
theorem dJ9_max_7cf53_2 : decode cJ9_max_7cf53 2 = .ok (.if_icmp .lt 7, 3) := by decide +kernel
theorem dJ9_max_7cf53_5 : decode cJ9_max_7cf53 5 = .ok (.iload_n 0, 1) := by decide +kernel
theorem dJ9_max_7cf53_6 : decode cJ9_max_7cf53 6 = .ok (.goto 4, 3) := by decide +kernel
theorem dJ9_max_7cf53_9 : decode cJ9_max_7cf53 9 = .ok (.iload_n 1, 1) := by decide +kernel
theorem dJ9_max_7cf53_10 : decode cJ9_max_7cf53 10 = .ok (.ireturn, 1) := by decide +kernel
theorem dJ9_min_7cf53_0 : decode cJ9_min_7cf53 0 = .ok (.iload_n 0, 1) := by decide +kernel
theorem dJ9_min_7cf53_1 : decode cJ9_min_7cf53 1 = .ok (.iload_n 1, 1) := by decide +kernel
theorem dJ9_min_7cf53_2 : decode cJ9_min_7cf53 2 = .ok (.if_icmp .gt 7, 3) := by decide +kernel
theorem dJ9_min_7cf53_5 : decode cJ9_min_7cf53 5 = .ok (.iload_n 0, 1) := by decide +kernel
theorem dJ9_min_7cf53_6 : decode cJ9_min_7cf53 6 = .ok (.goto 4, 3) := by decide +kernel
theorem dJ9_min_7cf53_9 : decode cJ9_min_7cf53 9 = .ok (.iload_n 1, 1) := by decide +kernel
theorem dJ9_min_7cf53_10 : decode cJ9_min_7cf53 10 = .ok (.ireturn, 1) := by decide +kernel
theorem dJ0_length_8abf5_0 : decode cJ0_length_8abf5 0 = .ok (.aload_n 0, 1) := by decide +kernel
theorem dJ0_length_8abf5_1 : decode cJ0_length_8abf5 1 = .ok (.getfield 9, 3) := by decide +kernel
theorem dJ0_length_8abf5_4 : decode cJ0_length_8abf5 4 = .ok (.arraylength, 1) := by decide +kernel
theorem dJ0_length_8abf5_5 : decode cJ0_length_8abf5 5 = .ok (.aload_n 0, 1) := by decide +kernel
theorem dJ0_length_8abf5_6 : decode cJ0_length_8abf5 6 = .ok (.invokevirtual 335, 3) := by decide +kernel
theorem dJ0_length_8abf5_9 : decode cJ0_length_8abf5 9 = .ok (.ishr, 1) := by decide +kernel
theorem dJ0_length_8abf5_10 : decode cJ0_length_8abf5 10 = .ok (.ireturn, 1) := by decide +kernel
theorem dJ0_charAt_5068e_0 : decode cJ0_charAt_5068e 0 = .ok (.aload_n 0, 1) := by decide +kernel
theorem dJ0_charAt_5068e_1 : decode cJ0_charAt_5068e 1 = .ok (.invokevirtual 492, 3) := by decide +kernel
theorem dJ0_charAt_5068e_4 : decode cJ0_charAt_5068e 4 = .ok (.ifCond .eq 12, 3) := by decide +kernel
theorem dJ0_charAt_5068e_7 : decode cJ0_charAt_5068e 7 = .ok (.aload_n 0, 1) := by decide +kernel
theorem dJ0_charAt_5068e_8 : decode cJ0_charAt_5068e 8 = .ok (.getfield 9, 3) := by decide +kernel
theorem dJ0_charAt_5068e_11 : decode cJ0_charAt_5068e 11 = .ok (.iload_n 1, 1) := by decide +kernel
theorem dJ0_charAt_5068e_12 : decode cJ0_charAt_5068e 12 = .ok (.invokestatic 495, 3) := by decide +kernel
theorem dJ0_charAt_5068e_15 : decode cJ0_charAt_5068e 15 = .ok (.ireturn, 1) := by decide +kernel
theorem dJ0_charAt_5068e_16 : decode cJ0_charAt_5068e 16 = .ok (.aload_n 0, 1) := by decide +kernel
theorem dJ0_charAt_5068e_17 : decode cJ0_charAt_5068e 17 = .ok (.getfield 9, 3) := by decide +kernel
theorem dJ0_charAt_5068e_20 : decode cJ0_charAt_5068e 20 = .ok (.iload_n 1, 1) := by decide +kernel
theorem dJ0_charAt_5068e_21 : decode cJ0_charAt_5068e 21 = .ok (.invokestatic 498, 3) := by decide +kernel
theorem dJ0_charAt_5068e_24 : decode cJ0_charAt_5068e 24 = .ok (.ireturn, 1) := by decide +kernel
theorem dJ0_coder_7d493_0 : decode cJ0_coder_7d493 0 = .ok (.getstatic 38, 3) := by decide +kernel
theorem dJ0_coder_7d493_3 : decode cJ0_coder_7d493 3 = .ok (.ifCond .eq 10, 3) := by decide +kernel
theorem dJ0_coder_7d493_6 : decode cJ0_coder_7d493 6 = .ok (.aload_n 0, 1) := by decide +kernel
theorem dJ0_coder_7d493_7 : decode cJ0_coder_7d493 7 = .ok (.getfield 15, 3) := by decide +kernel
theorem dJ0_coder_7d493_10 : decode cJ0_coder_7d493 10 = .ok (.goto 4, 3) := by decide +kernel
theorem dJ0_coder_7d493_13 : decode cJ0_coder_7d493 13 = .ok (.iconst 1, 1) := by decide +kernel
theorem dJ0_coder_7d493_14 : decode cJ0_coder_7d493 14 = .ok (.ireturn, 1) := by decide +kernel
theorem dJ0_isLatin1_aae02_0 : decode cJ0_isLatin1_aae02 0 = .ok (.getstatic 38, 3) := by decide +kernel
theorem dJ0_isLatin1_aae02_3 : decode cJ0_isLatin1_aae02 3 = .ok (.ifCond .eq 14, 3) := by decide +kernel
theorem dJ0_isLatin1_aae02_6 : decode cJ0_isLatin1_aae02 6 = .ok (.aload_n 0, 1) := by decide +kernel
theorem dJ0_isLatin1_aae02_7 : decode cJ0_isLatin1_aae02 7 = .ok (.getfield 15, 3) := by decide +kernel
theorem dJ0_isLatin1_aae02_10 : decode cJ0_isLatin1_aae02 10 = .ok (.ifCond .ne 7, 3) := by decide +kernel
theorem dJ0_isLatin1_aae02_13 : decode cJ0_isLatin1_aae02 13 = .ok (.iconst 1, 1) := by decide +kernel
theorem dJ0_isLatin1_aae02_14 : decode cJ0_isLatin1_aae02 14 = .ok (.goto 4, 3) := by decide +kernel
theorem dJ0_isLatin1_aae02_17 : decode cJ0_isLatin1_aae02 17 = .ok (.iconst 0, 1) := by decide +kernel
theorem dJ0_isLatin1_aae02_18 : decode cJ0_isLatin1_aae02 18 = .ok (.ireturn, 1) := by decide +kernel
theorem dJ0_checkIndex_df160_0 : decode cJ0_checkIndex_df160 0 = .ok (.iload_n 0, 1) := by decide +kernel
theorem dJ0_checkIndex_df160_1 : decode cJ0_checkIndex_df160 1 = .ok (.iload_n 1, 1) := by decide +kernel
theorem dJ0_checkIndex_df160_2 : decode cJ0_checkIndex_df160 2 = .ok (.getstatic 1053, 3) := by decide +kernel
theorem dJ0_checkIndex_df160_5 : decode cJ0_checkIndex_df160 5 = .ok (.invokestatic 1059, 3) := by decide +kernel
theorem dJ0_checkIndex_df160_8 : decode cJ0_checkIndex_df160 8 = .ok (.pop, 1) := by decide +kernel
theorem dJ0_checkIndex_df160_9 : decode cJ0_checkIndex_df160 9 = .ok (.return_, 1) := by decide +kernel
theorem dJ1_charAt_3b067_0 : decode cJ1_charAt_3b067 0 = .ok (.iload_n 1, 1) := by decide +kernel
theorem dJ1_charAt_3b067_1 : decode cJ1_charAt_3b067 1 = .ok (.aload_n 0, 1) := by decide +kernel
theorem dJ1_charAt_3b067_2 : decode cJ1_charAt_3b067 2 = .ok (.arraylength, 1) := by decide +kernel
theorem dJ1_charAt_3b067_3 : decode cJ1_charAt_3b067 3 = .ok (.invokestatic 9, 3) := by decide +kernel
theorem dJ1_charAt_3b067_6 : decode cJ1_charAt_3b067 6 = .ok (.aload_n 0, 1) := by decide +kernel
theorem dJ1_charAt_3b067_7 : decode cJ1_charAt_3b067 7 = .ok (.iload_n 1, 1) := by decide +kernel
theorem dJ1_charAt_3b067_8 : decode cJ1_charAt_3b067 8 = .ok (.baload, 1) := by decide +kernel
theorem dJ1_charAt_3b067_9 : decode cJ1_charAt_3b067 9 = .ok (.sipush 255, 3) := by decide +kernel
theorem dJ1_charAt_3b067_12 : decode cJ1_charAt_3b067 12 = .ok (.iand, 1) := by decide +kernel
theorem dJ1_charAt_3b067_13 : decode cJ1_charAt_3b067 13 = .ok (.i2c, 1) := by decide +kernel
theorem dJ1_charAt_3b067_14 : decode cJ1_charAt_3b067 14 = .ok (.ireturn, 1) := by decide +kernel
theorem dJ3_checkIndex_8e157_0 : decode cJ3_checkIndex_8e157 0 = .ok (.iload_n 0, 1) := by decide +kernel
theorem dJ3_checkIndex_8e157_1 : decode cJ3_checkIndex_8e157 1 = .ok (.ifCond .lt 8, 3) := by decide +kernel
theorem dJ3_checkIndex_8e157_4 : decode cJ3_checkIndex_8e157 4 = .ok (.iload_n 0, 1) := by decide +kernel
theorem dJ3_checkIndex_8e157_5 : decode cJ3_checkIndex_8e157 5 = .ok (.iload_n 1, 1) := by decide +kernel
theorem dJ3_checkIndex_8e157_6 : decode cJ3_checkIndex_8e157 6 = .ok (.if_icmp .lt 10, 3) := by decide +kernel
theorem dJ3_checkIndex_8e157_9 : decode cJ3_checkIndex_8e157 9 = .ok (.aload_n 2, 1) := by decide +kernel
theorem dJ3_checkIndex_8e157_10 : decode cJ3_checkIndex_8e157 10 = .ok (.iload_n 0, 1) := by decide +kernel
theorem dJ3_checkIndex_8e157_11 : decode cJ3_checkIndex_8e157 11 = .ok (.iload_n 1, 1) := by decide +kernel
theorem dJ3_checkIndex_8e157_12 : decode cJ3_checkIndex_8e157 12 = .ok (.invokestatic 95, 3) := by decide +kernel
theorem dJ3_checkIndex_8e157_15 : decode cJ3_checkIndex_8e157 15 = .ok (.athrow, 1) := by decide +kernel
theorem dJ3_checkIndex_8e157_16 : decode cJ3_checkIndex_8e157 16 = .ok (.iload_n 0, 1) := by decide +kernel
theorem dJ3_checkIndex_8e157_17 : decode cJ3_checkIndex_8e157 17 = .ok (.ireturn, 1) := by decide +kernel
