/-! THE DECODE ROWS: each instruction of each method. -/
theorem dX0_init_0 : decode cX0_init 0 = .ok (.aload_n 0, 1) := by decide +kernel
theorem dX0_init_1 : decode cX0_init 1 = .ok (.invokespecial 3, 3) := by decide +kernel
theorem dX0_init_4 : decode cX0_init 4 = .ok (.return_, 1) := by decide +kernel
theorem dX0_weight_0 : decode cX0_weight 0 = .ok (.bipush 60, 2) := by decide +kernel
theorem dX0_weight_2 : decode cX0_weight 2 = .ok (.aload_n 0, 1) := by decide +kernel
theorem dX0_weight_3 : decode cX0_weight 3 = .ok (.iload_n 1, 1) := by decide +kernel
theorem dX0_weight_4 : decode cX0_weight 4 = .ok (.iload_n 2, 1) := by decide +kernel
theorem dX0_weight_5 : decode cX0_weight 5 = .ok (.iload_n 3, 1) := by decide +kernel
theorem dX0_weight_6 : decode cX0_weight 6 = .ok (.invokespecial 9, 3) := by decide +kernel
theorem dX0_weight_9 : decode cX0_weight 9 = .ok (.invokestatic 13, 3) := by decide +kernel
theorem dX0_weight_12 : decode cX0_weight 12 = .ok (.ireturn, 1) := by decide +kernel
theorem dX1_init_0 : decode cX1_init 0 = .ok (.aload_n 0, 1) := by decide +kernel
theorem dX1_init_1 : decode cX1_init 1 = .ok (.invokespecial 3, 3) := by decide +kernel
theorem dX1_init_4 : decode cX1_init 4 = .ok (.return_, 1) := by decide +kernel
theorem dX1_weight_0 : decode cX1_weight 0 = .ok (.iload_n 1, 1) := by decide +kernel
theorem dX1_weight_1 : decode cX1_weight 1 = .ok (.bipush 12, 2) := by decide +kernel
theorem dX1_weight_3 : decode cX1_weight 3 = .ok (.imul, 1) := by decide +kernel
theorem dX1_weight_4 : decode cX1_weight 4 = .ok (.ireturn, 1) := by decide +kernel
theorem dX1_loss_0 : decode cX1_loss 0 = .ok (.aload_n 0, 1) := by decide +kernel
theorem dX1_loss_1 : decode cX1_loss 1 = .ok (.iload_n 1, 1) := by decide +kernel
theorem dX1_loss_2 : decode cX1_loss 2 = .ok (.invokespecial 9, 3) := by decide +kernel
theorem dX1_loss_5 : decode cX1_loss 5 = .ok (.iconst 1, 1) := by decide +kernel
theorem dX1_loss_6 : decode cX1_loss 6 = .ok (.iadd, 1) := by decide +kernel
theorem dX1_loss_7 : decode cX1_loss 7 = .ok (.ireturn, 1) := by decide +kernel
theorem dX2_init_0 : decode cX2_init 0 = .ok (.aload_n 0, 1) := by decide +kernel
theorem dX2_init_1 : decode cX2_init 1 = .ok (.invokespecial 1, 3) := by decide +kernel
theorem dX2_init_4 : decode cX2_init 4 = .ok (.return_, 1) := by decide +kernel
theorem dX2_weight_0 : decode cX2_weight 0 = .ok (.aload_n 0, 1) := by decide +kernel
theorem dX2_weight_1 : decode cX2_weight 1 = .ok (.iload_n 1, 1) := by decide +kernel
theorem dX2_weight_2 : decode cX2_weight 2 = .ok (.iload_n 2, 1) := by decide +kernel
theorem dX2_weight_3 : decode cX2_weight 3 = .ok (.iload_n 3, 1) := by decide +kernel
theorem dX2_weight_4 : decode cX2_weight 4 = .ok (.invokespecial 7, 3) := by decide +kernel
theorem dX2_weight_7 : decode cX2_weight 7 = .ok (.iconst 2, 1) := by decide +kernel
theorem dX2_weight_8 : decode cX2_weight 8 = .ok (.idiv, 1) := by decide +kernel
theorem dX2_weight_9 : decode cX2_weight 9 = .ok (.ireturn, 1) := by decide +kernel
theorem dX2_loss_0 : decode cX2_loss 0 = .ok (.aload_n 0, 1) := by decide +kernel
theorem dX2_loss_1 : decode cX2_loss 1 = .ok (.iload_n 1, 1) := by decide +kernel
theorem dX2_loss_2 : decode cX2_loss 2 = .ok (.invokespecial 11, 3) := by decide +kernel
theorem dX2_loss_5 : decode cX2_loss 5 = .ok (.iconst 1, 1) := by decide +kernel
theorem dX2_loss_6 : decode cX2_loss 6 = .ok (.iadd, 1) := by decide +kernel
theorem dX2_loss_7 : decode cX2_loss 7 = .ok (.iconst 2, 1) := by decide +kernel
theorem dX2_loss_8 : decode cX2_loss 8 = .ok (.idiv, 1) := by decide +kernel
theorem dX2_loss_9 : decode cX2_loss 9 = .ok (.ireturn, 1) := by decide +kernel
theorem dX3_init_0 : decode cX3_init 0 = .ok (.aload_n 0, 1) := by decide +kernel
theorem dX3_init_1 : decode cX3_init 1 = .ok (.invokespecial 1, 3) := by decide +kernel
theorem dX3_init_4 : decode cX3_init 4 = .ok (.return_, 1) := by decide +kernel
theorem dX3_weight_0 : decode cX3_weight 0 = .ok (.iload_n 3, 1) := by decide +kernel
theorem dX3_weight_1 : decode cX3_weight 1 = .ok (.iconst 3, 1) := by decide +kernel
theorem dX3_weight_2 : decode cX3_weight 2 = .ok (.irem, 1) := by decide +kernel
theorem dX3_weight_3 : decode cX3_weight 3 = .ok (.ifCond .ne 7, 3) := by decide +kernel
theorem dX3_weight_6 : decode cX3_weight 6 = .ok (.iconst 0, 1) := by decide +kernel
theorem dX3_weight_7 : decode cX3_weight 7 = .ok (.goto 10, 3) := by decide +kernel
theorem dX3_weight_10 : decode cX3_weight 10 = .ok (.aload_n 0, 1) := by decide +kernel
theorem dX3_weight_11 : decode cX3_weight 11 = .ok (.iload_n 1, 1) := by decide +kernel
theorem dX3_weight_12 : decode cX3_weight 12 = .ok (.iload_n 2, 1) := by decide +kernel
theorem dX3_weight_13 : decode cX3_weight 13 = .ok (.iload_n 3, 1) := by decide +kernel
theorem dX3_weight_14 : decode cX3_weight 14 = .ok (.invokespecial 7, 3) := by decide +kernel
theorem dX3_weight_17 : decode cX3_weight 17 = .ok (.ireturn, 1) := by decide +kernel
theorem dX4_init_0 : decode cX4_init 0 = .ok (.aload_n 0, 1) := by decide +kernel
theorem dX4_init_1 : decode cX4_init 1 = .ok (.invokespecial 3, 3) := by decide +kernel
theorem dX4_init_4 : decode cX4_init 4 = .ok (.aload_n 0, 1) := by decide +kernel
theorem dX4_init_5 : decode cX4_init 5 = .ok (.bipush 6, 2) := by decide +kernel
theorem dX4_init_7 : decode cX4_init 7 = .ok (.newarray .int, 2) := by decide +kernel
theorem dX4_init_9 : decode cX4_init 9 = .ok (.putfield 9, 3) := by decide +kernel
theorem dX4_init_12 : decode cX4_init 12 = .ok (.aload_n 0, 1) := by decide +kernel
theorem dX4_init_13 : decode cX4_init 13 = .ok (.bipush 6, 2) := by decide +kernel
theorem dX4_init_15 : decode cX4_init 15 = .ok (.newarray .int, 2) := by decide +kernel
theorem dX4_init_17 : decode cX4_init 17 = .ok (.putfield 15, 3) := by decide +kernel
theorem dX4_init_20 : decode cX4_init 20 = .ok (.aload_n 0, 1) := by decide +kernel
theorem dX4_init_21 : decode cX4_init 21 = .ok (.bipush 6, 2) := by decide +kernel
theorem dX4_init_23 : decode cX4_init 23 = .ok (.newarray .int, 2) := by decide +kernel
theorem dX4_init_25 : decode cX4_init 25 = .ok (.putfield 18, 3) := by decide +kernel
theorem dX4_init_28 : decode cX4_init 28 = .ok (.aload_n 0, 1) := by decide +kernel
theorem dX4_init_29 : decode cX4_init 29 = .ok (.bipush 6, 2) := by decide +kernel
theorem dX4_init_31 : decode cX4_init 31 = .ok (.newarray .int, 2) := by decide +kernel
theorem dX4_init_33 : decode cX4_init 33 = .ok (.putfield 21, 3) := by decide +kernel
theorem dX4_init_36 : decode cX4_init 36 = .ok (.return_, 1) := by decide +kernel
theorem dX4_size_0 : decode cX4_size 0 = .ok (.aload_n 0, 1) := by decide +kernel
theorem dX4_size_1 : decode cX4_size 1 = .ok (.getfield 24, 3) := by decide +kernel
theorem dX4_size_4 : decode cX4_size 4 = .ok (.ireturn, 1) := by decide +kernel
theorem dX4_drop_0 : decode cX4_drop 0 = .ok (.aload_n 0, 1) := by decide +kernel
theorem dX4_drop_1 : decode cX4_drop 1 = .ok (.iconst 0, 1) := by decide +kernel
theorem dX4_drop_2 : decode cX4_drop 2 = .ok (.putfield 24, 3) := by decide +kernel
theorem dX4_drop_5 : decode cX4_drop 5 = .ok (.return_, 1) := by decide +kernel
theorem dX4_add_0 : decode cX4_add 0 = .ok (.aload_n 0, 1) := by decide +kernel
theorem dX4_add_1 : decode cX4_add 1 = .ok (.getfield 24, 3) := by decide +kernel
theorem dX4_add_4 : decode cX4_add 4 = .ok (.ifCond .lt 12, 3) := by decide +kernel
theorem dX4_add_7 : decode cX4_add 7 = .ok (.aload_n 0, 1) := by decide +kernel
theorem dX4_add_8 : decode cX4_add 8 = .ok (.getfield 24, 3) := by decide +kernel
theorem dX4_add_11 : decode cX4_add 11 = .ok (.bipush 6, 2) := by decide +kernel
theorem dX4_add_13 : decode cX4_add 13 = .ok (.if_icmp .lt 6, 3) := by decide +kernel
theorem dX4_add_16 : decode cX4_add 16 = .ok (.bipush (-4), 2) := by decide +kernel
theorem dX4_add_18 : decode cX4_add 18 = .ok (.ireturn, 1) := by decide +kernel
theorem dX4_add_19 : decode cX4_add 19 = .ok (.aload_n 0, 1) := by decide +kernel
theorem dX4_add_20 : decode cX4_add 20 = .ok (.getfield 9, 3) := by decide +kernel
theorem dX4_add_23 : decode cX4_add 23 = .ok (.aload_n 0, 1) := by decide +kernel
theorem dX4_add_24 : decode cX4_add 24 = .ok (.getfield 24, 3) := by decide +kernel
theorem dX4_add_27 : decode cX4_add 27 = .ok (.iload_n 1, 1) := by decide +kernel
theorem dX4_add_28 : decode cX4_add 28 = .ok (.iastore, 1) := by decide +kernel
theorem dX4_add_29 : decode cX4_add 29 = .ok (.aload_n 0, 1) := by decide +kernel
theorem dX4_add_30 : decode cX4_add 30 = .ok (.getfield 15, 3) := by decide +kernel
theorem dX4_add_33 : decode cX4_add 33 = .ok (.aload_n 0, 1) := by decide +kernel
theorem dX4_add_34 : decode cX4_add 34 = .ok (.getfield 24, 3) := by decide +kernel
theorem dX4_add_37 : decode cX4_add 37 = .ok (.iload_n 2, 1) := by decide +kernel
theorem dX4_add_38 : decode cX4_add 38 = .ok (.iastore, 1) := by decide +kernel
theorem dX4_add_39 : decode cX4_add 39 = .ok (.aload_n 0, 1) := by decide +kernel
theorem dX4_add_40 : decode cX4_add 40 = .ok (.getfield 18, 3) := by decide +kernel
theorem dX4_add_43 : decode cX4_add 43 = .ok (.aload_n 0, 1) := by decide +kernel
theorem dX4_add_44 : decode cX4_add 44 = .ok (.getfield 24, 3) := by decide +kernel
theorem dX4_add_47 : decode cX4_add 47 = .ok (.iload_n 3, 1) := by decide +kernel
theorem dX4_add_48 : decode cX4_add 48 = .ok (.iastore, 1) := by decide +kernel
theorem dX4_add_49 : decode cX4_add 49 = .ok (.aload_n 0, 1) := by decide +kernel
theorem dX4_add_50 : decode cX4_add 50 = .ok (.getfield 21, 3) := by decide +kernel
theorem dX4_add_53 : decode cX4_add 53 = .ok (.aload_n 0, 1) := by decide +kernel
theorem dX4_add_54 : decode cX4_add 54 = .ok (.getfield 24, 3) := by decide +kernel
theorem dX4_add_57 : decode cX4_add 57 = .ok (.iload 4, 2) := by decide +kernel
theorem dX4_add_59 : decode cX4_add 59 = .ok (.iastore, 1) := by decide +kernel
theorem dX4_add_60 : decode cX4_add 60 = .ok (.aload_n 0, 1) := by decide +kernel
theorem dX4_add_61 : decode cX4_add 61 = .ok (.dup, 1) := by decide +kernel
theorem dX4_add_62 : decode cX4_add 62 = .ok (.getfield 24, 3) := by decide +kernel
theorem dX4_add_65 : decode cX4_add 65 = .ok (.iconst 1, 1) := by decide +kernel
theorem dX4_add_66 : decode cX4_add 66 = .ok (.iadd, 1) := by decide +kernel
theorem dX4_add_67 : decode cX4_add 67 = .ok (.putfield 24, 3) := by decide +kernel
theorem dX4_add_70 : decode cX4_add 70 = .ok (.aload_n 0, 1) := by decide +kernel
theorem dX4_add_71 : decode cX4_add 71 = .ok (.getfield 24, 3) := by decide +kernel
theorem dX4_add_74 : decode cX4_add 74 = .ok (.ireturn, 1) := by decide +kernel
theorem dX4_copyFrom_0 : decode cX4_copyFrom 0 = .ok (.iconst 0, 1) := by decide +kernel
theorem dX4_copyFrom_1 : decode cX4_copyFrom 1 = .ok (.istore_n 2, 1) := by decide +kernel
theorem dX4_copyFrom_2 : decode cX4_copyFrom 2 = .ok (.iload_n 2, 1) := by decide +kernel
theorem dX4_copyFrom_3 : decode cX4_copyFrom 3 = .ok (.bipush 6, 2) := by decide +kernel
theorem dX4_copyFrom_5 : decode cX4_copyFrom 5 = .ok (.if_icmp .ge 57, 3) := by decide +kernel
theorem dX4_copyFrom_8 : decode cX4_copyFrom 8 = .ok (.aload_n 0, 1) := by decide +kernel
theorem dX4_copyFrom_9 : decode cX4_copyFrom 9 = .ok (.getfield 9, 3) := by decide +kernel
theorem dX4_copyFrom_12 : decode cX4_copyFrom 12 = .ok (.iload_n 2, 1) := by decide +kernel
theorem dX4_copyFrom_13 : decode cX4_copyFrom 13 = .ok (.aload_n 1, 1) := by decide +kernel
theorem dX4_copyFrom_14 : decode cX4_copyFrom 14 = .ok (.getfield 9, 3) := by decide +kernel
theorem dX4_copyFrom_17 : decode cX4_copyFrom 17 = .ok (.iload_n 2, 1) := by decide +kernel
theorem dX4_copyFrom_18 : decode cX4_copyFrom 18 = .ok (.iaload, 1) := by decide +kernel
theorem dX4_copyFrom_19 : decode cX4_copyFrom 19 = .ok (.iastore, 1) := by decide +kernel
theorem dX4_copyFrom_20 : decode cX4_copyFrom 20 = .ok (.aload_n 0, 1) := by decide +kernel
theorem dX4_copyFrom_21 : decode cX4_copyFrom 21 = .ok (.getfield 15, 3) := by decide +kernel
theorem dX4_copyFrom_24 : decode cX4_copyFrom 24 = .ok (.iload_n 2, 1) := by decide +kernel
theorem dX4_copyFrom_25 : decode cX4_copyFrom 25 = .ok (.aload_n 1, 1) := by decide +kernel
theorem dX4_copyFrom_26 : decode cX4_copyFrom 26 = .ok (.getfield 15, 3) := by decide +kernel
theorem dX4_copyFrom_29 : decode cX4_copyFrom 29 = .ok (.iload_n 2, 1) := by decide +kernel
theorem dX4_copyFrom_30 : decode cX4_copyFrom 30 = .ok (.iaload, 1) := by decide +kernel
theorem dX4_copyFrom_31 : decode cX4_copyFrom 31 = .ok (.iastore, 1) := by decide +kernel
theorem dX4_copyFrom_32 : decode cX4_copyFrom 32 = .ok (.aload_n 0, 1) := by decide +kernel
theorem dX4_copyFrom_33 : decode cX4_copyFrom 33 = .ok (.getfield 18, 3) := by decide +kernel
theorem dX4_copyFrom_36 : decode cX4_copyFrom 36 = .ok (.iload_n 2, 1) := by decide +kernel
theorem dX4_copyFrom_37 : decode cX4_copyFrom 37 = .ok (.aload_n 1, 1) := by decide +kernel
theorem dX4_copyFrom_38 : decode cX4_copyFrom 38 = .ok (.getfield 18, 3) := by decide +kernel
theorem dX4_copyFrom_41 : decode cX4_copyFrom 41 = .ok (.iload_n 2, 1) := by decide +kernel
theorem dX4_copyFrom_42 : decode cX4_copyFrom 42 = .ok (.iaload, 1) := by decide +kernel
theorem dX4_copyFrom_43 : decode cX4_copyFrom 43 = .ok (.iastore, 1) := by decide +kernel
theorem dX4_copyFrom_44 : decode cX4_copyFrom 44 = .ok (.aload_n 0, 1) := by decide +kernel
theorem dX4_copyFrom_45 : decode cX4_copyFrom 45 = .ok (.getfield 21, 3) := by decide +kernel
theorem dX4_copyFrom_48 : decode cX4_copyFrom 48 = .ok (.iload_n 2, 1) := by decide +kernel
theorem dX4_copyFrom_49 : decode cX4_copyFrom 49 = .ok (.aload_n 1, 1) := by decide +kernel
theorem dX4_copyFrom_50 : decode cX4_copyFrom 50 = .ok (.getfield 21, 3) := by decide +kernel
theorem dX4_copyFrom_53 : decode cX4_copyFrom 53 = .ok (.iload_n 2, 1) := by decide +kernel
theorem dX4_copyFrom_54 : decode cX4_copyFrom 54 = .ok (.iaload, 1) := by decide +kernel
theorem dX4_copyFrom_55 : decode cX4_copyFrom 55 = .ok (.iastore, 1) := by decide +kernel
theorem dX4_copyFrom_56 : decode cX4_copyFrom 56 = .ok (.iinc 2 1, 3) := by decide +kernel
theorem dX4_copyFrom_59 : decode cX4_copyFrom 59 = .ok (.goto (-57), 3) := by decide +kernel
theorem dX4_copyFrom_62 : decode cX4_copyFrom 62 = .ok (.aload_n 0, 1) := by decide +kernel
theorem dX4_copyFrom_63 : decode cX4_copyFrom 63 = .ok (.aload_n 1, 1) := by decide +kernel
theorem dX4_copyFrom_64 : decode cX4_copyFrom 64 = .ok (.getfield 24, 3) := by decide +kernel
theorem dX4_copyFrom_67 : decode cX4_copyFrom 67 = .ok (.putfield 24, 3) := by decide +kernel
theorem dX4_copyFrom_70 : decode cX4_copyFrom 70 = .ok (.return_, 1) := by decide +kernel
theorem dX4_kindsThatFit_0 : decode cX4_kindsThatFit 0 = .ok (.iconst 0, 1) := by decide +kernel
theorem dX4_kindsThatFit_1 : decode cX4_kindsThatFit 1 = .ok (.istore_n 3, 1) := by decide +kernel
theorem dX4_kindsThatFit_2 : decode cX4_kindsThatFit 2 = .ok (.iconst 0, 1) := by decide +kernel
theorem dX4_kindsThatFit_3 : decode cX4_kindsThatFit 3 = .ok (.istore 4, 2) := by decide +kernel
theorem dX4_kindsThatFit_5 : decode cX4_kindsThatFit 5 = .ok (.iload 4, 2) := by decide +kernel
theorem dX4_kindsThatFit_7 : decode cX4_kindsThatFit 7 = .ok (.bipush 6, 2) := by decide +kernel
theorem dX4_kindsThatFit_9 : decode cX4_kindsThatFit 9 = .ok (.if_icmp .ge 32, 3) := by decide +kernel
theorem dX4_kindsThatFit_12 : decode cX4_kindsThatFit 12 = .ok (.aload_n 0, 1) := by decide +kernel
theorem dX4_kindsThatFit_13 : decode cX4_kindsThatFit 13 = .ok (.aload_n 1, 1) := by decide +kernel
theorem dX4_kindsThatFit_14 : decode cX4_kindsThatFit 14 = .ok (.iload_n 2, 1) := by decide +kernel
theorem dX4_kindsThatFit_15 : decode cX4_kindsThatFit 15 = .ok (.iload 4, 2) := by decide +kernel
theorem dX4_kindsThatFit_17 : decode cX4_kindsThatFit 17 = .ok (.aload_n 1, 1) := by decide +kernel
theorem dX4_kindsThatFit_18 : decode cX4_kindsThatFit 18 = .ok (.iload_n 2, 1) := by decide +kernel
theorem dX4_kindsThatFit_19 : decode cX4_kindsThatFit 19 = .ok (.invokevirtual 28, 3) := by decide +kernel
theorem dX4_kindsThatFit_22 : decode cX4_kindsThatFit 22 = .ok (.invokevirtual 34, 3) := by decide +kernel
theorem dX4_kindsThatFit_25 : decode cX4_kindsThatFit 25 = .ok (.ifCond .eq 10, 3) := by decide +kernel
theorem dX4_kindsThatFit_28 : decode cX4_kindsThatFit 28 = .ok (.iload_n 3, 1) := by decide +kernel
theorem dX4_kindsThatFit_29 : decode cX4_kindsThatFit 29 = .ok (.iconst 1, 1) := by decide +kernel
theorem dX4_kindsThatFit_30 : decode cX4_kindsThatFit 30 = .ok (.iload 4, 2) := by decide +kernel
theorem dX4_kindsThatFit_32 : decode cX4_kindsThatFit 32 = .ok (.ishl, 1) := by decide +kernel
theorem dX4_kindsThatFit_33 : decode cX4_kindsThatFit 33 = .ok (.ior, 1) := by decide +kernel
theorem dX4_kindsThatFit_34 : decode cX4_kindsThatFit 34 = .ok (.istore_n 3, 1) := by decide +kernel
theorem dX4_kindsThatFit_35 : decode cX4_kindsThatFit 35 = .ok (.iinc 4 1, 3) := by decide +kernel
theorem dX4_kindsThatFit_38 : decode cX4_kindsThatFit 38 = .ok (.goto (-33), 3) := by decide +kernel
theorem dX4_kindsThatFit_41 : decode cX4_kindsThatFit 41 = .ok (.iload_n 3, 1) := by decide +kernel
theorem dX4_kindsThatFit_42 : decode cX4_kindsThatFit 42 = .ok (.ireturn, 1) := by decide +kernel
theorem dX4_honestiesThatFit_0 : decode cX4_honestiesThatFit 0 = .ok (.iconst 0, 1) := by decide +kernel
theorem dX4_honestiesThatFit_1 : decode cX4_honestiesThatFit 1 = .ok (.istore_n 3, 1) := by decide +kernel
theorem dX4_honestiesThatFit_2 : decode cX4_honestiesThatFit 2 = .ok (.iconst 0, 1) := by decide +kernel
theorem dX4_honestiesThatFit_3 : decode cX4_honestiesThatFit 3 = .ok (.istore 4, 2) := by decide +kernel
theorem dX4_honestiesThatFit_5 : decode cX4_honestiesThatFit 5 = .ok (.iload 4, 2) := by decide +kernel
theorem dX4_honestiesThatFit_7 : decode cX4_honestiesThatFit 7 = .ok (.bipush 12, 2) := by decide +kernel
theorem dX4_honestiesThatFit_9 : decode cX4_honestiesThatFit 9 = .ok (.if_icmp .gt 32, 3) := by decide +kernel
theorem dX4_honestiesThatFit_12 : decode cX4_honestiesThatFit 12 = .ok (.aload_n 0, 1) := by decide +kernel
theorem dX4_honestiesThatFit_13 : decode cX4_honestiesThatFit 13 = .ok (.aload_n 1, 1) := by decide +kernel
theorem dX4_honestiesThatFit_14 : decode cX4_honestiesThatFit 14 = .ok (.iload_n 2, 1) := by decide +kernel
theorem dX4_honestiesThatFit_15 : decode cX4_honestiesThatFit 15 = .ok (.aload_n 1, 1) := by decide +kernel
theorem dX4_honestiesThatFit_16 : decode cX4_honestiesThatFit 16 = .ok (.iload_n 2, 1) := by decide +kernel
theorem dX4_honestiesThatFit_17 : decode cX4_honestiesThatFit 17 = .ok (.invokevirtual 38, 3) := by decide +kernel
theorem dX4_honestiesThatFit_20 : decode cX4_honestiesThatFit 20 = .ok (.iload 4, 2) := by decide +kernel
theorem dX4_honestiesThatFit_22 : decode cX4_honestiesThatFit 22 = .ok (.invokevirtual 34, 3) := by decide +kernel
theorem dX4_honestiesThatFit_25 : decode cX4_honestiesThatFit 25 = .ok (.ifCond .eq 10, 3) := by decide +kernel
theorem dX4_honestiesThatFit_28 : decode cX4_honestiesThatFit 28 = .ok (.iload_n 3, 1) := by decide +kernel
theorem dX4_honestiesThatFit_29 : decode cX4_honestiesThatFit 29 = .ok (.iconst 1, 1) := by decide +kernel
theorem dX4_honestiesThatFit_30 : decode cX4_honestiesThatFit 30 = .ok (.iload 4, 2) := by decide +kernel
theorem dX4_honestiesThatFit_32 : decode cX4_honestiesThatFit 32 = .ok (.ishl, 1) := by decide +kernel
theorem dX4_honestiesThatFit_33 : decode cX4_honestiesThatFit 33 = .ok (.ior, 1) := by decide +kernel
theorem dX4_honestiesThatFit_34 : decode cX4_honestiesThatFit 34 = .ok (.istore_n 3, 1) := by decide +kernel
theorem dX4_honestiesThatFit_35 : decode cX4_honestiesThatFit 35 = .ok (.iinc 4 1, 3) := by decide +kernel
theorem dX4_honestiesThatFit_38 : decode cX4_honestiesThatFit 38 = .ok (.goto (-33), 3) := by decide +kernel
theorem dX4_honestiesThatFit_41 : decode cX4_honestiesThatFit 41 = .ok (.iload_n 3, 1) := by decide +kernel
theorem dX4_honestiesThatFit_42 : decode cX4_honestiesThatFit 42 = .ok (.ireturn, 1) := by decide +kernel
theorem dX4_bestWeighing_0 : decode cX4_bestWeighing 0 = .ok (.iload_n 1, 1) := by decide +kernel
theorem dX4_bestWeighing_1 : decode cX4_bestWeighing 1 = .ok (.ifCond .ne 5, 3) := by decide +kernel
theorem dX4_bestWeighing_4 : decode cX4_bestWeighing 4 = .ok (.iconst (-1), 1) := by decide +kernel
theorem dX4_bestWeighing_5 : decode cX4_bestWeighing 5 = .ok (.ireturn, 1) := by decide +kernel
theorem dX4_bestWeighing_6 : decode cX4_bestWeighing 6 = .ok (.iconst 0, 1) := by decide +kernel
theorem dX4_bestWeighing_7 : decode cX4_bestWeighing 7 = .ok (.istore_n 3, 1) := by decide +kernel
theorem dX4_bestWeighing_8 : decode cX4_bestWeighing 8 = .ok (.bipush 7, 2) := by decide +kernel
theorem dX4_bestWeighing_10 : decode cX4_bestWeighing 10 = .ok (.istore 4, 2) := by decide +kernel
theorem dX4_bestWeighing_12 : decode cX4_bestWeighing 12 = .ok (.iconst 0, 1) := by decide +kernel
theorem dX4_bestWeighing_13 : decode cX4_bestWeighing 13 = .ok (.istore 5, 2) := by decide +kernel
theorem dX4_bestWeighing_15 : decode cX4_bestWeighing 15 = .ok (.iload 5, 2) := by decide +kernel
theorem dX4_bestWeighing_17 : decode cX4_bestWeighing 17 = .ok (.bipush 20, 2) := by decide +kernel
theorem dX4_bestWeighing_19 : decode cX4_bestWeighing 19 = .ok (.if_icmp .gt 33, 3) := by decide +kernel
theorem dX4_bestWeighing_22 : decode cX4_bestWeighing 22 = .ok (.aload_n 0, 1) := by decide +kernel
theorem dX4_bestWeighing_23 : decode cX4_bestWeighing 23 = .ok (.iload_n 1, 1) := by decide +kernel
theorem dX4_bestWeighing_24 : decode cX4_bestWeighing 24 = .ok (.iload 5, 2) := by decide +kernel
theorem dX4_bestWeighing_26 : decode cX4_bestWeighing 26 = .ok (.iload_n 2, 1) := by decide +kernel
theorem dX4_bestWeighing_27 : decode cX4_bestWeighing 27 = .ok (.invokestatic 41, 3) := by decide +kernel
theorem dX4_bestWeighing_30 : decode cX4_bestWeighing 30 = .ok (.istore 6, 2) := by decide +kernel
theorem dX4_bestWeighing_32 : decode cX4_bestWeighing 32 = .ok (.iload 6, 2) := by decide +kernel
theorem dX4_bestWeighing_34 : decode cX4_bestWeighing 34 = .ok (.iload 4, 2) := by decide +kernel
theorem dX4_bestWeighing_36 : decode cX4_bestWeighing 36 = .ok (.if_icmp .ge 10, 3) := by decide +kernel
theorem dX4_bestWeighing_39 : decode cX4_bestWeighing 39 = .ok (.iload 6, 2) := by decide +kernel
theorem dX4_bestWeighing_41 : decode cX4_bestWeighing 41 = .ok (.istore 4, 2) := by decide +kernel
theorem dX4_bestWeighing_43 : decode cX4_bestWeighing 43 = .ok (.iload 5, 2) := by decide +kernel
theorem dX4_bestWeighing_45 : decode cX4_bestWeighing 45 = .ok (.istore_n 3, 1) := by decide +kernel
theorem dX4_bestWeighing_46 : decode cX4_bestWeighing 46 = .ok (.iinc 5 1, 3) := by decide +kernel
theorem dX4_bestWeighing_49 : decode cX4_bestWeighing 49 = .ok (.goto (-34), 3) := by decide +kernel
theorem dX4_bestWeighing_52 : decode cX4_bestWeighing 52 = .ok (.iload_n 3, 1) := by decide +kernel
theorem dX4_bestWeighing_53 : decode cX4_bestWeighing 53 = .ok (.ireturn, 1) := by decide +kernel
theorem dX4_mixInto_0 : decode cX4_mixInto 0 = .ok (.lload_n 1, 1) := by decide +kernel
theorem dX4_mixInto_1 : decode cX4_mixInto 1 = .ok (.lstore_n 3, 1) := by decide +kernel
theorem dX4_mixInto_2 : decode cX4_mixInto 2 = .ok (.iconst 0, 1) := by decide +kernel
theorem dX4_mixInto_3 : decode cX4_mixInto 3 = .ok (.istore 5, 2) := by decide +kernel
theorem dX4_mixInto_5 : decode cX4_mixInto 5 = .ok (.iload 5, 2) := by decide +kernel
theorem dX4_mixInto_7 : decode cX4_mixInto 7 = .ok (.aload_n 0, 1) := by decide +kernel
theorem dX4_mixInto_8 : decode cX4_mixInto 8 = .ok (.getfield 24, 3) := by decide +kernel
theorem dX4_mixInto_11 : decode cX4_mixInto 11 = .ok (.if_icmp .ge 76, 3) := by decide +kernel
theorem dX4_mixInto_14 : decode cX4_mixInto 14 = .ok (.iload 5, 2) := by decide +kernel
theorem dX4_mixInto_16 : decode cX4_mixInto 16 = .ok (.bipush 6, 2) := by decide +kernel
theorem dX4_mixInto_18 : decode cX4_mixInto 18 = .ok (.if_icmp .ge 69, 3) := by decide +kernel
theorem dX4_mixInto_21 : decode cX4_mixInto 21 = .ok (.ldc2_w 45, 3) := by decide +kernel
theorem dX4_mixInto_24 : decode cX4_mixInto 24 = .ok (.lload_n 3, 1) := by decide +kernel
theorem dX4_mixInto_25 : decode cX4_mixInto 25 = .ok (.lmul, 1) := by decide +kernel
theorem dX4_mixInto_26 : decode cX4_mixInto 26 = .ok (.aload_n 0, 1) := by decide +kernel
theorem dX4_mixInto_27 : decode cX4_mixInto 27 = .ok (.getfield 9, 3) := by decide +kernel
theorem dX4_mixInto_30 : decode cX4_mixInto 30 = .ok (.iload 5, 2) := by decide +kernel
theorem dX4_mixInto_32 : decode cX4_mixInto 32 = .ok (.iaload, 1) := by decide +kernel
theorem dX4_mixInto_33 : decode cX4_mixInto 33 = .ok (.i2l, 1) := by decide +kernel
theorem dX4_mixInto_34 : decode cX4_mixInto 34 = .ok (.ladd, 1) := by decide +kernel
theorem dX4_mixInto_35 : decode cX4_mixInto 35 = .ok (.lstore_n 3, 1) := by decide +kernel
theorem dX4_mixInto_36 : decode cX4_mixInto 36 = .ok (.ldc2_w 45, 3) := by decide +kernel
theorem dX4_mixInto_39 : decode cX4_mixInto 39 = .ok (.lload_n 3, 1) := by decide +kernel
theorem dX4_mixInto_40 : decode cX4_mixInto 40 = .ok (.lmul, 1) := by decide +kernel
theorem dX4_mixInto_41 : decode cX4_mixInto 41 = .ok (.aload_n 0, 1) := by decide +kernel
theorem dX4_mixInto_42 : decode cX4_mixInto 42 = .ok (.getfield 15, 3) := by decide +kernel
theorem dX4_mixInto_45 : decode cX4_mixInto 45 = .ok (.iload 5, 2) := by decide +kernel
theorem dX4_mixInto_47 : decode cX4_mixInto 47 = .ok (.iaload, 1) := by decide +kernel
theorem dX4_mixInto_48 : decode cX4_mixInto 48 = .ok (.i2l, 1) := by decide +kernel
theorem dX4_mixInto_49 : decode cX4_mixInto 49 = .ok (.ladd, 1) := by decide +kernel
theorem dX4_mixInto_50 : decode cX4_mixInto 50 = .ok (.lstore_n 3, 1) := by decide +kernel
theorem dX4_mixInto_51 : decode cX4_mixInto 51 = .ok (.ldc2_w 45, 3) := by decide +kernel
theorem dX4_mixInto_54 : decode cX4_mixInto 54 = .ok (.lload_n 3, 1) := by decide +kernel
theorem dX4_mixInto_55 : decode cX4_mixInto 55 = .ok (.lmul, 1) := by decide +kernel
theorem dX4_mixInto_56 : decode cX4_mixInto 56 = .ok (.aload_n 0, 1) := by decide +kernel
theorem dX4_mixInto_57 : decode cX4_mixInto 57 = .ok (.getfield 18, 3) := by decide +kernel
theorem dX4_mixInto_60 : decode cX4_mixInto 60 = .ok (.iload 5, 2) := by decide +kernel
theorem dX4_mixInto_62 : decode cX4_mixInto 62 = .ok (.iaload, 1) := by decide +kernel
theorem dX4_mixInto_63 : decode cX4_mixInto 63 = .ok (.i2l, 1) := by decide +kernel
theorem dX4_mixInto_64 : decode cX4_mixInto 64 = .ok (.ladd, 1) := by decide +kernel
theorem dX4_mixInto_65 : decode cX4_mixInto 65 = .ok (.lstore_n 3, 1) := by decide +kernel
theorem dX4_mixInto_66 : decode cX4_mixInto 66 = .ok (.ldc2_w 45, 3) := by decide +kernel
theorem dX4_mixInto_69 : decode cX4_mixInto 69 = .ok (.lload_n 3, 1) := by decide +kernel
theorem dX4_mixInto_70 : decode cX4_mixInto 70 = .ok (.lmul, 1) := by decide +kernel
theorem dX4_mixInto_71 : decode cX4_mixInto 71 = .ok (.aload_n 0, 1) := by decide +kernel
theorem dX4_mixInto_72 : decode cX4_mixInto 72 = .ok (.getfield 21, 3) := by decide +kernel
theorem dX4_mixInto_75 : decode cX4_mixInto 75 = .ok (.iload 5, 2) := by decide +kernel
theorem dX4_mixInto_77 : decode cX4_mixInto 77 = .ok (.iaload, 1) := by decide +kernel
theorem dX4_mixInto_78 : decode cX4_mixInto 78 = .ok (.i2l, 1) := by decide +kernel
theorem dX4_mixInto_79 : decode cX4_mixInto 79 = .ok (.ladd, 1) := by decide +kernel
theorem dX4_mixInto_80 : decode cX4_mixInto 80 = .ok (.lstore_n 3, 1) := by decide +kernel
theorem dX4_mixInto_81 : decode cX4_mixInto 81 = .ok (.iinc 5 1, 3) := by decide +kernel
theorem dX4_mixInto_84 : decode cX4_mixInto 84 = .ok (.goto (-79), 3) := by decide +kernel
theorem dX4_mixInto_87 : decode cX4_mixInto 87 = .ok (.lload_n 3, 1) := by decide +kernel
theorem dX4_mixInto_88 : decode cX4_mixInto 88 = .ok (.lreturn, 1) := by decide +kernel
theorem dX4_allFit_0 : decode cX4_allFit 0 = .ok (.iconst 0, 1) := by decide +kernel
theorem dX4_allFit_1 : decode cX4_allFit 1 = .ok (.istore 5, 2) := by decide +kernel
theorem dX4_allFit_3 : decode cX4_allFit 3 = .ok (.iload 5, 2) := by decide +kernel
theorem dX4_allFit_5 : decode cX4_allFit 5 = .ok (.aload_n 0, 1) := by decide +kernel
theorem dX4_allFit_6 : decode cX4_allFit 6 = .ok (.getfield 24, 3) := by decide +kernel
theorem dX4_allFit_9 : decode cX4_allFit 9 = .ok (.if_icmp .ge 60, 3) := by decide +kernel
theorem dX4_allFit_12 : decode cX4_allFit 12 = .ok (.iload 5, 2) := by decide +kernel
theorem dX4_allFit_14 : decode cX4_allFit 14 = .ok (.bipush 6, 2) := by decide +kernel
theorem dX4_allFit_16 : decode cX4_allFit 16 = .ok (.if_icmp .ge 53, 3) := by decide +kernel
theorem dX4_allFit_19 : decode cX4_allFit 19 = .ok (.aload_n 0, 1) := by decide +kernel
theorem dX4_allFit_20 : decode cX4_allFit 20 = .ok (.getfield 9, 3) := by decide +kernel
theorem dX4_allFit_23 : decode cX4_allFit 23 = .ok (.iload 5, 2) := by decide +kernel
theorem dX4_allFit_25 : decode cX4_allFit 25 = .ok (.iaload, 1) := by decide +kernel
theorem dX4_allFit_26 : decode cX4_allFit 26 = .ok (.iload_n 2, 1) := by decide +kernel
theorem dX4_allFit_27 : decode cX4_allFit 27 = .ok (.if_icmp .ne 36, 3) := by decide +kernel
theorem dX4_allFit_30 : decode cX4_allFit 30 = .ok (.aload_n 1, 1) := by decide +kernel
theorem dX4_allFit_31 : decode cX4_allFit 31 = .ok (.iload_n 3, 1) := by decide +kernel
theorem dX4_allFit_32 : decode cX4_allFit 32 = .ok (.aload_n 0, 1) := by decide +kernel
theorem dX4_allFit_33 : decode cX4_allFit 33 = .ok (.getfield 15, 3) := by decide +kernel
theorem dX4_allFit_36 : decode cX4_allFit 36 = .ok (.iload 5, 2) := by decide +kernel
theorem dX4_allFit_38 : decode cX4_allFit 38 = .ok (.iaload, 1) := by decide +kernel
theorem dX4_allFit_39 : decode cX4_allFit 39 = .ok (.iload 4, 2) := by decide +kernel
theorem dX4_allFit_41 : decode cX4_allFit 41 = .ok (.aload_n 0, 1) := by decide +kernel
theorem dX4_allFit_42 : decode cX4_allFit 42 = .ok (.getfield 21, 3) := by decide +kernel
theorem dX4_allFit_45 : decode cX4_allFit 45 = .ok (.iload 5, 2) := by decide +kernel
theorem dX4_allFit_47 : decode cX4_allFit 47 = .ok (.iaload, 1) := by decide +kernel
theorem dX4_allFit_48 : decode cX4_allFit 48 = .ok (.invokevirtual 47, 3) := by decide +kernel
theorem dX4_allFit_51 : decode cX4_allFit 51 = .ok (.aload_n 0, 1) := by decide +kernel
theorem dX4_allFit_52 : decode cX4_allFit 52 = .ok (.getfield 18, 3) := by decide +kernel
theorem dX4_allFit_55 : decode cX4_allFit 55 = .ok (.iload 5, 2) := by decide +kernel
theorem dX4_allFit_57 : decode cX4_allFit 57 = .ok (.iaload, 1) := by decide +kernel
theorem dX4_allFit_58 : decode cX4_allFit 58 = .ok (.if_icmp .eq 5, 3) := by decide +kernel
theorem dX4_allFit_61 : decode cX4_allFit 61 = .ok (.iconst 0, 1) := by decide +kernel
theorem dX4_allFit_62 : decode cX4_allFit 62 = .ok (.ireturn, 1) := by decide +kernel
theorem dX4_allFit_63 : decode cX4_allFit 63 = .ok (.iinc 5 1, 3) := by decide +kernel
theorem dX4_allFit_66 : decode cX4_allFit 66 = .ok (.goto (-63), 3) := by decide +kernel
theorem dX4_allFit_69 : decode cX4_allFit 69 = .ok (.iconst 1, 1) := by decide +kernel
theorem dX4_allFit_70 : decode cX4_allFit 70 = .ok (.ireturn, 1) := by decide +kernel
theorem dX4_mostAlike_0 : decode cX4_mostAlike 0 = .ok (.iconst 0, 1) := by decide +kernel
theorem dX4_mostAlike_1 : decode cX4_mostAlike 1 = .ok (.istore 4, 2) := by decide +kernel
theorem dX4_mostAlike_3 : decode cX4_mostAlike 3 = .ok (.iconst 0, 1) := by decide +kernel
theorem dX4_mostAlike_4 : decode cX4_mostAlike 4 = .ok (.istore 5, 2) := by decide +kernel
theorem dX4_mostAlike_6 : decode cX4_mostAlike 6 = .ok (.iload 5, 2) := by decide +kernel
theorem dX4_mostAlike_8 : decode cX4_mostAlike 8 = .ok (.bipush 6, 2) := by decide +kernel
theorem dX4_mostAlike_10 : decode cX4_mostAlike 10 = .ok (.if_icmp .ge 89, 3) := by decide +kernel
theorem dX4_mostAlike_13 : decode cX4_mostAlike 13 = .ok (.iconst 0, 1) := by decide +kernel
theorem dX4_mostAlike_14 : decode cX4_mostAlike 14 = .ok (.istore 6, 2) := by decide +kernel
theorem dX4_mostAlike_16 : decode cX4_mostAlike 16 = .ok (.aload_n 0, 1) := by decide +kernel
theorem dX4_mostAlike_17 : decode cX4_mostAlike 17 = .ok (.iload 5, 2) := by decide +kernel
theorem dX4_mostAlike_19 : decode cX4_mostAlike 19 = .ok (.iload_n 2, 1) := by decide +kernel
theorem dX4_mostAlike_20 : decode cX4_mostAlike 20 = .ok (.iload_n 3, 1) := by decide +kernel
theorem dX4_mostAlike_21 : decode cX4_mostAlike 21 = .ok (.aload_n 0, 1) := by decide +kernel
theorem dX4_mostAlike_22 : decode cX4_mostAlike 22 = .ok (.invokevirtual 51, 3) := by decide +kernel
theorem dX4_mostAlike_25 : decode cX4_mostAlike 25 = .ok (.invokevirtual 47, 3) := by decide +kernel
theorem dX4_mostAlike_28 : decode cX4_mostAlike 28 = .ok (.istore 7, 2) := by decide +kernel
theorem dX4_mostAlike_30 : decode cX4_mostAlike 30 = .ok (.iconst 0, 1) := by decide +kernel
theorem dX4_mostAlike_31 : decode cX4_mostAlike 31 = .ok (.istore 8, 2) := by decide +kernel
theorem dX4_mostAlike_33 : decode cX4_mostAlike 33 = .ok (.iload 8, 2) := by decide +kernel
theorem dX4_mostAlike_35 : decode cX4_mostAlike 35 = .ok (.bipush 6, 2) := by decide +kernel
theorem dX4_mostAlike_37 : decode cX4_mostAlike 37 = .ok (.if_icmp .ge 38, 3) := by decide +kernel
theorem dX4_mostAlike_40 : decode cX4_mostAlike 40 = .ok (.iload_n 1, 1) := by decide +kernel
theorem dX4_mostAlike_41 : decode cX4_mostAlike 41 = .ok (.iload 8, 2) := by decide +kernel
theorem dX4_mostAlike_43 : decode cX4_mostAlike 43 = .ok (.ishr, 1) := by decide +kernel
theorem dX4_mostAlike_44 : decode cX4_mostAlike 44 = .ok (.iconst 1, 1) := by decide +kernel
theorem dX4_mostAlike_45 : decode cX4_mostAlike 45 = .ok (.iand, 1) := by decide +kernel
theorem dX4_mostAlike_46 : decode cX4_mostAlike 46 = .ok (.ifCond .eq 23, 3) := by decide +kernel
theorem dX4_mostAlike_49 : decode cX4_mostAlike 49 = .ok (.aload_n 0, 1) := by decide +kernel
theorem dX4_mostAlike_50 : decode cX4_mostAlike 50 = .ok (.iload 8, 2) := by decide +kernel
theorem dX4_mostAlike_52 : decode cX4_mostAlike 52 = .ok (.iload_n 2, 1) := by decide +kernel
theorem dX4_mostAlike_53 : decode cX4_mostAlike 53 = .ok (.iload_n 3, 1) := by decide +kernel
theorem dX4_mostAlike_54 : decode cX4_mostAlike 54 = .ok (.aload_n 0, 1) := by decide +kernel
theorem dX4_mostAlike_55 : decode cX4_mostAlike 55 = .ok (.invokevirtual 51, 3) := by decide +kernel
theorem dX4_mostAlike_58 : decode cX4_mostAlike 58 = .ok (.invokevirtual 47, 3) := by decide +kernel
theorem dX4_mostAlike_61 : decode cX4_mostAlike 61 = .ok (.iload 7, 2) := by decide +kernel
theorem dX4_mostAlike_63 : decode cX4_mostAlike 63 = .ok (.if_icmp .ne 6, 3) := by decide +kernel
theorem dX4_mostAlike_66 : decode cX4_mostAlike 66 = .ok (.iinc 6 1, 3) := by decide +kernel
theorem dX4_mostAlike_69 : decode cX4_mostAlike 69 = .ok (.iinc 8 1, 3) := by decide +kernel
theorem dX4_mostAlike_72 : decode cX4_mostAlike 72 = .ok (.goto (-39), 3) := by decide +kernel
theorem dX4_mostAlike_75 : decode cX4_mostAlike 75 = .ok (.iload_n 1, 1) := by decide +kernel
theorem dX4_mostAlike_76 : decode cX4_mostAlike 76 = .ok (.iload 5, 2) := by decide +kernel
theorem dX4_mostAlike_78 : decode cX4_mostAlike 78 = .ok (.ishr, 1) := by decide +kernel
theorem dX4_mostAlike_79 : decode cX4_mostAlike 79 = .ok (.iconst 1, 1) := by decide +kernel
theorem dX4_mostAlike_80 : decode cX4_mostAlike 80 = .ok (.iand, 1) := by decide +kernel
theorem dX4_mostAlike_81 : decode cX4_mostAlike 81 = .ok (.ifCond .eq 12, 3) := by decide +kernel
theorem dX4_mostAlike_84 : decode cX4_mostAlike 84 = .ok (.iload 4, 2) := by decide +kernel
theorem dX4_mostAlike_86 : decode cX4_mostAlike 86 = .ok (.iload 6, 2) := by decide +kernel
theorem dX4_mostAlike_88 : decode cX4_mostAlike 88 = .ok (.invokestatic 55, 3) := by decide +kernel
theorem dX4_mostAlike_91 : decode cX4_mostAlike 91 = .ok (.istore 4, 2) := by decide +kernel
theorem dX4_mostAlike_93 : decode cX4_mostAlike 93 = .ok (.iinc 5 1, 3) := by decide +kernel
theorem dX4_mostAlike_96 : decode cX4_mostAlike 96 = .ok (.goto (-90), 3) := by decide +kernel
theorem dX4_mostAlike_99 : decode cX4_mostAlike 99 = .ok (.iload 4, 2) := by decide +kernel
theorem dX4_mostAlike_101 : decode cX4_mostAlike 101 = .ok (.ireturn, 1) := by decide +kernel
theorem dX5_init_0 : decode cX5_init 0 = .ok (.aload_n 0, 1) := by decide +kernel
theorem dX5_init_1 : decode cX5_init 1 = .ok (.invokespecial 5, 3) := by decide +kernel
theorem dX5_init_4 : decode cX5_init 4 = .ok (.aload_n 0, 1) := by decide +kernel
theorem dX5_init_5 : decode cX5_init 5 = .ok (.bipush 112, 2) := by decide +kernel
theorem dX5_init_7 : decode cX5_init 7 = .ok (.newarray .int, 2) := by decide +kernel
theorem dX5_init_9 : decode cX5_init 9 = .ok (.putfield 11, 3) := by decide +kernel
theorem dX5_init_12 : decode cX5_init 12 = .ok (.return_, 1) := by decide +kernel
theorem dX5_size_0 : decode cX5_size 0 = .ok (.aload_n 0, 1) := by decide +kernel
theorem dX5_size_1 : decode cX5_size 1 = .ok (.getfield 15, 3) := by decide +kernel
theorem dX5_size_4 : decode cX5_size 4 = .ok (.ireturn, 1) := by decide +kernel
theorem dX5_drop_0 : decode cX5_drop 0 = .ok (.aload_n 0, 1) := by decide +kernel
theorem dX5_drop_1 : decode cX5_drop 1 = .ok (.iconst 0, 1) := by decide +kernel
theorem dX5_drop_2 : decode cX5_drop 2 = .ok (.putfield 15, 3) := by decide +kernel
theorem dX5_drop_5 : decode cX5_drop 5 = .ok (.return_, 1) := by decide +kernel
theorem dX5_dropLast_0 : decode cX5_dropLast 0 = .ok (.aload_n 0, 1) := by decide +kernel
theorem dX5_dropLast_1 : decode cX5_dropLast 1 = .ok (.iconst 0, 1) := by decide +kernel
theorem dX5_dropLast_2 : decode cX5_dropLast 2 = .ok (.aload_n 0, 1) := by decide +kernel
theorem dX5_dropLast_3 : decode cX5_dropLast 3 = .ok (.getfield 15, 3) := by decide +kernel
theorem dX5_dropLast_6 : decode cX5_dropLast 6 = .ok (.iconst 1, 1) := by decide +kernel
theorem dX5_dropLast_7 : decode cX5_dropLast 7 = .ok (.isub, 1) := by decide +kernel
theorem dX5_dropLast_8 : decode cX5_dropLast 8 = .ok (.invokestatic 19, 3) := by decide +kernel
theorem dX5_dropLast_11 : decode cX5_dropLast 11 = .ok (.putfield 15, 3) := by decide +kernel
theorem dX5_dropLast_14 : decode cX5_dropLast 14 = .ok (.return_, 1) := by decide +kernel
theorem dX5_open_0 : decode cX5_open 0 = .ok (.aload_n 0, 1) := by decide +kernel
theorem dX5_open_1 : decode cX5_open 1 = .ok (.getfield 15, 3) := by decide +kernel
theorem dX5_open_4 : decode cX5_open 4 = .ok (.bipush 8, 2) := by decide +kernel
theorem dX5_open_6 : decode cX5_open 6 = .ok (.if_icmp .ge 14, 3) := by decide +kernel
theorem dX5_open_9 : decode cX5_open 9 = .ok (.aload_n 0, 1) := by decide +kernel
theorem dX5_open_10 : decode cX5_open 10 = .ok (.dup, 1) := by decide +kernel
theorem dX5_open_11 : decode cX5_open 11 = .ok (.getfield 15, 3) := by decide +kernel
theorem dX5_open_14 : decode cX5_open 14 = .ok (.iconst 1, 1) := by decide +kernel
theorem dX5_open_15 : decode cX5_open 15 = .ok (.iadd, 1) := by decide +kernel
theorem dX5_open_16 : decode cX5_open 16 = .ok (.putfield 15, 3) := by decide +kernel
theorem dX5_open_19 : decode cX5_open 19 = .ok (.return_, 1) := by decide +kernel
theorem dX5_open_20 : decode cX5_open 20 = .ok (.bipush 14, 2) := by decide +kernel
theorem dX5_open_22 : decode cX5_open 22 = .ok (.istore_n 1, 1) := by decide +kernel
theorem dX5_open_23 : decode cX5_open 23 = .ok (.iload_n 1, 1) := by decide +kernel
theorem dX5_open_24 : decode cX5_open 24 = .ok (.aload_n 0, 1) := by decide +kernel
theorem dX5_open_25 : decode cX5_open 25 = .ok (.getfield 11, 3) := by decide +kernel
theorem dX5_open_28 : decode cX5_open 28 = .ok (.arraylength, 1) := by decide +kernel
theorem dX5_open_29 : decode cX5_open 29 = .ok (.if_icmp .ge 24, 3) := by decide +kernel
theorem dX5_open_32 : decode cX5_open 32 = .ok (.aload_n 0, 1) := by decide +kernel
theorem dX5_open_33 : decode cX5_open 33 = .ok (.getfield 11, 3) := by decide +kernel
theorem dX5_open_36 : decode cX5_open 36 = .ok (.iload_n 1, 1) := by decide +kernel
theorem dX5_open_37 : decode cX5_open 37 = .ok (.bipush 14, 2) := by decide +kernel
theorem dX5_open_39 : decode cX5_open 39 = .ok (.isub, 1) := by decide +kernel
theorem dX5_open_40 : decode cX5_open 40 = .ok (.aload_n 0, 1) := by decide +kernel
theorem dX5_open_41 : decode cX5_open 41 = .ok (.getfield 11, 3) := by decide +kernel
theorem dX5_open_44 : decode cX5_open 44 = .ok (.iload_n 1, 1) := by decide +kernel
theorem dX5_open_45 : decode cX5_open 45 = .ok (.iaload, 1) := by decide +kernel
theorem dX5_open_46 : decode cX5_open 46 = .ok (.iastore, 1) := by decide +kernel
theorem dX5_open_47 : decode cX5_open 47 = .ok (.iinc 1 1, 3) := by decide +kernel
theorem dX5_open_50 : decode cX5_open 50 = .ok (.goto (-27), 3) := by decide +kernel
theorem dX5_open_53 : decode cX5_open 53 = .ok (.return_, 1) := by decide +kernel
theorem dX5_put_0 : decode cX5_put 0 = .ok (.aload_n 0, 1) := by decide +kernel
theorem dX5_put_1 : decode cX5_put 1 = .ok (.iload_n 1, 1) := by decide +kernel
theorem dX5_put_2 : decode cX5_put 2 = .ok (.invokevirtual 25, 3) := by decide +kernel
theorem dX5_put_5 : decode cX5_put 5 = .ok (.istore_n 3, 1) := by decide +kernel
theorem dX5_put_6 : decode cX5_put 6 = .ok (.iload_n 3, 1) := by decide +kernel
theorem dX5_put_7 : decode cX5_put 7 = .ok (.ifCond .lt 19, 3) := by decide +kernel
theorem dX5_put_10 : decode cX5_put 10 = .ok (.iload_n 3, 1) := by decide +kernel
theorem dX5_put_11 : decode cX5_put 11 = .ok (.aload_n 0, 1) := by decide +kernel
theorem dX5_put_12 : decode cX5_put 12 = .ok (.getfield 11, 3) := by decide +kernel
theorem dX5_put_15 : decode cX5_put 15 = .ok (.arraylength, 1) := by decide +kernel
theorem dX5_put_16 : decode cX5_put 16 = .ok (.if_icmp .ge 10, 3) := by decide +kernel
theorem dX5_put_19 : decode cX5_put 19 = .ok (.aload_n 0, 1) := by decide +kernel
theorem dX5_put_20 : decode cX5_put 20 = .ok (.getfield 11, 3) := by decide +kernel
theorem dX5_put_23 : decode cX5_put 23 = .ok (.iload_n 3, 1) := by decide +kernel
theorem dX5_put_24 : decode cX5_put 24 = .ok (.iload_n 2, 1) := by decide +kernel
theorem dX5_put_25 : decode cX5_put 25 = .ok (.iastore, 1) := by decide +kernel
theorem dX5_put_26 : decode cX5_put 26 = .ok (.return_, 1) := by decide +kernel
theorem dX5_last_0 : decode cX5_last 0 = .ok (.aload_n 0, 1) := by decide +kernel
theorem dX5_last_1 : decode cX5_last 1 = .ok (.iload_n 1, 1) := by decide +kernel
theorem dX5_last_2 : decode cX5_last 2 = .ok (.invokevirtual 25, 3) := by decide +kernel
theorem dX5_last_5 : decode cX5_last 5 = .ok (.istore_n 2, 1) := by decide +kernel
theorem dX5_last_6 : decode cX5_last 6 = .ok (.iload_n 2, 1) := by decide +kernel
theorem dX5_last_7 : decode cX5_last 7 = .ok (.ifCond .lt 21, 3) := by decide +kernel
theorem dX5_last_10 : decode cX5_last 10 = .ok (.iload_n 2, 1) := by decide +kernel
theorem dX5_last_11 : decode cX5_last 11 = .ok (.aload_n 0, 1) := by decide +kernel
theorem dX5_last_12 : decode cX5_last 12 = .ok (.getfield 11, 3) := by decide +kernel
theorem dX5_last_15 : decode cX5_last 15 = .ok (.arraylength, 1) := by decide +kernel
theorem dX5_last_16 : decode cX5_last 16 = .ok (.if_icmp .ge 12, 3) := by decide +kernel
theorem dX5_last_19 : decode cX5_last 19 = .ok (.aload_n 0, 1) := by decide +kernel
theorem dX5_last_20 : decode cX5_last 20 = .ok (.getfield 11, 3) := by decide +kernel
theorem dX5_last_23 : decode cX5_last 23 = .ok (.iload_n 2, 1) := by decide +kernel
theorem dX5_last_24 : decode cX5_last 24 = .ok (.iaload, 1) := by decide +kernel
theorem dX5_last_25 : decode cX5_last 25 = .ok (.goto 4, 3) := by decide +kernel
theorem dX5_last_28 : decode cX5_last 28 = .ok (.iconst 0, 1) := by decide +kernel
theorem dX5_last_29 : decode cX5_last 29 = .ok (.ireturn, 1) := by decide +kernel
theorem dX5_copyFrom_0 : decode cX5_copyFrom 0 = .ok (.iconst 0, 1) := by decide +kernel
theorem dX5_copyFrom_1 : decode cX5_copyFrom 1 = .ok (.istore_n 2, 1) := by decide +kernel
theorem dX5_copyFrom_2 : decode cX5_copyFrom 2 = .ok (.iload_n 2, 1) := by decide +kernel
theorem dX5_copyFrom_3 : decode cX5_copyFrom 3 = .ok (.bipush 112, 2) := by decide +kernel
theorem dX5_copyFrom_5 : decode cX5_copyFrom 5 = .ok (.if_icmp .ge 21, 3) := by decide +kernel
theorem dX5_copyFrom_8 : decode cX5_copyFrom 8 = .ok (.aload_n 0, 1) := by decide +kernel
theorem dX5_copyFrom_9 : decode cX5_copyFrom 9 = .ok (.getfield 11, 3) := by decide +kernel
theorem dX5_copyFrom_12 : decode cX5_copyFrom 12 = .ok (.iload_n 2, 1) := by decide +kernel
theorem dX5_copyFrom_13 : decode cX5_copyFrom 13 = .ok (.aload_n 1, 1) := by decide +kernel
theorem dX5_copyFrom_14 : decode cX5_copyFrom 14 = .ok (.getfield 11, 3) := by decide +kernel
theorem dX5_copyFrom_17 : decode cX5_copyFrom 17 = .ok (.iload_n 2, 1) := by decide +kernel
theorem dX5_copyFrom_18 : decode cX5_copyFrom 18 = .ok (.iaload, 1) := by decide +kernel
theorem dX5_copyFrom_19 : decode cX5_copyFrom 19 = .ok (.iastore, 1) := by decide +kernel
theorem dX5_copyFrom_20 : decode cX5_copyFrom 20 = .ok (.iinc 2 1, 3) := by decide +kernel
theorem dX5_copyFrom_23 : decode cX5_copyFrom 23 = .ok (.goto (-21), 3) := by decide +kernel
theorem dX5_copyFrom_26 : decode cX5_copyFrom 26 = .ok (.aload_n 0, 1) := by decide +kernel
theorem dX5_copyFrom_27 : decode cX5_copyFrom 27 = .ok (.aload_n 1, 1) := by decide +kernel
theorem dX5_copyFrom_28 : decode cX5_copyFrom 28 = .ok (.getfield 15, 3) := by decide +kernel
theorem dX5_copyFrom_31 : decode cX5_copyFrom 31 = .ok (.putfield 15, 3) := by decide +kernel
theorem dX5_copyFrom_34 : decode cX5_copyFrom 34 = .ok (.return_, 1) := by decide +kernel
theorem dX5_placeOf_0 : decode cX5_placeOf 0 = .ok (.aload_n 0, 1) := by decide +kernel
theorem dX5_placeOf_1 : decode cX5_placeOf 1 = .ok (.getfield 15, 3) := by decide +kernel
theorem dX5_placeOf_4 : decode cX5_placeOf 4 = .ok (.iconst 1, 1) := by decide +kernel
theorem dX5_placeOf_5 : decode cX5_placeOf 5 = .ok (.isub, 1) := by decide +kernel
theorem dX5_placeOf_6 : decode cX5_placeOf 6 = .ok (.bipush 14, 2) := by decide +kernel
theorem dX5_placeOf_8 : decode cX5_placeOf 8 = .ok (.imul, 1) := by decide +kernel
theorem dX5_placeOf_9 : decode cX5_placeOf 9 = .ok (.iload_n 1, 1) := by decide +kernel
theorem dX5_placeOf_10 : decode cX5_placeOf 10 = .ok (.iadd, 1) := by decide +kernel
theorem dX5_placeOf_11 : decode cX5_placeOf 11 = .ok (.ireturn, 1) := by decide +kernel
theorem dX6_init_0 : decode cX6_init 0 = .ok (.aload_n 0, 1) := by decide +kernel
theorem dX6_init_1 : decode cX6_init 1 = .ok (.invokespecial 1, 3) := by decide +kernel
theorem dX6_init_4 : decode cX6_init 4 = .ok (.return_, 1) := by decide +kernel
theorem dX6_weight_0 : decode cX6_weight 0 = .ok (.iload_n 1, 1) := by decide +kernel
theorem dX6_weight_1 : decode cX6_weight 1 = .ok (.iload_n 2, 1) := by decide +kernel
theorem dX6_weight_2 : decode cX6_weight 2 = .ok (.imul, 1) := by decide +kernel
theorem dX6_weight_3 : decode cX6_weight 3 = .ok (.ireturn, 1) := by decide +kernel
theorem dX6_loss_0 : decode cX6_loss 0 = .ok (.iload_n 1, 1) := by decide +kernel
theorem dX6_loss_1 : decode cX6_loss 1 = .ok (.ireturn, 1) := by decide +kernel
theorem dX7_init_0 : decode cX7_init 0 = .ok (.aload_n 0, 1) := by decide +kernel
theorem dX7_init_1 : decode cX7_init 1 = .ok (.invokespecial 3, 3) := by decide +kernel
theorem dX7_init_4 : decode cX7_init 4 = .ok (.aload_n 0, 1) := by decide +kernel
theorem dX7_init_5 : decode cX7_init 5 = .ok (.sipush 150, 3) := by decide +kernel
theorem dX7_init_8 : decode cX7_init 8 = .ok (.newarray .int, 2) := by decide +kernel
theorem dX7_init_10 : decode cX7_init 10 = .ok (.putfield 9, 3) := by decide +kernel
theorem dX7_init_13 : decode cX7_init 13 = .ok (.aload_n 0, 1) := by decide +kernel
theorem dX7_init_14 : decode cX7_init 14 = .ok (.iconst (-1), 1) := by decide +kernel
theorem dX7_init_15 : decode cX7_init 15 = .ok (.putfield 15, 3) := by decide +kernel
theorem dX7_init_18 : decode cX7_init 18 = .ok (.return_, 1) := by decide +kernel
theorem dX7_length_0 : decode cX7_length 0 = .ok (.aload_n 0, 1) := by decide +kernel
theorem dX7_length_1 : decode cX7_length 1 = .ok (.getfield 19, 3) := by decide +kernel
theorem dX7_length_4 : decode cX7_length 4 = .ok (.ireturn, 1) := by decide +kernel
theorem dX7_drop_0 : decode cX7_drop 0 = .ok (.aload_n 0, 1) := by decide +kernel
theorem dX7_drop_1 : decode cX7_drop 1 = .ok (.iconst 0, 1) := by decide +kernel
theorem dX7_drop_2 : decode cX7_drop 2 = .ok (.putfield 19, 3) := by decide +kernel
theorem dX7_drop_5 : decode cX7_drop 5 = .ok (.return_, 1) := by decide +kernel
theorem dX7_append_0 : decode cX7_append 0 = .ok (.aload_n 0, 1) := by decide +kernel
theorem dX7_append_1 : decode cX7_append 1 = .ok (.getfield 19, 3) := by decide +kernel
theorem dX7_append_4 : decode cX7_append 4 = .ok (.ifCond .lt 13, 3) := by decide +kernel
theorem dX7_append_7 : decode cX7_append 7 = .ok (.aload_n 0, 1) := by decide +kernel
theorem dX7_append_8 : decode cX7_append 8 = .ok (.getfield 19, 3) := by decide +kernel
theorem dX7_append_11 : decode cX7_append 11 = .ok (.sipush 150, 3) := by decide +kernel
theorem dX7_append_14 : decode cX7_append 14 = .ok (.if_icmp .lt 6, 3) := by decide +kernel
theorem dX7_append_17 : decode cX7_append 17 = .ok (.bipush (-4), 2) := by decide +kernel
theorem dX7_append_19 : decode cX7_append 19 = .ok (.ireturn, 1) := by decide +kernel
theorem dX7_append_20 : decode cX7_append 20 = .ok (.aload_n 0, 1) := by decide +kernel
theorem dX7_append_21 : decode cX7_append 21 = .ok (.getfield 9, 3) := by decide +kernel
theorem dX7_append_24 : decode cX7_append 24 = .ok (.aload_n 0, 1) := by decide +kernel
theorem dX7_append_25 : decode cX7_append 25 = .ok (.getfield 19, 3) := by decide +kernel
theorem dX7_append_28 : decode cX7_append 28 = .ok (.iload_n 1, 1) := by decide +kernel
theorem dX7_append_29 : decode cX7_append 29 = .ok (.iastore, 1) := by decide +kernel
theorem dX7_append_30 : decode cX7_append 30 = .ok (.aload_n 0, 1) := by decide +kernel
theorem dX7_append_31 : decode cX7_append 31 = .ok (.dup, 1) := by decide +kernel
theorem dX7_append_32 : decode cX7_append 32 = .ok (.getfield 19, 3) := by decide +kernel
theorem dX7_append_35 : decode cX7_append 35 = .ok (.iconst 1, 1) := by decide +kernel
theorem dX7_append_36 : decode cX7_append 36 = .ok (.iadd, 1) := by decide +kernel
theorem dX7_append_37 : decode cX7_append 37 = .ok (.putfield 19, 3) := by decide +kernel
theorem dX7_append_40 : decode cX7_append 40 = .ok (.aload_n 0, 1) := by decide +kernel
theorem dX7_append_41 : decode cX7_append 41 = .ok (.getfield 19, 3) := by decide +kernel
theorem dX7_append_44 : decode cX7_append 44 = .ok (.ireturn, 1) := by decide +kernel
theorem dX7_faultAt_0 : decode cX7_faultAt 0 = .ok (.aload_n 0, 1) := by decide +kernel
theorem dX7_faultAt_1 : decode cX7_faultAt 1 = .ok (.getfield 15, 3) := by decide +kernel
theorem dX7_faultAt_4 : decode cX7_faultAt 4 = .ok (.ireturn, 1) := by decide +kernel
theorem dX7_readInto_0 : decode cX7_readInto 0 = .ok (.aload_n 1, 1) := by decide +kernel
theorem dX7_readInto_1 : decode cX7_readInto 1 = .ok (.invokevirtual 22, 3) := by decide +kernel
theorem dX7_readInto_4 : decode cX7_readInto 4 = .ok (.aload_n 0, 1) := by decide +kernel
theorem dX7_readInto_5 : decode cX7_readInto 5 = .ok (.iconst (-1), 1) := by decide +kernel
theorem dX7_readInto_6 : decode cX7_readInto 6 = .ok (.putfield 15, 3) := by decide +kernel
theorem dX7_readInto_9 : decode cX7_readInto 9 = .ok (.aload_n 0, 1) := by decide +kernel
theorem dX7_readInto_10 : decode cX7_readInto 10 = .ok (.iconst 0, 1) := by decide +kernel
theorem dX7_readInto_11 : decode cX7_readInto 11 = .ok (.putfield 27, 3) := by decide +kernel
theorem dX7_readInto_14 : decode cX7_readInto 14 = .ok (.aload_n 0, 1) := by decide +kernel
theorem dX7_readInto_15 : decode cX7_readInto 15 = .ok (.invokevirtual 30, 3) := by decide +kernel
theorem dX7_readInto_18 : decode cX7_readInto 18 = .ok (.aload_n 0, 1) := by decide +kernel
theorem dX7_readInto_19 : decode cX7_readInto 19 = .ok (.invokevirtual 33, 3) := by decide +kernel
theorem dX7_readInto_22 : decode cX7_readInto 22 = .ok (.iconst 1, 1) := by decide +kernel
theorem dX7_readInto_23 : decode cX7_readInto 23 = .ok (.istore_n 2, 1) := by decide +kernel
theorem dX7_readInto_24 : decode cX7_readInto 24 = .ok (.iconst 0, 1) := by decide +kernel
theorem dX7_readInto_25 : decode cX7_readInto 25 = .ok (.istore_n 3, 1) := by decide +kernel
theorem dX7_readInto_26 : decode cX7_readInto 26 = .ok (.iload_n 3, 1) := by decide +kernel
theorem dX7_readInto_27 : decode cX7_readInto 27 = .ok (.sipush 150, 3) := by decide +kernel
theorem dX7_readInto_30 : decode cX7_readInto 30 = .ok (.if_icmp .ge 91, 3) := by decide +kernel
theorem dX7_readInto_33 : decode cX7_readInto 33 = .ok (.aload_n 0, 1) := by decide +kernel
theorem dX7_readInto_34 : decode cX7_readInto 34 = .ok (.getfield 15, 3) := by decide +kernel
theorem dX7_readInto_37 : decode cX7_readInto 37 = .ok (.iconst (-1), 1) := by decide +kernel
theorem dX7_readInto_38 : decode cX7_readInto 38 = .ok (.if_icmp .ne 83, 3) := by decide +kernel
theorem dX7_readInto_41 : decode cX7_readInto 41 = .ok (.aload_n 0, 1) := by decide +kernel
theorem dX7_readInto_42 : decode cX7_readInto 42 = .ok (.getfield 36, 3) := by decide +kernel
theorem dX7_readInto_45 : decode cX7_readInto 45 = .ok (.ifCond .eq 76, 3) := by decide +kernel
theorem dX7_readInto_48 : decode cX7_readInto 48 = .ok (.iinc 2 1, 3) := by decide +kernel
theorem dX7_readInto_51 : decode cX7_readInto 51 = .ok (.aload_n 0, 1) := by decide +kernel
theorem dX7_readInto_52 : decode cX7_readInto 52 = .ok (.ldc 39, 2) := by decide +kernel
theorem dX7_readInto_54 : decode cX7_readInto 54 = .ok (.invokevirtual 41, 3) := by decide +kernel
theorem dX7_readInto_57 : decode cX7_readInto 57 = .ok (.ifCond .eq 20, 3) := by decide +kernel
theorem dX7_readInto_60 : decode cX7_readInto 60 = .ok (.aload_n 1, 1) := by decide +kernel
theorem dX7_readInto_61 : decode cX7_readInto 61 = .ok (.invokevirtual 45, 3) := by decide +kernel
theorem dX7_readInto_64 : decode cX7_readInto 64 = .ok (.bipush 6, 2) := by decide +kernel
theorem dX7_readInto_66 : decode cX7_readInto 66 = .ok (.if_icmp .ge 11, 3) := by decide +kernel
theorem dX7_readInto_69 : decode cX7_readInto 69 = .ok (.aload_n 0, 1) := by decide +kernel
theorem dX7_readInto_70 : decode cX7_readInto 70 = .ok (.aload_n 1, 1) := by decide +kernel
theorem dX7_readInto_71 : decode cX7_readInto 71 = .ok (.invokevirtual 49, 3) := by decide +kernel
theorem dX7_readInto_74 : decode cX7_readInto 74 = .ok (.goto 41, 3) := by decide +kernel
theorem dX7_readInto_77 : decode cX7_readInto 77 = .ok (.aload_n 0, 1) := by decide +kernel
theorem dX7_readInto_78 : decode cX7_readInto 78 = .ok (.ldc 53, 2) := by decide +kernel
theorem dX7_readInto_80 : decode cX7_readInto 80 = .ok (.invokevirtual 41, 3) := by decide +kernel
theorem dX7_readInto_83 : decode cX7_readInto 83 = .ok (.ifCond .eq 11, 3) := by decide +kernel
theorem dX7_readInto_86 : decode cX7_readInto 86 = .ok (.aload_n 0, 1) := by decide +kernel
theorem dX7_readInto_87 : decode cX7_readInto 87 = .ok (.aload_n 1, 1) := by decide +kernel
theorem dX7_readInto_88 : decode cX7_readInto 88 = .ok (.invokevirtual 55, 3) := by decide +kernel
theorem dX7_readInto_91 : decode cX7_readInto 91 = .ok (.goto 24, 3) := by decide +kernel
theorem dX7_readInto_94 : decode cX7_readInto 94 = .ok (.aload_n 0, 1) := by decide +kernel
theorem dX7_readInto_95 : decode cX7_readInto 95 = .ok (.ldc 58, 2) := by decide +kernel
theorem dX7_readInto_97 : decode cX7_readInto 97 = .ok (.invokevirtual 41, 3) := by decide +kernel
theorem dX7_readInto_100 : decode cX7_readInto 100 = .ok (.ifCond .eq 11, 3) := by decide +kernel
theorem dX7_readInto_103 : decode cX7_readInto 103 = .ok (.aload_n 0, 1) := by decide +kernel
theorem dX7_readInto_104 : decode cX7_readInto 104 = .ok (.aload_n 1, 1) := by decide +kernel
theorem dX7_readInto_105 : decode cX7_readInto 105 = .ok (.invokevirtual 60, 3) := by decide +kernel
theorem dX7_readInto_108 : decode cX7_readInto 108 = .ok (.goto 7, 3) := by decide +kernel
theorem dX7_readInto_111 : decode cX7_readInto 111 = .ok (.aload_n 0, 1) := by decide +kernel
theorem dX7_readInto_112 : decode cX7_readInto 112 = .ok (.invokevirtual 63, 3) := by decide +kernel
theorem dX7_readInto_115 : decode cX7_readInto 115 = .ok (.iinc 3 1, 3) := by decide +kernel
theorem dX7_readInto_118 : decode cX7_readInto 118 = .ok (.goto (-92), 3) := by decide +kernel
theorem dX7_readInto_121 : decode cX7_readInto 121 = .ok (.iload_n 2, 1) := by decide +kernel
theorem dX7_readInto_122 : decode cX7_readInto 122 = .ok (.ireturn, 1) := by decide +kernel
theorem dX7_takeGold_0 : decode cX7_takeGold 0 = .ok (.aload_n 0, 1) := by decide +kernel
theorem dX7_takeGold_1 : decode cX7_takeGold 1 = .ok (.ldc 66, 2) := by decide +kernel
theorem dX7_takeGold_3 : decode cX7_takeGold 3 = .ok (.invokevirtual 41, 3) := by decide +kernel
theorem dX7_takeGold_6 : decode cX7_takeGold 6 = .ok (.ifCond .ne 8, 3) := by decide +kernel
theorem dX7_takeGold_9 : decode cX7_takeGold 9 = .ok (.aload_n 0, 1) := by decide +kernel
theorem dX7_takeGold_10 : decode cX7_takeGold 10 = .ok (.invokevirtual 63, 3) := by decide +kernel
theorem dX7_takeGold_13 : decode cX7_takeGold 13 = .ok (.return_, 1) := by decide +kernel
theorem dX7_takeGold_14 : decode cX7_takeGold 14 = .ok (.aload_n 0, 1) := by decide +kernel
theorem dX7_takeGold_15 : decode cX7_takeGold 15 = .ok (.invokevirtual 30, 3) := by decide +kernel
theorem dX7_takeGold_18 : decode cX7_takeGold 18 = .ok (.aload_n 0, 1) := by decide +kernel
theorem dX7_takeGold_19 : decode cX7_takeGold 19 = .ok (.invokevirtual 68, 3) := by decide +kernel
theorem dX7_takeGold_22 : decode cX7_takeGold 22 = .ok (.return_, 1) := by decide +kernel
theorem dX7_takeOne_0 : decode cX7_takeOne 0 = .ok (.aload_n 0, 1) := by decide +kernel
theorem dX7_takeOne_1 : decode cX7_takeOne 1 = .ok (.invokevirtual 30, 3) := by decide +kernel
theorem dX7_takeOne_4 : decode cX7_takeOne 4 = .ok (.aload_n 0, 1) := by decide +kernel
theorem dX7_takeOne_5 : decode cX7_takeOne 5 = .ok (.iconst 0, 1) := by decide +kernel
theorem dX7_takeOne_6 : decode cX7_takeOne 6 = .ok (.iconst 5, 1) := by decide +kernel
theorem dX7_takeOne_7 : decode cX7_takeOne 7 = .ok (.invokevirtual 71, 3) := by decide +kernel
theorem dX7_takeOne_10 : decode cX7_takeOne 10 = .ok (.istore_n 2, 1) := by decide +kernel
theorem dX7_takeOne_11 : decode cX7_takeOne 11 = .ok (.aload_n 0, 1) := by decide +kernel
theorem dX7_takeOne_12 : decode cX7_takeOne 12 = .ok (.iconst 0, 1) := by decide +kernel
theorem dX7_takeOne_13 : decode cX7_takeOne 13 = .ok (.bipush 12, 2) := by decide +kernel
theorem dX7_takeOne_15 : decode cX7_takeOne 15 = .ok (.invokevirtual 71, 3) := by decide +kernel
theorem dX7_takeOne_18 : decode cX7_takeOne 18 = .ok (.istore_n 3, 1) := by decide +kernel
theorem dX7_takeOne_19 : decode cX7_takeOne 19 = .ok (.aload_n 0, 1) := by decide +kernel
theorem dX7_takeOne_20 : decode cX7_takeOne 20 = .ok (.iconst 0, 1) := by decide +kernel
theorem dX7_takeOne_21 : decode cX7_takeOne 21 = .ok (.bipush 30, 2) := by decide +kernel
theorem dX7_takeOne_23 : decode cX7_takeOne 23 = .ok (.invokevirtual 71, 3) := by decide +kernel
theorem dX7_takeOne_26 : decode cX7_takeOne 26 = .ok (.istore 4, 2) := by decide +kernel
theorem dX7_takeOne_28 : decode cX7_takeOne 28 = .ok (.aload_n 0, 1) := by decide +kernel
theorem dX7_takeOne_29 : decode cX7_takeOne 29 = .ok (.iconst 0, 1) := by decide +kernel
theorem dX7_takeOne_30 : decode cX7_takeOne 30 = .ok (.bipush 20, 2) := by decide +kernel
theorem dX7_takeOne_32 : decode cX7_takeOne 32 = .ok (.invokevirtual 71, 3) := by decide +kernel
theorem dX7_takeOne_35 : decode cX7_takeOne 35 = .ok (.istore 5, 2) := by decide +kernel
theorem dX7_takeOne_37 : decode cX7_takeOne 37 = .ok (.aload_n 0, 1) := by decide +kernel
theorem dX7_takeOne_38 : decode cX7_takeOne 38 = .ok (.invokevirtual 68, 3) := by decide +kernel
theorem dX7_takeOne_41 : decode cX7_takeOne 41 = .ok (.aload_n 1, 1) := by decide +kernel
theorem dX7_takeOne_42 : decode cX7_takeOne 42 = .ok (.iload_n 2, 1) := by decide +kernel
theorem dX7_takeOne_43 : decode cX7_takeOne 43 = .ok (.iload_n 3, 1) := by decide +kernel
theorem dX7_takeOne_44 : decode cX7_takeOne 44 = .ok (.iload 4, 2) := by decide +kernel
theorem dX7_takeOne_46 : decode cX7_takeOne 46 = .ok (.iload 5, 2) := by decide +kernel
theorem dX7_takeOne_48 : decode cX7_takeOne 48 = .ok (.invokevirtual 75, 3) := by decide +kernel
theorem dX7_takeOne_51 : decode cX7_takeOne 51 = .ok (.pop, 1) := by decide +kernel
theorem dX7_takeOne_52 : decode cX7_takeOne 52 = .ok (.return_, 1) := by decide +kernel
theorem dX7_takeHands_0 : decode cX7_takeHands 0 = .ok (.aload_n 0, 1) := by decide +kernel
theorem dX7_takeHands_1 : decode cX7_takeHands 1 = .ok (.invokevirtual 30, 3) := by decide +kernel
theorem dX7_takeHands_4 : decode cX7_takeHands 4 = .ok (.aload_n 1, 1) := by decide +kernel
theorem dX7_takeHands_5 : decode cX7_takeHands 5 = .ok (.invokevirtual 45, 3) := by decide +kernel
theorem dX7_takeHands_8 : decode cX7_takeHands 8 = .ok (.iconst 1, 1) := by decide +kernel
theorem dX7_takeHands_9 : decode cX7_takeHands 9 = .ok (.isub, 1) := by decide +kernel
theorem dX7_takeHands_10 : decode cX7_takeHands 10 = .ok (.istore_n 2, 1) := by decide +kernel
theorem dX7_takeHands_11 : decode cX7_takeHands 11 = .ok (.aload_n 0, 1) := by decide +kernel
theorem dX7_takeHands_12 : decode cX7_takeHands 12 = .ok (.iconst 0, 1) := by decide +kernel
theorem dX7_takeHands_13 : decode cX7_takeHands 13 = .ok (.iload_n 2, 1) := by decide +kernel
theorem dX7_takeHands_14 : decode cX7_takeHands 14 = .ok (.invokevirtual 71, 3) := by decide +kernel
theorem dX7_takeHands_17 : decode cX7_takeHands 17 = .ok (.istore_n 3, 1) := by decide +kernel
theorem dX7_takeHands_18 : decode cX7_takeHands 18 = .ok (.iconst 0, 1) := by decide +kernel
theorem dX7_takeHands_19 : decode cX7_takeHands 19 = .ok (.istore 4, 2) := by decide +kernel
theorem dX7_takeHands_21 : decode cX7_takeHands 21 = .ok (.iconst 0, 1) := by decide +kernel
theorem dX7_takeHands_22 : decode cX7_takeHands 22 = .ok (.istore 5, 2) := by decide +kernel
theorem dX7_takeHands_24 : decode cX7_takeHands 24 = .ok (.iload 5, 2) := by decide +kernel
theorem dX7_takeHands_26 : decode cX7_takeHands 26 = .ok (.sipush 150, 3) := by decide +kernel
theorem dX7_takeHands_29 : decode cX7_takeHands 29 = .ok (.if_icmp .ge 53, 3) := by decide +kernel
theorem dX7_takeHands_32 : decode cX7_takeHands 32 = .ok (.aload_n 0, 1) := by decide +kernel
theorem dX7_takeHands_33 : decode cX7_takeHands 33 = .ok (.getfield 15, 3) := by decide +kernel
theorem dX7_takeHands_36 : decode cX7_takeHands 36 = .ok (.iconst (-1), 1) := by decide +kernel
theorem dX7_takeHands_37 : decode cX7_takeHands 37 = .ok (.if_icmp .ne 45, 3) := by decide +kernel
theorem dX7_takeHands_40 : decode cX7_takeHands 40 = .ok (.aload_n 0, 1) := by decide +kernel
theorem dX7_takeHands_41 : decode cX7_takeHands 41 = .ok (.getfield 36, 3) := by decide +kernel
theorem dX7_takeHands_44 : decode cX7_takeHands 44 = .ok (.iconst 2, 1) := by decide +kernel
theorem dX7_takeHands_45 : decode cX7_takeHands 45 = .ok (.if_icmp .ne 37, 3) := by decide +kernel
theorem dX7_takeHands_48 : decode cX7_takeHands 48 = .ok (.aload_n 0, 1) := by decide +kernel
theorem dX7_takeHands_49 : decode cX7_takeHands 49 = .ok (.getfield 79, 3) := by decide +kernel
theorem dX7_takeHands_52 : decode cX7_takeHands 52 = .ok (.iload_n 3, 1) := by decide +kernel
theorem dX7_takeHands_53 : decode cX7_takeHands 53 = .ok (.if_icmp .ne 10, 3) := by decide +kernel
theorem dX7_takeHands_56 : decode cX7_takeHands 56 = .ok (.aload_n 0, 1) := by decide +kernel
theorem dX7_takeHands_57 : decode cX7_takeHands 57 = .ok (.invokevirtual 63, 3) := by decide +kernel
theorem dX7_takeHands_60 : decode cX7_takeHands 60 = .ok (.goto 16, 3) := by decide +kernel
theorem dX7_takeHands_63 : decode cX7_takeHands 63 = .ok (.iload 4, 2) := by decide +kernel
theorem dX7_takeHands_65 : decode cX7_takeHands 65 = .ok (.iconst 1, 1) := by decide +kernel
theorem dX7_takeHands_66 : decode cX7_takeHands 66 = .ok (.aload_n 0, 1) := by decide +kernel
theorem dX7_takeHands_67 : decode cX7_takeHands 67 = .ok (.iconst 0, 1) := by decide +kernel
theorem dX7_takeHands_68 : decode cX7_takeHands 68 = .ok (.iload_n 2, 1) := by decide +kernel
theorem dX7_takeHands_69 : decode cX7_takeHands 69 = .ok (.invokevirtual 71, 3) := by decide +kernel
theorem dX7_takeHands_72 : decode cX7_takeHands 72 = .ok (.ishl, 1) := by decide +kernel
theorem dX7_takeHands_73 : decode cX7_takeHands 73 = .ok (.ior, 1) := by decide +kernel
theorem dX7_takeHands_74 : decode cX7_takeHands 74 = .ok (.istore 4, 2) := by decide +kernel
theorem dX7_takeHands_76 : decode cX7_takeHands 76 = .ok (.iinc 5 1, 3) := by decide +kernel
theorem dX7_takeHands_79 : decode cX7_takeHands 79 = .ok (.goto (-55), 3) := by decide +kernel
theorem dX7_takeHands_82 : decode cX7_takeHands 82 = .ok (.aload_n 0, 1) := by decide +kernel
theorem dX7_takeHands_83 : decode cX7_takeHands 83 = .ok (.invokevirtual 68, 3) := by decide +kernel
theorem dX7_takeHands_86 : decode cX7_takeHands 86 = .ok (.aload_n 1, 1) := by decide +kernel
theorem dX7_takeHands_87 : decode cX7_takeHands 87 = .ok (.iload_n 3, 1) := by decide +kernel
theorem dX7_takeHands_88 : decode cX7_takeHands 88 = .ok (.iload 4, 2) := by decide +kernel
theorem dX7_takeHands_90 : decode cX7_takeHands 90 = .ok (.invokevirtual 82, 3) := by decide +kernel
theorem dX7_takeHands_93 : decode cX7_takeHands 93 = .ok (.return_, 1) := by decide +kernel
theorem dX7_takeLie_0 : decode cX7_takeLie 0 = .ok (.aload_n 0, 1) := by decide +kernel
theorem dX7_takeLie_1 : decode cX7_takeLie 1 = .ok (.invokevirtual 30, 3) := by decide +kernel
theorem dX7_takeLie_4 : decode cX7_takeLie 4 = .ok (.aload_n 0, 1) := by decide +kernel
theorem dX7_takeLie_5 : decode cX7_takeLie 5 = .ok (.iconst 0, 1) := by decide +kernel
theorem dX7_takeLie_6 : decode cX7_takeLie 6 = .ok (.aload_n 1, 1) := by decide +kernel
theorem dX7_takeLie_7 : decode cX7_takeLie 7 = .ok (.invokevirtual 45, 3) := by decide +kernel
theorem dX7_takeLie_10 : decode cX7_takeLie 10 = .ok (.iconst 1, 1) := by decide +kernel
theorem dX7_takeLie_11 : decode cX7_takeLie 11 = .ok (.isub, 1) := by decide +kernel
theorem dX7_takeLie_12 : decode cX7_takeLie 12 = .ok (.invokevirtual 71, 3) := by decide +kernel
theorem dX7_takeLie_15 : decode cX7_takeLie 15 = .ok (.istore_n 2, 1) := by decide +kernel
theorem dX7_takeLie_16 : decode cX7_takeLie 16 = .ok (.aload_n 0, 1) := by decide +kernel
theorem dX7_takeLie_17 : decode cX7_takeLie 17 = .ok (.iconst 1, 1) := by decide +kernel
theorem dX7_takeLie_18 : decode cX7_takeLie 18 = .ok (.iconst 4, 1) := by decide +kernel
theorem dX7_takeLie_19 : decode cX7_takeLie 19 = .ok (.invokevirtual 71, 3) := by decide +kernel
theorem dX7_takeLie_22 : decode cX7_takeLie 22 = .ok (.istore_n 3, 1) := by decide +kernel
theorem dX7_takeLie_23 : decode cX7_takeLie 23 = .ok (.aload_n 0, 1) := by decide +kernel
theorem dX7_takeLie_24 : decode cX7_takeLie 24 = .ok (.invokevirtual 68, 3) := by decide +kernel
theorem dX7_takeLie_27 : decode cX7_takeLie 27 = .ok (.aload_n 1, 1) := by decide +kernel
theorem dX7_takeLie_28 : decode cX7_takeLie 28 = .ok (.iload_n 2, 1) := by decide +kernel
theorem dX7_takeLie_29 : decode cX7_takeLie 29 = .ok (.iload_n 3, 1) := by decide +kernel
theorem dX7_takeLie_30 : decode cX7_takeLie 30 = .ok (.invokevirtual 86, 3) := by decide +kernel
theorem dX7_takeLie_33 : decode cX7_takeLie 33 = .ok (.return_, 1) := by decide +kernel
theorem dX7_takeNumber_0 : decode cX7_takeNumber 0 = .ok (.aload_n 0, 1) := by decide +kernel
theorem dX7_takeNumber_1 : decode cX7_takeNumber 1 = .ok (.getfield 36, 3) := by decide +kernel
theorem dX7_takeNumber_4 : decode cX7_takeNumber 4 = .ok (.iconst 2, 1) := by decide +kernel
theorem dX7_takeNumber_5 : decode cX7_takeNumber 5 = .ok (.if_icmp .ne 19, 3) := by decide +kernel
theorem dX7_takeNumber_8 : decode cX7_takeNumber 8 = .ok (.aload_n 0, 1) := by decide +kernel
theorem dX7_takeNumber_9 : decode cX7_takeNumber 9 = .ok (.getfield 79, 3) := by decide +kernel
theorem dX7_takeNumber_12 : decode cX7_takeNumber 12 = .ok (.iload_n 1, 1) := by decide +kernel
theorem dX7_takeNumber_13 : decode cX7_takeNumber 13 = .ok (.if_icmp .lt 11, 3) := by decide +kernel
theorem dX7_takeNumber_16 : decode cX7_takeNumber 16 = .ok (.aload_n 0, 1) := by decide +kernel
theorem dX7_takeNumber_17 : decode cX7_takeNumber 17 = .ok (.getfield 79, 3) := by decide +kernel
theorem dX7_takeNumber_20 : decode cX7_takeNumber 20 = .ok (.iload_n 2, 1) := by decide +kernel
theorem dX7_takeNumber_21 : decode cX7_takeNumber 21 = .ok (.if_icmp .le 7, 3) := by decide +kernel
theorem dX7_takeNumber_24 : decode cX7_takeNumber 24 = .ok (.aload_n 0, 1) := by decide +kernel
theorem dX7_takeNumber_25 : decode cX7_takeNumber 25 = .ok (.invokevirtual 63, 3) := by decide +kernel
theorem dX7_takeNumber_28 : decode cX7_takeNumber 28 = .ok (.aload_n 0, 1) := by decide +kernel
theorem dX7_takeNumber_29 : decode cX7_takeNumber 29 = .ok (.getfield 15, 3) := by decide +kernel
theorem dX7_takeNumber_32 : decode cX7_takeNumber 32 = .ok (.iconst (-1), 1) := by decide +kernel
theorem dX7_takeNumber_33 : decode cX7_takeNumber 33 = .ok (.if_icmp .eq 5, 3) := by decide +kernel
theorem dX7_takeNumber_36 : decode cX7_takeNumber 36 = .ok (.iconst 0, 1) := by decide +kernel
theorem dX7_takeNumber_37 : decode cX7_takeNumber 37 = .ok (.ireturn, 1) := by decide +kernel
theorem dX7_takeNumber_38 : decode cX7_takeNumber 38 = .ok (.aload_n 0, 1) := by decide +kernel
theorem dX7_takeNumber_39 : decode cX7_takeNumber 39 = .ok (.getfield 79, 3) := by decide +kernel
theorem dX7_takeNumber_42 : decode cX7_takeNumber 42 = .ok (.istore_n 3, 1) := by decide +kernel
theorem dX7_takeNumber_43 : decode cX7_takeNumber 43 = .ok (.aload_n 0, 1) := by decide +kernel
theorem dX7_takeNumber_44 : decode cX7_takeNumber 44 = .ok (.invokevirtual 30, 3) := by decide +kernel
theorem dX7_takeNumber_47 : decode cX7_takeNumber 47 = .ok (.iload_n 3, 1) := by decide +kernel
theorem dX7_takeNumber_48 : decode cX7_takeNumber 48 = .ok (.ireturn, 1) := by decide +kernel
theorem dX7_takeStop_0 : decode cX7_takeStop 0 = .ok (.aload_n 0, 1) := by decide +kernel
theorem dX7_takeStop_1 : decode cX7_takeStop 1 = .ok (.getfield 36, 3) := by decide +kernel
theorem dX7_takeStop_4 : decode cX7_takeStop 4 = .ok (.iconst 3, 1) := by decide +kernel
theorem dX7_takeStop_5 : decode cX7_takeStop 5 = .ok (.if_icmp .eq 7, 3) := by decide +kernel
theorem dX7_takeStop_8 : decode cX7_takeStop 8 = .ok (.aload_n 0, 1) := by decide +kernel
theorem dX7_takeStop_9 : decode cX7_takeStop 9 = .ok (.invokevirtual 63, 3) := by decide +kernel
theorem dX7_takeStop_12 : decode cX7_takeStop 12 = .ok (.aload_n 0, 1) := by decide +kernel
theorem dX7_takeStop_13 : decode cX7_takeStop 13 = .ok (.getfield 15, 3) := by decide +kernel
theorem dX7_takeStop_16 : decode cX7_takeStop 16 = .ok (.iconst (-1), 1) := by decide +kernel
theorem dX7_takeStop_17 : decode cX7_takeStop 17 = .ok (.if_icmp .ne 7, 3) := by decide +kernel
theorem dX7_takeStop_20 : decode cX7_takeStop 20 = .ok (.aload_n 0, 1) := by decide +kernel
theorem dX7_takeStop_21 : decode cX7_takeStop 21 = .ok (.invokevirtual 30, 3) := by decide +kernel
theorem dX7_takeStop_24 : decode cX7_takeStop 24 = .ok (.return_, 1) := by decide +kernel
theorem dX7_failHere_0 : decode cX7_failHere 0 = .ok (.aload_n 0, 1) := by decide +kernel
theorem dX7_failHere_1 : decode cX7_failHere 1 = .ok (.getfield 15, 3) := by decide +kernel
theorem dX7_failHere_4 : decode cX7_failHere 4 = .ok (.iconst (-1), 1) := by decide +kernel
theorem dX7_failHere_5 : decode cX7_failHere 5 = .ok (.if_icmp .ne 11, 3) := by decide +kernel
theorem dX7_failHere_8 : decode cX7_failHere 8 = .ok (.aload_n 0, 1) := by decide +kernel
theorem dX7_failHere_9 : decode cX7_failHere 9 = .ok (.aload_n 0, 1) := by decide +kernel
theorem dX7_failHere_10 : decode cX7_failHere 10 = .ok (.getfield 89, 3) := by decide +kernel
theorem dX7_failHere_13 : decode cX7_failHere 13 = .ok (.putfield 15, 3) := by decide +kernel
theorem dX7_failHere_16 : decode cX7_failHere 16 = .ok (.return_, 1) := by decide +kernel
theorem dX7_isWord_0 : decode cX7_isWord 0 = .ok (.aload_n 0, 1) := by decide +kernel
theorem dX7_isWord_1 : decode cX7_isWord 1 = .ok (.getfield 36, 3) := by decide +kernel
theorem dX7_isWord_4 : decode cX7_isWord 4 = .ok (.iconst 1, 1) := by decide +kernel
theorem dX7_isWord_5 : decode cX7_isWord 5 = .ok (.if_icmp .ne 19, 3) := by decide +kernel
theorem dX7_isWord_8 : decode cX7_isWord 8 = .ok (.aload_n 0, 1) := by decide +kernel
theorem dX7_isWord_9 : decode cX7_isWord 9 = .ok (.getfield 27, 3) := by decide +kernel
theorem dX7_isWord_12 : decode cX7_isWord 12 = .ok (.aload_n 0, 1) := by decide +kernel
theorem dX7_isWord_13 : decode cX7_isWord 13 = .ok (.getfield 89, 3) := by decide +kernel
theorem dX7_isWord_16 : decode cX7_isWord 16 = .ok (.isub, 1) := by decide +kernel
theorem dX7_isWord_17 : decode cX7_isWord 17 = .ok (.aload_n 1, 1) := by decide +kernel
theorem dX7_isWord_18 : decode cX7_isWord 18 = .ok (.invokevirtual 92, 3) := by decide +kernel
theorem dX7_isWord_21 : decode cX7_isWord 21 = .ok (.if_icmp .eq 5, 3) := by decide +kernel
theorem dX7_isWord_24 : decode cX7_isWord 24 = .ok (.iconst 0, 1) := by decide +kernel
theorem dX7_isWord_25 : decode cX7_isWord 25 = .ok (.ireturn, 1) := by decide +kernel
theorem dX7_isWord_26 : decode cX7_isWord 26 = .ok (.iconst 0, 1) := by decide +kernel
theorem dX7_isWord_27 : decode cX7_isWord 27 = .ok (.istore_n 2, 1) := by decide +kernel
theorem dX7_isWord_28 : decode cX7_isWord 28 = .ok (.iload_n 2, 1) := by decide +kernel
theorem dX7_isWord_29 : decode cX7_isWord 29 = .ok (.aload_n 1, 1) := by decide +kernel
theorem dX7_isWord_30 : decode cX7_isWord 30 = .ok (.invokevirtual 92, 3) := by decide +kernel
theorem dX7_isWord_33 : decode cX7_isWord 33 = .ok (.if_icmp .ge 29, 3) := by decide +kernel
theorem dX7_isWord_36 : decode cX7_isWord 36 = .ok (.aload_n 0, 1) := by decide +kernel
theorem dX7_isWord_37 : decode cX7_isWord 37 = .ok (.aload_n 0, 1) := by decide +kernel
theorem dX7_isWord_38 : decode cX7_isWord 38 = .ok (.getfield 89, 3) := by decide +kernel
theorem dX7_isWord_41 : decode cX7_isWord 41 = .ok (.iload_n 2, 1) := by decide +kernel
theorem dX7_isWord_42 : decode cX7_isWord 42 = .ok (.iadd, 1) := by decide +kernel
theorem dX7_isWord_43 : decode cX7_isWord 43 = .ok (.invokevirtual 96, 3) := by decide +kernel
theorem dX7_isWord_46 : decode cX7_isWord 46 = .ok (.aload_n 1, 1) := by decide +kernel
theorem dX7_isWord_47 : decode cX7_isWord 47 = .ok (.iload_n 2, 1) := by decide +kernel
theorem dX7_isWord_48 : decode cX7_isWord 48 = .ok (.invokevirtual 100, 3) := by decide +kernel
theorem dX7_isWord_51 : decode cX7_isWord 51 = .ok (.if_icmp .eq 5, 3) := by decide +kernel
theorem dX7_isWord_54 : decode cX7_isWord 54 = .ok (.iconst 0, 1) := by decide +kernel
theorem dX7_isWord_55 : decode cX7_isWord 55 = .ok (.ireturn, 1) := by decide +kernel
theorem dX7_isWord_56 : decode cX7_isWord 56 = .ok (.iinc 2 1, 3) := by decide +kernel
theorem dX7_isWord_59 : decode cX7_isWord 59 = .ok (.goto (-31), 3) := by decide +kernel
theorem dX7_isWord_62 : decode cX7_isWord 62 = .ok (.iconst 1, 1) := by decide +kernel
theorem dX7_isWord_63 : decode cX7_isWord 63 = .ok (.ireturn, 1) := by decide +kernel
theorem dX7_step_0 : decode cX7_step 0 = .ok (.aload_n 0, 1) := by decide +kernel
theorem dX7_step_1 : decode cX7_step 1 = .ok (.aload_n 0, 1) := by decide +kernel
theorem dX7_step_2 : decode cX7_step 2 = .ok (.aload_n 0, 1) := by decide +kernel
theorem dX7_step_3 : decode cX7_step 3 = .ok (.getfield 27, 3) := by decide +kernel
theorem dX7_step_6 : decode cX7_step 6 = .ok (.bipush 32, 2) := by decide +kernel
theorem dX7_step_8 : decode cX7_step 8 = .ok (.bipush 32, 2) := by decide +kernel
theorem dX7_step_10 : decode cX7_step 10 = .ok (.invokevirtual 104, 3) := by decide +kernel
theorem dX7_step_13 : decode cX7_step 13 = .ok (.putfield 89, 3) := by decide +kernel
theorem dX7_step_16 : decode cX7_step 16 = .ok (.aload_n 0, 1) := by decide +kernel
theorem dX7_step_17 : decode cX7_step 17 = .ok (.aload_n 0, 1) := by decide +kernel
theorem dX7_step_18 : decode cX7_step 18 = .ok (.getfield 89, 3) := by decide +kernel
theorem dX7_step_21 : decode cX7_step 21 = .ok (.invokevirtual 96, 3) := by decide +kernel
theorem dX7_step_24 : decode cX7_step 24 = .ok (.istore_n 1, 1) := by decide +kernel
theorem dX7_step_25 : decode cX7_step 25 = .ok (.iload_n 1, 1) := by decide +kernel
theorem dX7_step_26 : decode cX7_step 26 = .ok (.iconst (-1), 1) := by decide +kernel
theorem dX7_step_27 : decode cX7_step 27 = .ok (.if_icmp .ne 19, 3) := by decide +kernel
theorem dX7_step_30 : decode cX7_step 30 = .ok (.aload_n 0, 1) := by decide +kernel
theorem dX7_step_31 : decode cX7_step 31 = .ok (.iconst 0, 1) := by decide +kernel
theorem dX7_step_32 : decode cX7_step 32 = .ok (.putfield 36, 3) := by decide +kernel
theorem dX7_step_35 : decode cX7_step 35 = .ok (.aload_n 0, 1) := by decide +kernel
theorem dX7_step_36 : decode cX7_step 36 = .ok (.aload_n 0, 1) := by decide +kernel
theorem dX7_step_37 : decode cX7_step 37 = .ok (.getfield 89, 3) := by decide +kernel
theorem dX7_step_40 : decode cX7_step 40 = .ok (.putfield 27, 3) := by decide +kernel
theorem dX7_step_43 : decode cX7_step 43 = .ok (.goto 116, 3) := by decide +kernel
theorem dX7_step_46 : decode cX7_step 46 = .ok (.iload_n 1, 1) := by decide +kernel
theorem dX7_step_47 : decode cX7_step 47 = .ok (.bipush 97, 2) := by decide +kernel
theorem dX7_step_49 : decode cX7_step 49 = .ok (.if_icmp .lt 33, 3) := by decide +kernel
theorem dX7_step_52 : decode cX7_step 52 = .ok (.iload_n 1, 1) := by decide +kernel
theorem dX7_step_53 : decode cX7_step 53 = .ok (.bipush 122, 2) := by decide +kernel
theorem dX7_step_55 : decode cX7_step 55 = .ok (.if_icmp .gt 27, 3) := by decide +kernel
theorem dX7_step_58 : decode cX7_step 58 = .ok (.aload_n 0, 1) := by decide +kernel
theorem dX7_step_59 : decode cX7_step 59 = .ok (.iconst 1, 1) := by decide +kernel
theorem dX7_step_60 : decode cX7_step 60 = .ok (.putfield 36, 3) := by decide +kernel
theorem dX7_step_63 : decode cX7_step 63 = .ok (.aload_n 0, 1) := by decide +kernel
theorem dX7_step_64 : decode cX7_step 64 = .ok (.aload_n 0, 1) := by decide +kernel
theorem dX7_step_65 : decode cX7_step 65 = .ok (.aload_n 0, 1) := by decide +kernel
theorem dX7_step_66 : decode cX7_step 66 = .ok (.getfield 89, 3) := by decide +kernel
theorem dX7_step_69 : decode cX7_step 69 = .ok (.bipush 97, 2) := by decide +kernel
theorem dX7_step_71 : decode cX7_step 71 = .ok (.bipush 122, 2) := by decide +kernel
theorem dX7_step_73 : decode cX7_step 73 = .ok (.invokevirtual 104, 3) := by decide +kernel
theorem dX7_step_76 : decode cX7_step 76 = .ok (.putfield 27, 3) := by decide +kernel
theorem dX7_step_79 : decode cX7_step 79 = .ok (.goto 80, 3) := by decide +kernel
theorem dX7_step_82 : decode cX7_step 82 = .ok (.iload_n 1, 1) := by decide +kernel
theorem dX7_step_83 : decode cX7_step 83 = .ok (.bipush 48, 2) := by decide +kernel
theorem dX7_step_85 : decode cX7_step 85 = .ok (.if_icmp .lt 49, 3) := by decide +kernel
theorem dX7_step_88 : decode cX7_step 88 = .ok (.iload_n 1, 1) := by decide +kernel
theorem dX7_step_89 : decode cX7_step 89 = .ok (.bipush 57, 2) := by decide +kernel
theorem dX7_step_91 : decode cX7_step 91 = .ok (.if_icmp .gt 43, 3) := by decide +kernel
theorem dX7_step_94 : decode cX7_step 94 = .ok (.aload_n 0, 1) := by decide +kernel
theorem dX7_step_95 : decode cX7_step 95 = .ok (.iconst 2, 1) := by decide +kernel
theorem dX7_step_96 : decode cX7_step 96 = .ok (.putfield 36, 3) := by decide +kernel
theorem dX7_step_99 : decode cX7_step 99 = .ok (.aload_n 0, 1) := by decide +kernel
theorem dX7_step_100 : decode cX7_step 100 = .ok (.aload_n 0, 1) := by decide +kernel
theorem dX7_step_101 : decode cX7_step 101 = .ok (.aload_n 0, 1) := by decide +kernel
theorem dX7_step_102 : decode cX7_step 102 = .ok (.getfield 89, 3) := by decide +kernel
theorem dX7_step_105 : decode cX7_step 105 = .ok (.bipush 48, 2) := by decide +kernel
theorem dX7_step_107 : decode cX7_step 107 = .ok (.bipush 57, 2) := by decide +kernel
theorem dX7_step_109 : decode cX7_step 109 = .ok (.invokevirtual 104, 3) := by decide +kernel
theorem dX7_step_112 : decode cX7_step 112 = .ok (.putfield 27, 3) := by decide +kernel
theorem dX7_step_115 : decode cX7_step 115 = .ok (.aload_n 0, 1) := by decide +kernel
theorem dX7_step_116 : decode cX7_step 116 = .ok (.aload_n 0, 1) := by decide +kernel
theorem dX7_step_117 : decode cX7_step 117 = .ok (.aload_n 0, 1) := by decide +kernel
theorem dX7_step_118 : decode cX7_step 118 = .ok (.getfield 89, 3) := by decide +kernel
theorem dX7_step_121 : decode cX7_step 121 = .ok (.aload_n 0, 1) := by decide +kernel
theorem dX7_step_122 : decode cX7_step 122 = .ok (.getfield 27, 3) := by decide +kernel
theorem dX7_step_125 : decode cX7_step 125 = .ok (.invokevirtual 108, 3) := by decide +kernel
theorem dX7_step_128 : decode cX7_step 128 = .ok (.putfield 79, 3) := by decide +kernel
theorem dX7_step_131 : decode cX7_step 131 = .ok (.goto 28, 3) := by decide +kernel
theorem dX7_step_134 : decode cX7_step 134 = .ok (.aload_n 0, 1) := by decide +kernel
theorem dX7_step_135 : decode cX7_step 135 = .ok (.iload_n 1, 1) := by decide +kernel
theorem dX7_step_136 : decode cX7_step 136 = .ok (.bipush 59, 2) := by decide +kernel
theorem dX7_step_138 : decode cX7_step 138 = .ok (.if_icmp .ne 7, 3) := by decide +kernel
theorem dX7_step_141 : decode cX7_step 141 = .ok (.iconst 3, 1) := by decide +kernel
theorem dX7_step_142 : decode cX7_step 142 = .ok (.goto 4, 3) := by decide +kernel
theorem dX7_step_145 : decode cX7_step 145 = .ok (.iconst 4, 1) := by decide +kernel
theorem dX7_step_146 : decode cX7_step 146 = .ok (.putfield 36, 3) := by decide +kernel
theorem dX7_step_149 : decode cX7_step 149 = .ok (.aload_n 0, 1) := by decide +kernel
theorem dX7_step_150 : decode cX7_step 150 = .ok (.aload_n 0, 1) := by decide +kernel
theorem dX7_step_151 : decode cX7_step 151 = .ok (.getfield 89, 3) := by decide +kernel
theorem dX7_step_154 : decode cX7_step 154 = .ok (.iconst 1, 1) := by decide +kernel
theorem dX7_step_155 : decode cX7_step 155 = .ok (.iadd, 1) := by decide +kernel
theorem dX7_step_156 : decode cX7_step 156 = .ok (.putfield 27, 3) := by decide +kernel
theorem dX7_step_159 : decode cX7_step 159 = .ok (.return_, 1) := by decide +kernel
theorem dX7_runEnd_0 : decode cX7_runEnd 0 = .ok (.iload_n 1, 1) := by decide +kernel
theorem dX7_runEnd_1 : decode cX7_runEnd 1 = .ok (.istore 4, 2) := by decide +kernel
theorem dX7_runEnd_3 : decode cX7_runEnd 3 = .ok (.iload 4, 2) := by decide +kernel
theorem dX7_runEnd_5 : decode cX7_runEnd 5 = .ok (.aload_n 0, 1) := by decide +kernel
theorem dX7_runEnd_6 : decode cX7_runEnd 6 = .ok (.getfield 19, 3) := by decide +kernel
theorem dX7_runEnd_9 : decode cX7_runEnd 9 = .ok (.if_icmp .ge 29, 3) := by decide +kernel
theorem dX7_runEnd_12 : decode cX7_runEnd 12 = .ok (.aload_n 0, 1) := by decide +kernel
theorem dX7_runEnd_13 : decode cX7_runEnd 13 = .ok (.iload 4, 2) := by decide +kernel
theorem dX7_runEnd_15 : decode cX7_runEnd 15 = .ok (.invokevirtual 96, 3) := by decide +kernel
theorem dX7_runEnd_18 : decode cX7_runEnd 18 = .ok (.iload_n 2, 1) := by decide +kernel
theorem dX7_runEnd_19 : decode cX7_runEnd 19 = .ok (.if_icmp .lt 19, 3) := by decide +kernel
theorem dX7_runEnd_22 : decode cX7_runEnd 22 = .ok (.aload_n 0, 1) := by decide +kernel
theorem dX7_runEnd_23 : decode cX7_runEnd 23 = .ok (.iload 4, 2) := by decide +kernel
theorem dX7_runEnd_25 : decode cX7_runEnd 25 = .ok (.invokevirtual 96, 3) := by decide +kernel
theorem dX7_runEnd_28 : decode cX7_runEnd 28 = .ok (.iload_n 3, 1) := by decide +kernel
theorem dX7_runEnd_29 : decode cX7_runEnd 29 = .ok (.if_icmp .gt 9, 3) := by decide +kernel
theorem dX7_runEnd_32 : decode cX7_runEnd 32 = .ok (.iinc 4 1, 3) := by decide +kernel
theorem dX7_runEnd_35 : decode cX7_runEnd 35 = .ok (.goto (-32), 3) := by decide +kernel
theorem dX7_runEnd_38 : decode cX7_runEnd 38 = .ok (.iload 4, 2) := by decide +kernel
theorem dX7_runEnd_40 : decode cX7_runEnd 40 = .ok (.ireturn, 1) := by decide +kernel
theorem dX7_numberBetween_0 : decode cX7_numberBetween 0 = .ok (.aload_n 0, 1) := by decide +kernel
theorem dX7_numberBetween_1 : decode cX7_numberBetween 1 = .ok (.iload_n 2, 1) := by decide +kernel
theorem dX7_numberBetween_2 : decode cX7_numberBetween 2 = .ok (.iconst 1, 1) := by decide +kernel
theorem dX7_numberBetween_3 : decode cX7_numberBetween 3 = .ok (.isub, 1) := by decide +kernel
theorem dX7_numberBetween_4 : decode cX7_numberBetween 4 = .ok (.invokevirtual 96, 3) := by decide +kernel
theorem dX7_numberBetween_7 : decode cX7_numberBetween 7 = .ok (.bipush 48, 2) := by decide +kernel
theorem dX7_numberBetween_9 : decode cX7_numberBetween 9 = .ok (.isub, 1) := by decide +kernel
theorem dX7_numberBetween_10 : decode cX7_numberBetween 10 = .ok (.istore_n 3, 1) := by decide +kernel
theorem dX7_numberBetween_11 : decode cX7_numberBetween 11 = .ok (.iload_n 2, 1) := by decide +kernel
theorem dX7_numberBetween_12 : decode cX7_numberBetween 12 = .ok (.iload_n 1, 1) := by decide +kernel
theorem dX7_numberBetween_13 : decode cX7_numberBetween 13 = .ok (.isub, 1) := by decide +kernel
theorem dX7_numberBetween_14 : decode cX7_numberBetween 14 = .ok (.lookupswitch 42 #[(1, 26), (2, 28)], 26) := by decide +kernel
theorem dX7_numberBetween_40 : decode cX7_numberBetween 40 = .ok (.iload_n 3, 1) := by decide +kernel
theorem dX7_numberBetween_41 : decode cX7_numberBetween 41 = .ok (.ireturn, 1) := by decide +kernel
theorem dX7_numberBetween_42 : decode cX7_numberBetween 42 = .ok (.bipush 10, 2) := by decide +kernel
theorem dX7_numberBetween_44 : decode cX7_numberBetween 44 = .ok (.aload_n 0, 1) := by decide +kernel
theorem dX7_numberBetween_45 : decode cX7_numberBetween 45 = .ok (.iload_n 1, 1) := by decide +kernel
theorem dX7_numberBetween_46 : decode cX7_numberBetween 46 = .ok (.invokevirtual 96, 3) := by decide +kernel
theorem dX7_numberBetween_49 : decode cX7_numberBetween 49 = .ok (.bipush 48, 2) := by decide +kernel
theorem dX7_numberBetween_51 : decode cX7_numberBetween 51 = .ok (.isub, 1) := by decide +kernel
theorem dX7_numberBetween_52 : decode cX7_numberBetween 52 = .ok (.imul, 1) := by decide +kernel
theorem dX7_numberBetween_53 : decode cX7_numberBetween 53 = .ok (.iload_n 3, 1) := by decide +kernel
theorem dX7_numberBetween_54 : decode cX7_numberBetween 54 = .ok (.iadd, 1) := by decide +kernel
theorem dX7_numberBetween_55 : decode cX7_numberBetween 55 = .ok (.ireturn, 1) := by decide +kernel
theorem dX7_numberBetween_56 : decode cX7_numberBetween 56 = .ok (.iconst (-1), 1) := by decide +kernel
theorem dX7_numberBetween_57 : decode cX7_numberBetween 57 = .ok (.ireturn, 1) := by decide +kernel
theorem dX7_byteAt_0 : decode cX7_byteAt 0 = .ok (.iload_n 1, 1) := by decide +kernel
theorem dX7_byteAt_1 : decode cX7_byteAt 1 = .ok (.ifCond .lt 27, 3) := by decide +kernel
theorem dX7_byteAt_4 : decode cX7_byteAt 4 = .ok (.iload_n 1, 1) := by decide +kernel
theorem dX7_byteAt_5 : decode cX7_byteAt 5 = .ok (.aload_n 0, 1) := by decide +kernel
theorem dX7_byteAt_6 : decode cX7_byteAt 6 = .ok (.getfield 19, 3) := by decide +kernel
theorem dX7_byteAt_9 : decode cX7_byteAt 9 = .ok (.if_icmp .ge 19, 3) := by decide +kernel
theorem dX7_byteAt_12 : decode cX7_byteAt 12 = .ok (.iload_n 1, 1) := by decide +kernel
theorem dX7_byteAt_13 : decode cX7_byteAt 13 = .ok (.sipush 150, 3) := by decide +kernel
theorem dX7_byteAt_16 : decode cX7_byteAt 16 = .ok (.if_icmp .ge 12, 3) := by decide +kernel
theorem dX7_byteAt_19 : decode cX7_byteAt 19 = .ok (.aload_n 0, 1) := by decide +kernel
theorem dX7_byteAt_20 : decode cX7_byteAt 20 = .ok (.getfield 9, 3) := by decide +kernel
theorem dX7_byteAt_23 : decode cX7_byteAt 23 = .ok (.iload_n 1, 1) := by decide +kernel
theorem dX7_byteAt_24 : decode cX7_byteAt 24 = .ok (.iaload, 1) := by decide +kernel
theorem dX7_byteAt_25 : decode cX7_byteAt 25 = .ok (.goto 4, 3) := by decide +kernel
theorem dX7_byteAt_28 : decode cX7_byteAt 28 = .ok (.iconst (-1), 1) := by decide +kernel
theorem dX7_byteAt_29 : decode cX7_byteAt 29 = .ok (.ireturn, 1) := by decide +kernel
theorem dX8_init_0 : decode cX8_init 0 = .ok (.aload_n 0, 1) := by decide +kernel
theorem dX8_init_1 : decode cX8_init 1 = .ok (.invokespecial 1, 3) := by decide +kernel
theorem dX8_init_4 : decode cX8_init 4 = .ok (.return_, 1) := by decide +kernel
theorem dX8_weight_0 : decode cX8_weight 0 = .ok (.aload_n 0, 1) := by decide +kernel
theorem dX8_weight_1 : decode cX8_weight 1 = .ok (.iload_n 1, 1) := by decide +kernel
theorem dX8_weight_2 : decode cX8_weight 2 = .ok (.iload_n 2, 1) := by decide +kernel
theorem dX8_weight_3 : decode cX8_weight 3 = .ok (.iload_n 3, 1) := by decide +kernel
theorem dX8_weight_4 : decode cX8_weight 4 = .ok (.invokespecial 7, 3) := by decide +kernel
theorem dX8_weight_7 : decode cX8_weight 7 = .ok (.iload_n 1, 1) := by decide +kernel
theorem dX8_weight_8 : decode cX8_weight 8 = .ok (.iadd, 1) := by decide +kernel
theorem dX8_weight_9 : decode cX8_weight 9 = .ok (.ireturn, 1) := by decide +kernel
theorem dX8_loss_0 : decode cX8_loss 0 = .ok (.iconst 2, 1) := by decide +kernel
theorem dX8_loss_1 : decode cX8_loss 1 = .ok (.aload_n 0, 1) := by decide +kernel
theorem dX8_loss_2 : decode cX8_loss 2 = .ok (.iload_n 1, 1) := by decide +kernel
theorem dX8_loss_3 : decode cX8_loss 3 = .ok (.invokespecial 11, 3) := by decide +kernel
theorem dX8_loss_6 : decode cX8_loss 6 = .ok (.imul, 1) := by decide +kernel
theorem dX8_loss_7 : decode cX8_loss 7 = .ok (.ireturn, 1) := by decide +kernel
theorem dX9_init_0 : decode cX9_init 0 = .ok (.aload_n 0, 1) := by decide +kernel
theorem dX9_init_1 : decode cX9_init 1 = .ok (.invokespecial 3, 3) := by decide +kernel
theorem dX9_init_4 : decode cX9_init 4 = .ok (.aload_n 0, 1) := by decide +kernel
theorem dX9_init_5 : decode cX9_init 5 = .ok (.new 9, 3) := by decide +kernel
theorem dX9_init_8 : decode cX9_init 8 = .ok (.dup, 1) := by decide +kernel
theorem dX9_init_9 : decode cX9_init 9 = .ok (.invokespecial 11, 3) := by decide +kernel
theorem dX9_init_12 : decode cX9_init 12 = .ok (.putfield 12, 3) := by decide +kernel
theorem dX9_init_15 : decode cX9_init 15 = .ok (.aload_n 0, 1) := by decide +kernel
theorem dX9_init_16 : decode cX9_init 16 = .ok (.bipush 6, 2) := by decide +kernel
theorem dX9_init_18 : decode cX9_init 18 = .ok (.anewarray 9, 3) := by decide +kernel
theorem dX9_init_21 : decode cX9_init 21 = .ok (.dup, 1) := by decide +kernel
theorem dX9_init_22 : decode cX9_init 22 = .ok (.iconst 0, 1) := by decide +kernel
theorem dX9_init_23 : decode cX9_init 23 = .ok (.aload_n 0, 1) := by decide +kernel
theorem dX9_init_24 : decode cX9_init 24 = .ok (.getfield 12, 3) := by decide +kernel
theorem dX9_init_27 : decode cX9_init 27 = .ok (.aastore, 1) := by decide +kernel
theorem dX9_init_28 : decode cX9_init 28 = .ok (.dup, 1) := by decide +kernel
theorem dX9_init_29 : decode cX9_init 29 = .ok (.iconst 1, 1) := by decide +kernel
theorem dX9_init_30 : decode cX9_init 30 = .ok (.new 18, 3) := by decide +kernel
theorem dX9_init_33 : decode cX9_init 33 = .ok (.dup, 1) := by decide +kernel
theorem dX9_init_34 : decode cX9_init 34 = .ok (.invokespecial 20, 3) := by decide +kernel
theorem dX9_init_37 : decode cX9_init 37 = .ok (.aastore, 1) := by decide +kernel
theorem dX9_init_38 : decode cX9_init 38 = .ok (.dup, 1) := by decide +kernel
theorem dX9_init_39 : decode cX9_init 39 = .ok (.iconst 2, 1) := by decide +kernel
theorem dX9_init_40 : decode cX9_init 40 = .ok (.new 21, 3) := by decide +kernel
theorem dX9_init_43 : decode cX9_init 43 = .ok (.dup, 1) := by decide +kernel
theorem dX9_init_44 : decode cX9_init 44 = .ok (.invokespecial 23, 3) := by decide +kernel
theorem dX9_init_47 : decode cX9_init 47 = .ok (.aastore, 1) := by decide +kernel
theorem dX9_init_48 : decode cX9_init 48 = .ok (.dup, 1) := by decide +kernel
theorem dX9_init_49 : decode cX9_init 49 = .ok (.iconst 3, 1) := by decide +kernel
theorem dX9_init_50 : decode cX9_init 50 = .ok (.new 24, 3) := by decide +kernel
theorem dX9_init_53 : decode cX9_init 53 = .ok (.dup, 1) := by decide +kernel
theorem dX9_init_54 : decode cX9_init 54 = .ok (.invokespecial 26, 3) := by decide +kernel
theorem dX9_init_57 : decode cX9_init 57 = .ok (.aastore, 1) := by decide +kernel
theorem dX9_init_58 : decode cX9_init 58 = .ok (.dup, 1) := by decide +kernel
theorem dX9_init_59 : decode cX9_init 59 = .ok (.iconst 4, 1) := by decide +kernel
theorem dX9_init_60 : decode cX9_init 60 = .ok (.new 27, 3) := by decide +kernel
theorem dX9_init_63 : decode cX9_init 63 = .ok (.dup, 1) := by decide +kernel
theorem dX9_init_64 : decode cX9_init 64 = .ok (.invokespecial 29, 3) := by decide +kernel
theorem dX9_init_67 : decode cX9_init 67 = .ok (.aastore, 1) := by decide +kernel
theorem dX9_init_68 : decode cX9_init 68 = .ok (.dup, 1) := by decide +kernel
theorem dX9_init_69 : decode cX9_init 69 = .ok (.iconst 5, 1) := by decide +kernel
theorem dX9_init_70 : decode cX9_init 70 = .ok (.new 30, 3) := by decide +kernel
theorem dX9_init_73 : decode cX9_init 73 = .ok (.dup, 1) := by decide +kernel
theorem dX9_init_74 : decode cX9_init 74 = .ok (.invokespecial 32, 3) := by decide +kernel
theorem dX9_init_77 : decode cX9_init 77 = .ok (.aastore, 1) := by decide +kernel
theorem dX9_init_78 : decode cX9_init 78 = .ok (.putfield 33, 3) := by decide +kernel
theorem dX9_init_81 : decode cX9_init 81 = .ok (.aload_n 0, 1) := by decide +kernel
theorem dX9_init_82 : decode cX9_init 82 = .ok (.bipush 6, 2) := by decide +kernel
theorem dX9_init_84 : decode cX9_init 84 = .ok (.newarray .int, 2) := by decide +kernel
theorem dX9_init_86 : decode cX9_init 86 = .ok (.putfield 37, 3) := by decide +kernel
theorem dX9_init_89 : decode cX9_init 89 = .ok (.aload_n 0, 1) := by decide +kernel
theorem dX9_init_90 : decode cX9_init 90 = .ok (.bipush 6, 2) := by decide +kernel
theorem dX9_init_92 : decode cX9_init 92 = .ok (.newarray .int, 2) := by decide +kernel
theorem dX9_init_94 : decode cX9_init 94 = .ok (.putfield 41, 3) := by decide +kernel
theorem dX9_init_97 : decode cX9_init 97 = .ok (.aload_n 0, 1) := by decide +kernel
theorem dX9_init_98 : decode cX9_init 98 = .ok (.bipush 6, 2) := by decide +kernel
theorem dX9_init_100 : decode cX9_init 100 = .ok (.newarray .int, 2) := by decide +kernel
theorem dX9_init_102 : decode cX9_init 102 = .ok (.putfield 44, 3) := by decide +kernel
theorem dX9_init_105 : decode cX9_init 105 = .ok (.aload_n 0, 1) := by decide +kernel
theorem dX9_init_106 : decode cX9_init 106 = .ok (.bipush 6, 2) := by decide +kernel
theorem dX9_init_108 : decode cX9_init 108 = .ok (.newarray .int, 2) := by decide +kernel
theorem dX9_init_110 : decode cX9_init 110 = .ok (.putfield 47, 3) := by decide +kernel
theorem dX9_init_113 : decode cX9_init 113 = .ok (.aload_n 0, 1) := by decide +kernel
theorem dX9_init_114 : decode cX9_init 114 = .ok (.bipush 6, 2) := by decide +kernel
theorem dX9_init_116 : decode cX9_init 116 = .ok (.newarray .int, 2) := by decide +kernel
theorem dX9_init_118 : decode cX9_init 118 = .ok (.putfield 50, 3) := by decide +kernel
theorem dX9_init_121 : decode cX9_init 121 = .ok (.aload_n 0, 1) := by decide +kernel
theorem dX9_init_122 : decode cX9_init 122 = .ok (.new 53, 3) := by decide +kernel
theorem dX9_init_125 : decode cX9_init 125 = .ok (.dup, 1) := by decide +kernel
theorem dX9_init_126 : decode cX9_init 126 = .ok (.invokespecial 55, 3) := by decide +kernel
theorem dX9_init_129 : decode cX9_init 129 = .ok (.putfield 56, 3) := by decide +kernel
theorem dX9_init_132 : decode cX9_init 132 = .ok (.aload_n 0, 1) := by decide +kernel
theorem dX9_init_133 : decode cX9_init 133 = .ok (.new 60, 3) := by decide +kernel
theorem dX9_init_136 : decode cX9_init 136 = .ok (.dup, 1) := by decide +kernel
theorem dX9_init_137 : decode cX9_init 137 = .ok (.invokespecial 62, 3) := by decide +kernel
theorem dX9_init_140 : decode cX9_init 140 = .ok (.putfield 63, 3) := by decide +kernel
theorem dX9_init_143 : decode cX9_init 143 = .ok (.return_, 1) := by decide +kernel
theorem dX9_empty_0 : decode cX9_empty 0 = .ok (.aload_n 0, 1) := by decide +kernel
theorem dX9_empty_1 : decode cX9_empty 1 = .ok (.iconst 0, 1) := by decide +kernel
theorem dX9_empty_2 : decode cX9_empty 2 = .ok (.putfield 67, 3) := by decide +kernel
theorem dX9_empty_5 : decode cX9_empty 5 = .ok (.aload_n 0, 1) := by decide +kernel
theorem dX9_empty_6 : decode cX9_empty 6 = .ok (.iconst 0, 1) := by decide +kernel
theorem dX9_empty_7 : decode cX9_empty 7 = .ok (.putfield 71, 3) := by decide +kernel
theorem dX9_empty_10 : decode cX9_empty 10 = .ok (.aload_n 0, 1) := by decide +kernel
theorem dX9_empty_11 : decode cX9_empty 11 = .ok (.iconst 0, 1) := by decide +kernel
theorem dX9_empty_12 : decode cX9_empty 12 = .ok (.putfield 74, 3) := by decide +kernel
theorem dX9_empty_15 : decode cX9_empty 15 = .ok (.aload_n 0, 1) := by decide +kernel
theorem dX9_empty_16 : decode cX9_empty 16 = .ok (.getfield 56, 3) := by decide +kernel
theorem dX9_empty_19 : decode cX9_empty 19 = .ok (.invokevirtual 77, 3) := by decide +kernel
theorem dX9_empty_22 : decode cX9_empty 22 = .ok (.aload_n 0, 1) := by decide +kernel
theorem dX9_empty_23 : decode cX9_empty 23 = .ok (.getfield 63, 3) := by decide +kernel
theorem dX9_empty_26 : decode cX9_empty 26 = .ok (.invokevirtual 80, 3) := by decide +kernel
theorem dX9_empty_29 : decode cX9_empty 29 = .ok (.return_, 1) := by decide +kernel
theorem dX9_copyFrom_0 : decode cX9_copyFrom 0 = .ok (.aload_n 1, 1) := by decide +kernel
theorem dX9_copyFrom_1 : decode cX9_copyFrom 1 = .ok (.ifnonnull 4, 3) := by decide +kernel
theorem dX9_copyFrom_4 : decode cX9_copyFrom 4 = .ok (.return_, 1) := by decide +kernel
theorem dX9_copyFrom_5 : decode cX9_copyFrom 5 = .ok (.iconst 0, 1) := by decide +kernel
theorem dX9_copyFrom_6 : decode cX9_copyFrom 6 = .ok (.istore_n 2, 1) := by decide +kernel
theorem dX9_copyFrom_7 : decode cX9_copyFrom 7 = .ok (.iload_n 2, 1) := by decide +kernel
theorem dX9_copyFrom_8 : decode cX9_copyFrom 8 = .ok (.bipush 6, 2) := by decide +kernel
theorem dX9_copyFrom_10 : decode cX9_copyFrom 10 = .ok (.if_icmp .ge 69, 3) := by decide +kernel
theorem dX9_copyFrom_13 : decode cX9_copyFrom 13 = .ok (.aload_n 0, 1) := by decide +kernel
theorem dX9_copyFrom_14 : decode cX9_copyFrom 14 = .ok (.getfield 37, 3) := by decide +kernel
theorem dX9_copyFrom_17 : decode cX9_copyFrom 17 = .ok (.iload_n 2, 1) := by decide +kernel
theorem dX9_copyFrom_18 : decode cX9_copyFrom 18 = .ok (.aload_n 1, 1) := by decide +kernel
theorem dX9_copyFrom_19 : decode cX9_copyFrom 19 = .ok (.getfield 37, 3) := by decide +kernel
theorem dX9_copyFrom_22 : decode cX9_copyFrom 22 = .ok (.iload_n 2, 1) := by decide +kernel
theorem dX9_copyFrom_23 : decode cX9_copyFrom 23 = .ok (.iaload, 1) := by decide +kernel
theorem dX9_copyFrom_24 : decode cX9_copyFrom 24 = .ok (.iastore, 1) := by decide +kernel
theorem dX9_copyFrom_25 : decode cX9_copyFrom 25 = .ok (.aload_n 0, 1) := by decide +kernel
theorem dX9_copyFrom_26 : decode cX9_copyFrom 26 = .ok (.getfield 41, 3) := by decide +kernel
theorem dX9_copyFrom_29 : decode cX9_copyFrom 29 = .ok (.iload_n 2, 1) := by decide +kernel
theorem dX9_copyFrom_30 : decode cX9_copyFrom 30 = .ok (.aload_n 1, 1) := by decide +kernel
theorem dX9_copyFrom_31 : decode cX9_copyFrom 31 = .ok (.getfield 41, 3) := by decide +kernel
theorem dX9_copyFrom_34 : decode cX9_copyFrom 34 = .ok (.iload_n 2, 1) := by decide +kernel
theorem dX9_copyFrom_35 : decode cX9_copyFrom 35 = .ok (.iaload, 1) := by decide +kernel
theorem dX9_copyFrom_36 : decode cX9_copyFrom 36 = .ok (.iastore, 1) := by decide +kernel
theorem dX9_copyFrom_37 : decode cX9_copyFrom 37 = .ok (.aload_n 0, 1) := by decide +kernel
theorem dX9_copyFrom_38 : decode cX9_copyFrom 38 = .ok (.getfield 44, 3) := by decide +kernel
theorem dX9_copyFrom_41 : decode cX9_copyFrom 41 = .ok (.iload_n 2, 1) := by decide +kernel
theorem dX9_copyFrom_42 : decode cX9_copyFrom 42 = .ok (.aload_n 1, 1) := by decide +kernel
theorem dX9_copyFrom_43 : decode cX9_copyFrom 43 = .ok (.getfield 44, 3) := by decide +kernel
theorem dX9_copyFrom_46 : decode cX9_copyFrom 46 = .ok (.iload_n 2, 1) := by decide +kernel
theorem dX9_copyFrom_47 : decode cX9_copyFrom 47 = .ok (.iaload, 1) := by decide +kernel
theorem dX9_copyFrom_48 : decode cX9_copyFrom 48 = .ok (.iastore, 1) := by decide +kernel
theorem dX9_copyFrom_49 : decode cX9_copyFrom 49 = .ok (.aload_n 0, 1) := by decide +kernel
theorem dX9_copyFrom_50 : decode cX9_copyFrom 50 = .ok (.getfield 47, 3) := by decide +kernel
theorem dX9_copyFrom_53 : decode cX9_copyFrom 53 = .ok (.iload_n 2, 1) := by decide +kernel
theorem dX9_copyFrom_54 : decode cX9_copyFrom 54 = .ok (.aload_n 1, 1) := by decide +kernel
theorem dX9_copyFrom_55 : decode cX9_copyFrom 55 = .ok (.getfield 47, 3) := by decide +kernel
theorem dX9_copyFrom_58 : decode cX9_copyFrom 58 = .ok (.iload_n 2, 1) := by decide +kernel
theorem dX9_copyFrom_59 : decode cX9_copyFrom 59 = .ok (.iaload, 1) := by decide +kernel
theorem dX9_copyFrom_60 : decode cX9_copyFrom 60 = .ok (.iastore, 1) := by decide +kernel
theorem dX9_copyFrom_61 : decode cX9_copyFrom 61 = .ok (.aload_n 0, 1) := by decide +kernel
theorem dX9_copyFrom_62 : decode cX9_copyFrom 62 = .ok (.getfield 50, 3) := by decide +kernel
theorem dX9_copyFrom_65 : decode cX9_copyFrom 65 = .ok (.iload_n 2, 1) := by decide +kernel
theorem dX9_copyFrom_66 : decode cX9_copyFrom 66 = .ok (.aload_n 1, 1) := by decide +kernel
theorem dX9_copyFrom_67 : decode cX9_copyFrom 67 = .ok (.getfield 50, 3) := by decide +kernel
theorem dX9_copyFrom_70 : decode cX9_copyFrom 70 = .ok (.iload_n 2, 1) := by decide +kernel
theorem dX9_copyFrom_71 : decode cX9_copyFrom 71 = .ok (.iaload, 1) := by decide +kernel
theorem dX9_copyFrom_72 : decode cX9_copyFrom 72 = .ok (.iastore, 1) := by decide +kernel
theorem dX9_copyFrom_73 : decode cX9_copyFrom 73 = .ok (.iinc 2 1, 3) := by decide +kernel
theorem dX9_copyFrom_76 : decode cX9_copyFrom 76 = .ok (.goto (-69), 3) := by decide +kernel
theorem dX9_copyFrom_79 : decode cX9_copyFrom 79 = .ok (.aload_n 0, 1) := by decide +kernel
theorem dX9_copyFrom_80 : decode cX9_copyFrom 80 = .ok (.aload_n 1, 1) := by decide +kernel
theorem dX9_copyFrom_81 : decode cX9_copyFrom 81 = .ok (.getfield 67, 3) := by decide +kernel
theorem dX9_copyFrom_84 : decode cX9_copyFrom 84 = .ok (.putfield 67, 3) := by decide +kernel
theorem dX9_copyFrom_87 : decode cX9_copyFrom 87 = .ok (.aload_n 0, 1) := by decide +kernel
theorem dX9_copyFrom_88 : decode cX9_copyFrom 88 = .ok (.aload_n 1, 1) := by decide +kernel
theorem dX9_copyFrom_89 : decode cX9_copyFrom 89 = .ok (.getfield 71, 3) := by decide +kernel
theorem dX9_copyFrom_92 : decode cX9_copyFrom 92 = .ok (.putfield 71, 3) := by decide +kernel
theorem dX9_copyFrom_95 : decode cX9_copyFrom 95 = .ok (.aload_n 0, 1) := by decide +kernel
theorem dX9_copyFrom_96 : decode cX9_copyFrom 96 = .ok (.aload_n 1, 1) := by decide +kernel
theorem dX9_copyFrom_97 : decode cX9_copyFrom 97 = .ok (.getfield 74, 3) := by decide +kernel
theorem dX9_copyFrom_100 : decode cX9_copyFrom 100 = .ok (.putfield 74, 3) := by decide +kernel
theorem dX9_copyFrom_103 : decode cX9_copyFrom 103 = .ok (.aload_n 0, 1) := by decide +kernel
theorem dX9_copyFrom_104 : decode cX9_copyFrom 104 = .ok (.getfield 56, 3) := by decide +kernel
theorem dX9_copyFrom_107 : decode cX9_copyFrom 107 = .ok (.aload_n 1, 1) := by decide +kernel
theorem dX9_copyFrom_108 : decode cX9_copyFrom 108 = .ok (.getfield 56, 3) := by decide +kernel
theorem dX9_copyFrom_111 : decode cX9_copyFrom 111 = .ok (.invokevirtual 81, 3) := by decide +kernel
theorem dX9_copyFrom_114 : decode cX9_copyFrom 114 = .ok (.aload_n 0, 1) := by decide +kernel
theorem dX9_copyFrom_115 : decode cX9_copyFrom 115 = .ok (.getfield 63, 3) := by decide +kernel
theorem dX9_copyFrom_118 : decode cX9_copyFrom 118 = .ok (.aload_n 1, 1) := by decide +kernel
theorem dX9_copyFrom_119 : decode cX9_copyFrom 119 = .ok (.getfield 63, 3) := by decide +kernel
theorem dX9_copyFrom_122 : decode cX9_copyFrom 122 = .ok (.invokevirtual 85, 3) := by decide +kernel
theorem dX9_copyFrom_125 : decode cX9_copyFrom 125 = .ok (.return_, 1) := by decide +kernel
theorem dX9_people_0 : decode cX9_people 0 = .ok (.aload_n 0, 1) := by decide +kernel
theorem dX9_people_1 : decode cX9_people 1 = .ok (.getfield 67, 3) := by decide +kernel
theorem dX9_people_4 : decode cX9_people 4 = .ok (.ireturn, 1) := by decide +kernel
theorem dX9_isThere_0 : decode cX9_isThere 0 = .ok (.iload_n 1, 1) := by decide +kernel
theorem dX9_isThere_1 : decode cX9_isThere 1 = .ok (.ifCond .lt 21, 3) := by decide +kernel
theorem dX9_isThere_4 : decode cX9_isThere 4 = .ok (.iload_n 1, 1) := by decide +kernel
theorem dX9_isThere_5 : decode cX9_isThere 5 = .ok (.aload_n 0, 1) := by decide +kernel
theorem dX9_isThere_6 : decode cX9_isThere 6 = .ok (.getfield 67, 3) := by decide +kernel
theorem dX9_isThere_9 : decode cX9_isThere 9 = .ok (.if_icmp .ge 13, 3) := by decide +kernel
theorem dX9_isThere_12 : decode cX9_isThere 12 = .ok (.iload_n 1, 1) := by decide +kernel
theorem dX9_isThere_13 : decode cX9_isThere 13 = .ok (.bipush 6, 2) := by decide +kernel
theorem dX9_isThere_15 : decode cX9_isThere 15 = .ok (.if_icmp .ge 7, 3) := by decide +kernel
theorem dX9_isThere_18 : decode cX9_isThere 18 = .ok (.iconst 1, 1) := by decide +kernel
theorem dX9_isThere_19 : decode cX9_isThere 19 = .ok (.goto 4, 3) := by decide +kernel
theorem dX9_isThere_22 : decode cX9_isThere 22 = .ok (.iconst 0, 1) := by decide +kernel
theorem dX9_isThere_23 : decode cX9_isThere 23 = .ok (.ireturn, 1) := by decide +kernel
theorem dX9_kindOf_0 : decode cX9_kindOf 0 = .ok (.aload_n 0, 1) := by decide +kernel
theorem dX9_kindOf_1 : decode cX9_kindOf 1 = .ok (.iload_n 1, 1) := by decide +kernel
theorem dX9_kindOf_2 : decode cX9_kindOf 2 = .ok (.invokevirtual 88, 3) := by decide +kernel
theorem dX9_kindOf_5 : decode cX9_kindOf 5 = .ok (.ifCond .eq 12, 3) := by decide +kernel
theorem dX9_kindOf_8 : decode cX9_kindOf 8 = .ok (.aload_n 0, 1) := by decide +kernel
theorem dX9_kindOf_9 : decode cX9_kindOf 9 = .ok (.getfield 37, 3) := by decide +kernel
theorem dX9_kindOf_12 : decode cX9_kindOf 12 = .ok (.iload_n 1, 1) := by decide +kernel
theorem dX9_kindOf_13 : decode cX9_kindOf 13 = .ok (.iaload, 1) := by decide +kernel
theorem dX9_kindOf_14 : decode cX9_kindOf 14 = .ok (.goto 4, 3) := by decide +kernel
theorem dX9_kindOf_17 : decode cX9_kindOf 17 = .ok (.iconst 0, 1) := by decide +kernel
theorem dX9_kindOf_18 : decode cX9_kindOf 18 = .ok (.ireturn, 1) := by decide +kernel
theorem dX9_honestyOf_0 : decode cX9_honestyOf 0 = .ok (.aload_n 0, 1) := by decide +kernel
theorem dX9_honestyOf_1 : decode cX9_honestyOf 1 = .ok (.iload_n 1, 1) := by decide +kernel
theorem dX9_honestyOf_2 : decode cX9_honestyOf 2 = .ok (.invokevirtual 88, 3) := by decide +kernel
theorem dX9_honestyOf_5 : decode cX9_honestyOf 5 = .ok (.ifCond .eq 12, 3) := by decide +kernel
theorem dX9_honestyOf_8 : decode cX9_honestyOf 8 = .ok (.aload_n 0, 1) := by decide +kernel
theorem dX9_honestyOf_9 : decode cX9_honestyOf 9 = .ok (.getfield 41, 3) := by decide +kernel
theorem dX9_honestyOf_12 : decode cX9_honestyOf 12 = .ok (.iload_n 1, 1) := by decide +kernel
theorem dX9_honestyOf_13 : decode cX9_honestyOf 13 = .ok (.iaload, 1) := by decide +kernel
theorem dX9_honestyOf_14 : decode cX9_honestyOf 14 = .ok (.goto 4, 3) := by decide +kernel
theorem dX9_honestyOf_17 : decode cX9_honestyOf 17 = .ok (.iconst 0, 1) := by decide +kernel
theorem dX9_honestyOf_18 : decode cX9_honestyOf 18 = .ok (.ireturn, 1) := by decide +kernel
theorem dX9_piecesOf_0 : decode cX9_piecesOf 0 = .ok (.aload_n 0, 1) := by decide +kernel
theorem dX9_piecesOf_1 : decode cX9_piecesOf 1 = .ok (.iload_n 1, 1) := by decide +kernel
theorem dX9_piecesOf_2 : decode cX9_piecesOf 2 = .ok (.invokevirtual 88, 3) := by decide +kernel
theorem dX9_piecesOf_5 : decode cX9_piecesOf 5 = .ok (.ifCond .eq 12, 3) := by decide +kernel
theorem dX9_piecesOf_8 : decode cX9_piecesOf 8 = .ok (.aload_n 0, 1) := by decide +kernel
theorem dX9_piecesOf_9 : decode cX9_piecesOf 9 = .ok (.getfield 44, 3) := by decide +kernel
theorem dX9_piecesOf_12 : decode cX9_piecesOf 12 = .ok (.iload_n 1, 1) := by decide +kernel
theorem dX9_piecesOf_13 : decode cX9_piecesOf 13 = .ok (.iaload, 1) := by decide +kernel
theorem dX9_piecesOf_14 : decode cX9_piecesOf 14 = .ok (.goto 4, 3) := by decide +kernel
theorem dX9_piecesOf_17 : decode cX9_piecesOf 17 = .ok (.iconst 0, 1) := by decide +kernel
theorem dX9_piecesOf_18 : decode cX9_piecesOf 18 = .ok (.ireturn, 1) := by decide +kernel
theorem dX9_payOf_0 : decode cX9_payOf 0 = .ok (.aload_n 0, 1) := by decide +kernel
theorem dX9_payOf_1 : decode cX9_payOf 1 = .ok (.iload_n 1, 1) := by decide +kernel
theorem dX9_payOf_2 : decode cX9_payOf 2 = .ok (.invokevirtual 88, 3) := by decide +kernel
theorem dX9_payOf_5 : decode cX9_payOf 5 = .ok (.ifCond .eq 12, 3) := by decide +kernel
theorem dX9_payOf_8 : decode cX9_payOf 8 = .ok (.aload_n 0, 1) := by decide +kernel
theorem dX9_payOf_9 : decode cX9_payOf 9 = .ok (.getfield 47, 3) := by decide +kernel
theorem dX9_payOf_12 : decode cX9_payOf 12 = .ok (.iload_n 1, 1) := by decide +kernel
theorem dX9_payOf_13 : decode cX9_payOf 13 = .ok (.iaload, 1) := by decide +kernel
theorem dX9_payOf_14 : decode cX9_payOf 14 = .ok (.goto 4, 3) := by decide +kernel
theorem dX9_payOf_17 : decode cX9_payOf 17 = .ok (.iconst 0, 1) := by decide +kernel
theorem dX9_payOf_18 : decode cX9_payOf 18 = .ok (.ireturn, 1) := by decide +kernel
theorem dX9_handsOf_0 : decode cX9_handsOf 0 = .ok (.aload_n 0, 1) := by decide +kernel
theorem dX9_handsOf_1 : decode cX9_handsOf 1 = .ok (.iload_n 1, 1) := by decide +kernel
theorem dX9_handsOf_2 : decode cX9_handsOf 2 = .ok (.invokevirtual 88, 3) := by decide +kernel
theorem dX9_handsOf_5 : decode cX9_handsOf 5 = .ok (.ifCond .eq 12, 3) := by decide +kernel
theorem dX9_handsOf_8 : decode cX9_handsOf 8 = .ok (.aload_n 0, 1) := by decide +kernel
theorem dX9_handsOf_9 : decode cX9_handsOf 9 = .ok (.getfield 50, 3) := by decide +kernel
theorem dX9_handsOf_12 : decode cX9_handsOf 12 = .ok (.iload_n 1, 1) := by decide +kernel
theorem dX9_handsOf_13 : decode cX9_handsOf 13 = .ok (.iaload, 1) := by decide +kernel
theorem dX9_handsOf_14 : decode cX9_handsOf 14 = .ok (.goto 4, 3) := by decide +kernel
theorem dX9_handsOf_17 : decode cX9_handsOf 17 = .ok (.iconst 0, 1) := by decide +kernel
theorem dX9_handsOf_18 : decode cX9_handsOf 18 = .ok (.ireturn, 1) := by decide +kernel
theorem dX9_liedOf_0 : decode cX9_liedOf 0 = .ok (.aload_n 0, 1) := by decide +kernel
theorem dX9_liedOf_1 : decode cX9_liedOf 1 = .ok (.iload_n 1, 1) := by decide +kernel
theorem dX9_liedOf_2 : decode cX9_liedOf 2 = .ok (.invokevirtual 88, 3) := by decide +kernel
theorem dX9_liedOf_5 : decode cX9_liedOf 5 = .ok (.ifCond .eq 14, 3) := by decide +kernel
theorem dX9_liedOf_8 : decode cX9_liedOf 8 = .ok (.aload_n 0, 1) := by decide +kernel
theorem dX9_liedOf_9 : decode cX9_liedOf 9 = .ok (.getfield 74, 3) := by decide +kernel
theorem dX9_liedOf_12 : decode cX9_liedOf 12 = .ok (.iload_n 1, 1) := by decide +kernel
theorem dX9_liedOf_13 : decode cX9_liedOf 13 = .ok (.ishr, 1) := by decide +kernel
theorem dX9_liedOf_14 : decode cX9_liedOf 14 = .ok (.iconst 1, 1) := by decide +kernel
theorem dX9_liedOf_15 : decode cX9_liedOf 15 = .ok (.iand, 1) := by decide +kernel
theorem dX9_liedOf_16 : decode cX9_liedOf 16 = .ok (.goto 4, 3) := by decide +kernel
theorem dX9_liedOf_19 : decode cX9_liedOf 19 = .ok (.iconst 0, 1) := by decide +kernel
theorem dX9_liedOf_20 : decode cX9_liedOf 20 = .ok (.ireturn, 1) := by decide +kernel
theorem dX9_today_0 : decode cX9_today 0 = .ok (.aload_n 0, 1) := by decide +kernel
theorem dX9_today_1 : decode cX9_today 1 = .ok (.getfield 71, 3) := by decide +kernel
theorem dX9_today_4 : decode cX9_today 4 = .ok (.ireturn, 1) := by decide +kernel
theorem dX9_liars_0 : decode cX9_liars 0 = .ok (.aload_n 0, 1) := by decide +kernel
theorem dX9_liars_1 : decode cX9_liars 1 = .ok (.getfield 74, 3) := by decide +kernel
theorem dX9_liars_4 : decode cX9_liars 4 = .ok (.invokestatic 92, 3) := by decide +kernel
theorem dX9_liars_7 : decode cX9_liars 7 = .ok (.ireturn, 1) := by decide +kernel
theorem dX9_notes_0 : decode cX9_notes 0 = .ok (.aload_n 0, 1) := by decide +kernel
theorem dX9_notes_1 : decode cX9_notes 1 = .ok (.getfield 56, 3) := by decide +kernel
theorem dX9_notes_4 : decode cX9_notes 4 = .ok (.areturn, 1) := by decide +kernel
theorem dX9_allPieces_0 : decode cX9_allPieces 0 = .ok (.iconst 0, 1) := by decide +kernel
theorem dX9_allPieces_1 : decode cX9_allPieces 1 = .ok (.istore_n 1, 1) := by decide +kernel
theorem dX9_allPieces_2 : decode cX9_allPieces 2 = .ok (.iconst 0, 1) := by decide +kernel
theorem dX9_allPieces_3 : decode cX9_allPieces 3 = .ok (.istore_n 2, 1) := by decide +kernel
theorem dX9_allPieces_4 : decode cX9_allPieces 4 = .ok (.iload_n 2, 1) := by decide +kernel
theorem dX9_allPieces_5 : decode cX9_allPieces 5 = .ok (.aload_n 0, 1) := by decide +kernel
theorem dX9_allPieces_6 : decode cX9_allPieces 6 = .ok (.getfield 67, 3) := by decide +kernel
theorem dX9_allPieces_9 : decode cX9_allPieces 9 = .ok (.if_icmp .ge 17, 3) := by decide +kernel
theorem dX9_allPieces_12 : decode cX9_allPieces 12 = .ok (.iload_n 1, 1) := by decide +kernel
theorem dX9_allPieces_13 : decode cX9_allPieces 13 = .ok (.aload_n 0, 1) := by decide +kernel
theorem dX9_allPieces_14 : decode cX9_allPieces 14 = .ok (.iload_n 2, 1) := by decide +kernel
theorem dX9_allPieces_15 : decode cX9_allPieces 15 = .ok (.invokevirtual 98, 3) := by decide +kernel
theorem dX9_allPieces_18 : decode cX9_allPieces 18 = .ok (.iadd, 1) := by decide +kernel
theorem dX9_allPieces_19 : decode cX9_allPieces 19 = .ok (.istore_n 1, 1) := by decide +kernel
theorem dX9_allPieces_20 : decode cX9_allPieces 20 = .ok (.iinc 2 1, 3) := by decide +kernel
theorem dX9_allPieces_23 : decode cX9_allPieces 23 = .ok (.goto (-19), 3) := by decide +kernel
theorem dX9_allPieces_26 : decode cX9_allPieces 26 = .ok (.iload_n 1, 1) := by decide +kernel
theorem dX9_allPieces_27 : decode cX9_allPieces 27 = .ok (.ireturn, 1) := by decide +kernel
theorem dX9_join_0 : decode cX9_join 0 = .ok (.aload_n 0, 1) := by decide +kernel
theorem dX9_join_1 : decode cX9_join 1 = .ok (.getfield 67, 3) := by decide +kernel
theorem dX9_join_4 : decode cX9_join 4 = .ok (.istore 5, 2) := by decide +kernel
theorem dX9_join_6 : decode cX9_join 6 = .ok (.iload 5, 2) := by decide +kernel
theorem dX9_join_8 : decode cX9_join 8 = .ok (.ifCond .lt 10, 3) := by decide +kernel
theorem dX9_join_11 : decode cX9_join 11 = .ok (.iload 5, 2) := by decide +kernel
theorem dX9_join_13 : decode cX9_join 13 = .ok (.bipush 6, 2) := by decide +kernel
theorem dX9_join_15 : decode cX9_join 15 = .ok (.if_icmp .lt 6, 3) := by decide +kernel
theorem dX9_join_18 : decode cX9_join 18 = .ok (.bipush (-4), 2) := by decide +kernel
theorem dX9_join_20 : decode cX9_join 20 = .ok (.ireturn, 1) := by decide +kernel
theorem dX9_join_21 : decode cX9_join 21 = .ok (.aload_n 0, 1) := by decide +kernel
theorem dX9_join_22 : decode cX9_join 22 = .ok (.getfield 37, 3) := by decide +kernel
theorem dX9_join_25 : decode cX9_join 25 = .ok (.iload 5, 2) := by decide +kernel
theorem dX9_join_27 : decode cX9_join 27 = .ok (.iload_n 1, 1) := by decide +kernel
theorem dX9_join_28 : decode cX9_join 28 = .ok (.iastore, 1) := by decide +kernel
theorem dX9_join_29 : decode cX9_join 29 = .ok (.aload_n 0, 1) := by decide +kernel
theorem dX9_join_30 : decode cX9_join 30 = .ok (.getfield 41, 3) := by decide +kernel
theorem dX9_join_33 : decode cX9_join 33 = .ok (.iload 5, 2) := by decide +kernel
theorem dX9_join_35 : decode cX9_join 35 = .ok (.iload_n 2, 1) := by decide +kernel
theorem dX9_join_36 : decode cX9_join 36 = .ok (.iastore, 1) := by decide +kernel
theorem dX9_join_37 : decode cX9_join 37 = .ok (.aload_n 0, 1) := by decide +kernel
theorem dX9_join_38 : decode cX9_join 38 = .ok (.getfield 44, 3) := by decide +kernel
theorem dX9_join_41 : decode cX9_join 41 = .ok (.iload 5, 2) := by decide +kernel
theorem dX9_join_43 : decode cX9_join 43 = .ok (.iload_n 3, 1) := by decide +kernel
theorem dX9_join_44 : decode cX9_join 44 = .ok (.iastore, 1) := by decide +kernel
theorem dX9_join_45 : decode cX9_join 45 = .ok (.aload_n 0, 1) := by decide +kernel
theorem dX9_join_46 : decode cX9_join 46 = .ok (.getfield 47, 3) := by decide +kernel
theorem dX9_join_49 : decode cX9_join 49 = .ok (.iload 5, 2) := by decide +kernel
theorem dX9_join_51 : decode cX9_join 51 = .ok (.iload 4, 2) := by decide +kernel
theorem dX9_join_53 : decode cX9_join 53 = .ok (.iastore, 1) := by decide +kernel
theorem dX9_join_54 : decode cX9_join 54 = .ok (.aload_n 0, 1) := by decide +kernel
theorem dX9_join_55 : decode cX9_join 55 = .ok (.getfield 50, 3) := by decide +kernel
theorem dX9_join_58 : decode cX9_join 58 = .ok (.iload 5, 2) := by decide +kernel
theorem dX9_join_60 : decode cX9_join 60 = .ok (.iconst 0, 1) := by decide +kernel
theorem dX9_join_61 : decode cX9_join 61 = .ok (.iastore, 1) := by decide +kernel
theorem dX9_join_62 : decode cX9_join 62 = .ok (.aload_n 0, 1) := by decide +kernel
theorem dX9_join_63 : decode cX9_join 63 = .ok (.iload 5, 2) := by decide +kernel
theorem dX9_join_65 : decode cX9_join 65 = .ok (.iconst 1, 1) := by decide +kernel
theorem dX9_join_66 : decode cX9_join 66 = .ok (.iadd, 1) := by decide +kernel
theorem dX9_join_67 : decode cX9_join 67 = .ok (.putfield 67, 3) := by decide +kernel
theorem dX9_join_70 : decode cX9_join 70 = .ok (.iload 5, 2) := by decide +kernel
theorem dX9_join_72 : decode cX9_join 72 = .ok (.ireturn, 1) := by decide +kernel
theorem dX9_tellHands_0 : decode cX9_tellHands 0 = .ok (.aload_n 0, 1) := by decide +kernel
theorem dX9_tellHands_1 : decode cX9_tellHands 1 = .ok (.iload_n 1, 1) := by decide +kernel
theorem dX9_tellHands_2 : decode cX9_tellHands 2 = .ok (.invokevirtual 88, 3) := by decide +kernel
theorem dX9_tellHands_5 : decode cX9_tellHands 5 = .ok (.ifCond .eq 10, 3) := by decide +kernel
theorem dX9_tellHands_8 : decode cX9_tellHands 8 = .ok (.aload_n 0, 1) := by decide +kernel
theorem dX9_tellHands_9 : decode cX9_tellHands 9 = .ok (.getfield 50, 3) := by decide +kernel
theorem dX9_tellHands_12 : decode cX9_tellHands 12 = .ok (.iload_n 1, 1) := by decide +kernel
theorem dX9_tellHands_13 : decode cX9_tellHands 13 = .ok (.iload_n 2, 1) := by decide +kernel
theorem dX9_tellHands_14 : decode cX9_tellHands 14 = .ok (.iastore, 1) := by decide +kernel
theorem dX9_tellHands_15 : decode cX9_tellHands 15 = .ok (.return_, 1) := by decide +kernel
theorem dX9_tellLie_0 : decode cX9_tellLie 0 = .ok (.aload_n 0, 1) := by decide +kernel
theorem dX9_tellLie_1 : decode cX9_tellLie 1 = .ok (.iload_n 1, 1) := by decide +kernel
theorem dX9_tellLie_2 : decode cX9_tellLie 2 = .ok (.invokevirtual 88, 3) := by decide +kernel
theorem dX9_tellLie_5 : decode cX9_tellLie 5 = .ok (.ifCond .eq 27, 3) := by decide +kernel
theorem dX9_tellLie_8 : decode cX9_tellLie 8 = .ok (.aload_n 0, 1) := by decide +kernel
theorem dX9_tellLie_9 : decode cX9_tellLie 9 = .ok (.getfield 41, 3) := by decide +kernel
theorem dX9_tellLie_12 : decode cX9_tellLie 12 = .ok (.iload_n 1, 1) := by decide +kernel
theorem dX9_tellLie_13 : decode cX9_tellLie 13 = .ok (.aload_n 0, 1) := by decide +kernel
theorem dX9_tellLie_14 : decode cX9_tellLie 14 = .ok (.iload_n 1, 1) := by decide +kernel
theorem dX9_tellLie_15 : decode cX9_tellLie 15 = .ok (.iload_n 2, 1) := by decide +kernel
theorem dX9_tellLie_16 : decode cX9_tellLie 16 = .ok (.invokevirtual 101, 3) := by decide +kernel
theorem dX9_tellLie_19 : decode cX9_tellLie 19 = .ok (.iastore, 1) := by decide +kernel
theorem dX9_tellLie_20 : decode cX9_tellLie 20 = .ok (.aload_n 0, 1) := by decide +kernel
theorem dX9_tellLie_21 : decode cX9_tellLie 21 = .ok (.dup, 1) := by decide +kernel
theorem dX9_tellLie_22 : decode cX9_tellLie 22 = .ok (.getfield 74, 3) := by decide +kernel
theorem dX9_tellLie_25 : decode cX9_tellLie 25 = .ok (.iconst 1, 1) := by decide +kernel
theorem dX9_tellLie_26 : decode cX9_tellLie 26 = .ok (.iload_n 1, 1) := by decide +kernel
theorem dX9_tellLie_27 : decode cX9_tellLie 27 = .ok (.ishl, 1) := by decide +kernel
theorem dX9_tellLie_28 : decode cX9_tellLie 28 = .ok (.ior, 1) := by decide +kernel
theorem dX9_tellLie_29 : decode cX9_tellLie 29 = .ok (.putfield 74, 3) := by decide +kernel
theorem dX9_tellLie_32 : decode cX9_tellLie 32 = .ok (.return_, 1) := by decide +kernel
theorem dX9_handOn_0 : decode cX9_handOn 0 = .ok (.aload_n 0, 1) := by decide +kernel
theorem dX9_handOn_1 : decode cX9_handOn 1 = .ok (.iload_n 1, 1) := by decide +kernel
theorem dX9_handOn_2 : decode cX9_handOn 2 = .ok (.invokevirtual 88, 3) := by decide +kernel
theorem dX9_handOn_5 : decode cX9_handOn 5 = .ok (.ifCond .eq 31, 3) := by decide +kernel
theorem dX9_handOn_8 : decode cX9_handOn 8 = .ok (.aload_n 0, 1) := by decide +kernel
theorem dX9_handOn_9 : decode cX9_handOn 9 = .ok (.iload_n 2, 1) := by decide +kernel
theorem dX9_handOn_10 : decode cX9_handOn 10 = .ok (.invokevirtual 88, 3) := by decide +kernel
theorem dX9_handOn_13 : decode cX9_handOn 13 = .ok (.ifCond .eq 23, 3) := by decide +kernel
theorem dX9_handOn_16 : decode cX9_handOn 16 = .ok (.aload_n 0, 1) := by decide +kernel
theorem dX9_handOn_17 : decode cX9_handOn 17 = .ok (.getfield 44, 3) := by decide +kernel
theorem dX9_handOn_20 : decode cX9_handOn 20 = .ok (.iload_n 1, 1) := by decide +kernel
theorem dX9_handOn_21 : decode cX9_handOn 21 = .ok (.dup2, 1) := by decide +kernel
theorem dX9_handOn_22 : decode cX9_handOn 22 = .ok (.iaload, 1) := by decide +kernel
theorem dX9_handOn_23 : decode cX9_handOn 23 = .ok (.iload_n 3, 1) := by decide +kernel
theorem dX9_handOn_24 : decode cX9_handOn 24 = .ok (.isub, 1) := by decide +kernel
theorem dX9_handOn_25 : decode cX9_handOn 25 = .ok (.iastore, 1) := by decide +kernel
theorem dX9_handOn_26 : decode cX9_handOn 26 = .ok (.aload_n 0, 1) := by decide +kernel
theorem dX9_handOn_27 : decode cX9_handOn 27 = .ok (.getfield 44, 3) := by decide +kernel
theorem dX9_handOn_30 : decode cX9_handOn 30 = .ok (.iload_n 2, 1) := by decide +kernel
theorem dX9_handOn_31 : decode cX9_handOn 31 = .ok (.dup2, 1) := by decide +kernel
theorem dX9_handOn_32 : decode cX9_handOn 32 = .ok (.iaload, 1) := by decide +kernel
theorem dX9_handOn_33 : decode cX9_handOn 33 = .ok (.iload_n 3, 1) := by decide +kernel
theorem dX9_handOn_34 : decode cX9_handOn 34 = .ok (.iadd, 1) := by decide +kernel
theorem dX9_handOn_35 : decode cX9_handOn 35 = .ok (.iastore, 1) := by decide +kernel
theorem dX9_handOn_36 : decode cX9_handOn 36 = .ok (.return_, 1) := by decide +kernel
theorem dX9_passDay_0 : decode cX9_passDay 0 = .ok (.iconst 0, 1) := by decide +kernel
theorem dX9_passDay_1 : decode cX9_passDay 1 = .ok (.istore_n 1, 1) := by decide +kernel
theorem dX9_passDay_2 : decode cX9_passDay 2 = .ok (.iload_n 1, 1) := by decide +kernel
theorem dX9_passDay_3 : decode cX9_passDay 3 = .ok (.aload_n 0, 1) := by decide +kernel
theorem dX9_passDay_4 : decode cX9_passDay 4 = .ok (.getfield 67, 3) := by decide +kernel
theorem dX9_passDay_7 : decode cX9_passDay 7 = .ok (.if_icmp .ge 29, 3) := by decide +kernel
theorem dX9_passDay_10 : decode cX9_passDay 10 = .ok (.aload_n 0, 1) := by decide +kernel
theorem dX9_passDay_11 : decode cX9_passDay 11 = .ok (.iload_n 1, 1) := by decide +kernel
theorem dX9_passDay_12 : decode cX9_passDay 12 = .ok (.invokevirtual 88, 3) := by decide +kernel
theorem dX9_passDay_15 : decode cX9_passDay 15 = .ok (.ifCond .eq 15, 3) := by decide +kernel
theorem dX9_passDay_18 : decode cX9_passDay 18 = .ok (.aload_n 0, 1) := by decide +kernel
theorem dX9_passDay_19 : decode cX9_passDay 19 = .ok (.getfield 41, 3) := by decide +kernel
theorem dX9_passDay_22 : decode cX9_passDay 22 = .ok (.iload_n 1, 1) := by decide +kernel
theorem dX9_passDay_23 : decode cX9_passDay 23 = .ok (.aload_n 0, 1) := by decide +kernel
theorem dX9_passDay_24 : decode cX9_passDay 24 = .ok (.iload_n 1, 1) := by decide +kernel
theorem dX9_passDay_25 : decode cX9_passDay 25 = .ok (.iconst 1, 1) := by decide +kernel
theorem dX9_passDay_26 : decode cX9_passDay 26 = .ok (.invokevirtual 105, 3) := by decide +kernel
theorem dX9_passDay_29 : decode cX9_passDay 29 = .ok (.iastore, 1) := by decide +kernel
theorem dX9_passDay_30 : decode cX9_passDay 30 = .ok (.iinc 1 1, 3) := by decide +kernel
theorem dX9_passDay_33 : decode cX9_passDay 33 = .ok (.goto (-31), 3) := by decide +kernel
theorem dX9_passDay_36 : decode cX9_passDay 36 = .ok (.aload_n 0, 1) := by decide +kernel
theorem dX9_passDay_37 : decode cX9_passDay 37 = .ok (.iconst 0, 1) := by decide +kernel
theorem dX9_passDay_38 : decode cX9_passDay 38 = .ok (.putfield 74, 3) := by decide +kernel
theorem dX9_passDay_41 : decode cX9_passDay 41 = .ok (.aload_n 0, 1) := by decide +kernel
theorem dX9_passDay_42 : decode cX9_passDay 42 = .ok (.sipush 999, 3) := by decide +kernel
theorem dX9_passDay_45 : decode cX9_passDay 45 = .ok (.aload_n 0, 1) := by decide +kernel
theorem dX9_passDay_46 : decode cX9_passDay 46 = .ok (.getfield 71, 3) := by decide +kernel
theorem dX9_passDay_49 : decode cX9_passDay 49 = .ok (.iconst 1, 1) := by decide +kernel
theorem dX9_passDay_50 : decode cX9_passDay 50 = .ok (.iadd, 1) := by decide +kernel
theorem dX9_passDay_51 : decode cX9_passDay 51 = .ok (.invokestatic 108, 3) := by decide +kernel
theorem dX9_passDay_54 : decode cX9_passDay 54 = .ok (.putfield 71, 3) := by decide +kernel
theorem dX9_passDay_57 : decode cX9_passDay 57 = .ok (.return_, 1) := by decide +kernel
theorem dX9_steps_0 : decode cX9_steps 0 = .ok (.aload_n 0, 1) := by decide +kernel
theorem dX9_steps_1 : decode cX9_steps 1 = .ok (.getfield 63, 3) := by decide +kernel
theorem dX9_steps_4 : decode cX9_steps 4 = .ok (.invokevirtual 113, 3) := by decide +kernel
theorem dX9_steps_7 : decode cX9_steps 7 = .ok (.ireturn, 1) := by decide +kernel
theorem dX9_forgetSteps_0 : decode cX9_forgetSteps 0 = .ok (.aload_n 0, 1) := by decide +kernel
theorem dX9_forgetSteps_1 : decode cX9_forgetSteps 1 = .ok (.getfield 63, 3) := by decide +kernel
theorem dX9_forgetSteps_4 : decode cX9_forgetSteps 4 = .ok (.invokevirtual 80, 3) := by decide +kernel
theorem dX9_forgetSteps_7 : decode cX9_forgetSteps 7 = .ok (.return_, 1) := by decide +kernel
theorem dX9_keepStep_0 : decode cX9_keepStep 0 = .ok (.aload_n 0, 1) := by decide +kernel
theorem dX9_keepStep_1 : decode cX9_keepStep 1 = .ok (.getfield 63, 3) := by decide +kernel
theorem dX9_keepStep_4 : decode cX9_keepStep 4 = .ok (.invokevirtual 117, 3) := by decide +kernel
theorem dX9_keepStep_7 : decode cX9_keepStep 7 = .ok (.iconst 0, 1) := by decide +kernel
theorem dX9_keepStep_8 : decode cX9_keepStep 8 = .ok (.istore_n 1, 1) := by decide +kernel
theorem dX9_keepStep_9 : decode cX9_keepStep 9 = .ok (.iload_n 1, 1) := by decide +kernel
theorem dX9_keepStep_10 : decode cX9_keepStep 10 = .ok (.bipush 6, 2) := by decide +kernel
theorem dX9_keepStep_12 : decode cX9_keepStep 12 = .ok (.if_icmp .ge 40, 3) := by decide +kernel
theorem dX9_keepStep_15 : decode cX9_keepStep 15 = .ok (.aload_n 0, 1) := by decide +kernel
theorem dX9_keepStep_16 : decode cX9_keepStep 16 = .ok (.getfield 63, 3) := by decide +kernel
theorem dX9_keepStep_19 : decode cX9_keepStep 19 = .ok (.iload_n 1, 1) := by decide +kernel
theorem dX9_keepStep_20 : decode cX9_keepStep 20 = .ok (.aload_n 0, 1) := by decide +kernel
theorem dX9_keepStep_21 : decode cX9_keepStep 21 = .ok (.getfield 41, 3) := by decide +kernel
theorem dX9_keepStep_24 : decode cX9_keepStep 24 = .ok (.iload_n 1, 1) := by decide +kernel
theorem dX9_keepStep_25 : decode cX9_keepStep 25 = .ok (.iaload, 1) := by decide +kernel
theorem dX9_keepStep_26 : decode cX9_keepStep 26 = .ok (.invokevirtual 120, 3) := by decide +kernel
theorem dX9_keepStep_29 : decode cX9_keepStep 29 = .ok (.aload_n 0, 1) := by decide +kernel
theorem dX9_keepStep_30 : decode cX9_keepStep 30 = .ok (.getfield 63, 3) := by decide +kernel
theorem dX9_keepStep_33 : decode cX9_keepStep 33 = .ok (.bipush 6, 2) := by decide +kernel
theorem dX9_keepStep_35 : decode cX9_keepStep 35 = .ok (.iload_n 1, 1) := by decide +kernel
theorem dX9_keepStep_36 : decode cX9_keepStep 36 = .ok (.iadd, 1) := by decide +kernel
theorem dX9_keepStep_37 : decode cX9_keepStep 37 = .ok (.aload_n 0, 1) := by decide +kernel
theorem dX9_keepStep_38 : decode cX9_keepStep 38 = .ok (.getfield 44, 3) := by decide +kernel
theorem dX9_keepStep_41 : decode cX9_keepStep 41 = .ok (.iload_n 1, 1) := by decide +kernel
theorem dX9_keepStep_42 : decode cX9_keepStep 42 = .ok (.iaload, 1) := by decide +kernel
theorem dX9_keepStep_43 : decode cX9_keepStep 43 = .ok (.invokevirtual 120, 3) := by decide +kernel
theorem dX9_keepStep_46 : decode cX9_keepStep 46 = .ok (.iinc 1 1, 3) := by decide +kernel
theorem dX9_keepStep_49 : decode cX9_keepStep 49 = .ok (.goto (-40), 3) := by decide +kernel
theorem dX9_keepStep_52 : decode cX9_keepStep 52 = .ok (.aload_n 0, 1) := by decide +kernel
theorem dX9_keepStep_53 : decode cX9_keepStep 53 = .ok (.getfield 63, 3) := by decide +kernel
theorem dX9_keepStep_56 : decode cX9_keepStep 56 = .ok (.bipush 12, 2) := by decide +kernel
theorem dX9_keepStep_58 : decode cX9_keepStep 58 = .ok (.aload_n 0, 1) := by decide +kernel
theorem dX9_keepStep_59 : decode cX9_keepStep 59 = .ok (.getfield 74, 3) := by decide +kernel
theorem dX9_keepStep_62 : decode cX9_keepStep 62 = .ok (.invokevirtual 120, 3) := by decide +kernel
theorem dX9_keepStep_65 : decode cX9_keepStep 65 = .ok (.aload_n 0, 1) := by decide +kernel
theorem dX9_keepStep_66 : decode cX9_keepStep 66 = .ok (.getfield 63, 3) := by decide +kernel
theorem dX9_keepStep_69 : decode cX9_keepStep 69 = .ok (.bipush 13, 2) := by decide +kernel
theorem dX9_keepStep_71 : decode cX9_keepStep 71 = .ok (.aload_n 0, 1) := by decide +kernel
theorem dX9_keepStep_72 : decode cX9_keepStep 72 = .ok (.getfield 71, 3) := by decide +kernel
theorem dX9_keepStep_75 : decode cX9_keepStep 75 = .ok (.invokevirtual 120, 3) := by decide +kernel
theorem dX9_keepStep_78 : decode cX9_keepStep 78 = .ok (.return_, 1) := by decide +kernel
theorem dX9_stepBack_0 : decode cX9_stepBack 0 = .ok (.aload_n 0, 1) := by decide +kernel
theorem dX9_stepBack_1 : decode cX9_stepBack 1 = .ok (.getfield 63, 3) := by decide +kernel
theorem dX9_stepBack_4 : decode cX9_stepBack 4 = .ok (.invokevirtual 113, 3) := by decide +kernel
theorem dX9_stepBack_7 : decode cX9_stepBack 7 = .ok (.ifCond .ne 4, 3) := by decide +kernel
theorem dX9_stepBack_10 : decode cX9_stepBack 10 = .ok (.return_, 1) := by decide +kernel
theorem dX9_stepBack_11 : decode cX9_stepBack 11 = .ok (.iconst 0, 1) := by decide +kernel
theorem dX9_stepBack_12 : decode cX9_stepBack 12 = .ok (.istore_n 1, 1) := by decide +kernel
theorem dX9_stepBack_13 : decode cX9_stepBack 13 = .ok (.iload_n 1, 1) := by decide +kernel
theorem dX9_stepBack_14 : decode cX9_stepBack 14 = .ok (.bipush 6, 2) := by decide +kernel
theorem dX9_stepBack_16 : decode cX9_stepBack 16 = .ok (.if_icmp .ge 40, 3) := by decide +kernel
theorem dX9_stepBack_19 : decode cX9_stepBack 19 = .ok (.aload_n 0, 1) := by decide +kernel
theorem dX9_stepBack_20 : decode cX9_stepBack 20 = .ok (.getfield 41, 3) := by decide +kernel
theorem dX9_stepBack_23 : decode cX9_stepBack 23 = .ok (.iload_n 1, 1) := by decide +kernel
theorem dX9_stepBack_24 : decode cX9_stepBack 24 = .ok (.aload_n 0, 1) := by decide +kernel
theorem dX9_stepBack_25 : decode cX9_stepBack 25 = .ok (.getfield 63, 3) := by decide +kernel
theorem dX9_stepBack_28 : decode cX9_stepBack 28 = .ok (.iload_n 1, 1) := by decide +kernel
theorem dX9_stepBack_29 : decode cX9_stepBack 29 = .ok (.invokevirtual 124, 3) := by decide +kernel
theorem dX9_stepBack_32 : decode cX9_stepBack 32 = .ok (.iastore, 1) := by decide +kernel
theorem dX9_stepBack_33 : decode cX9_stepBack 33 = .ok (.aload_n 0, 1) := by decide +kernel
theorem dX9_stepBack_34 : decode cX9_stepBack 34 = .ok (.getfield 44, 3) := by decide +kernel
theorem dX9_stepBack_37 : decode cX9_stepBack 37 = .ok (.iload_n 1, 1) := by decide +kernel
theorem dX9_stepBack_38 : decode cX9_stepBack 38 = .ok (.aload_n 0, 1) := by decide +kernel
theorem dX9_stepBack_39 : decode cX9_stepBack 39 = .ok (.getfield 63, 3) := by decide +kernel
theorem dX9_stepBack_42 : decode cX9_stepBack 42 = .ok (.bipush 6, 2) := by decide +kernel
theorem dX9_stepBack_44 : decode cX9_stepBack 44 = .ok (.iload_n 1, 1) := by decide +kernel
theorem dX9_stepBack_45 : decode cX9_stepBack 45 = .ok (.iadd, 1) := by decide +kernel
theorem dX9_stepBack_46 : decode cX9_stepBack 46 = .ok (.invokevirtual 124, 3) := by decide +kernel
theorem dX9_stepBack_49 : decode cX9_stepBack 49 = .ok (.iastore, 1) := by decide +kernel
theorem dX9_stepBack_50 : decode cX9_stepBack 50 = .ok (.iinc 1 1, 3) := by decide +kernel
theorem dX9_stepBack_53 : decode cX9_stepBack 53 = .ok (.goto (-40), 3) := by decide +kernel
theorem dX9_stepBack_56 : decode cX9_stepBack 56 = .ok (.aload_n 0, 1) := by decide +kernel
theorem dX9_stepBack_57 : decode cX9_stepBack 57 = .ok (.aload_n 0, 1) := by decide +kernel
theorem dX9_stepBack_58 : decode cX9_stepBack 58 = .ok (.getfield 63, 3) := by decide +kernel
theorem dX9_stepBack_61 : decode cX9_stepBack 61 = .ok (.bipush 12, 2) := by decide +kernel
theorem dX9_stepBack_63 : decode cX9_stepBack 63 = .ok (.invokevirtual 124, 3) := by decide +kernel
theorem dX9_stepBack_66 : decode cX9_stepBack 66 = .ok (.putfield 74, 3) := by decide +kernel
theorem dX9_stepBack_69 : decode cX9_stepBack 69 = .ok (.aload_n 0, 1) := by decide +kernel
theorem dX9_stepBack_70 : decode cX9_stepBack 70 = .ok (.aload_n 0, 1) := by decide +kernel
theorem dX9_stepBack_71 : decode cX9_stepBack 71 = .ok (.getfield 63, 3) := by decide +kernel
theorem dX9_stepBack_74 : decode cX9_stepBack 74 = .ok (.bipush 13, 2) := by decide +kernel
theorem dX9_stepBack_76 : decode cX9_stepBack 76 = .ok (.invokevirtual 124, 3) := by decide +kernel
theorem dX9_stepBack_79 : decode cX9_stepBack 79 = .ok (.putfield 71, 3) := by decide +kernel
theorem dX9_stepBack_82 : decode cX9_stepBack 82 = .ok (.aload_n 0, 1) := by decide +kernel
theorem dX9_stepBack_83 : decode cX9_stepBack 83 = .ok (.getfield 63, 3) := by decide +kernel
theorem dX9_stepBack_86 : decode cX9_stepBack 86 = .ok (.invokevirtual 127, 3) := by decide +kernel
theorem dX9_stepBack_89 : decode cX9_stepBack 89 = .ok (.return_, 1) := by decide +kernel
theorem dX9_weightBy_0 : decode cX9_weightBy 0 = .ok (.aload_n 0, 1) := by decide +kernel
theorem dX9_weightBy_1 : decode cX9_weightBy 1 = .ok (.iload_n 1, 1) := by decide +kernel
theorem dX9_weightBy_2 : decode cX9_weightBy 2 = .ok (.invokevirtual 130, 3) := by decide +kernel
theorem dX9_weightBy_5 : decode cX9_weightBy 5 = .ok (.iload_n 2, 1) := by decide +kernel
theorem dX9_weightBy_6 : decode cX9_weightBy 6 = .ok (.iload_n 3, 1) := by decide +kernel
theorem dX9_weightBy_7 : decode cX9_weightBy 7 = .ok (.iload 4, 2) := by decide +kernel
theorem dX9_weightBy_9 : decode cX9_weightBy 9 = .ok (.invokevirtual 134, 3) := by decide +kernel
theorem dX9_weightBy_12 : decode cX9_weightBy 12 = .ok (.ireturn, 1) := by decide +kernel
theorem dX9_weightWith_0 : decode cX9_weightWith 0 = .ok (.aload_n 0, 1) := by decide +kernel
theorem dX9_weightWith_1 : decode cX9_weightWith 1 = .ok (.aload_n 0, 1) := by decide +kernel
theorem dX9_weightWith_2 : decode cX9_weightWith 2 = .ok (.iload_n 1, 1) := by decide +kernel
theorem dX9_weightWith_3 : decode cX9_weightWith 3 = .ok (.invokevirtual 138, 3) := by decide +kernel
theorem dX9_weightWith_6 : decode cX9_weightWith 6 = .ok (.invokevirtual 130, 3) := by decide +kernel
theorem dX9_weightWith_9 : decode cX9_weightWith 9 = .ok (.iload_n 2, 1) := by decide +kernel
theorem dX9_weightWith_10 : decode cX9_weightWith 10 = .ok (.aload_n 0, 1) := by decide +kernel
theorem dX9_weightWith_11 : decode cX9_weightWith 11 = .ok (.iload_n 1, 1) := by decide +kernel
theorem dX9_weightWith_12 : decode cX9_weightWith 12 = .ok (.invokevirtual 141, 3) := by decide +kernel
theorem dX9_weightWith_15 : decode cX9_weightWith 15 = .ok (.aload_n 0, 1) := by decide +kernel
theorem dX9_weightWith_16 : decode cX9_weightWith 16 = .ok (.getfield 71, 3) := by decide +kernel
theorem dX9_weightWith_19 : decode cX9_weightWith 19 = .ok (.invokevirtual 134, 3) := by decide +kernel
theorem dX9_weightWith_22 : decode cX9_weightWith 22 = .ok (.ireturn, 1) := by decide +kernel
theorem dX9_ownWeight_0 : decode cX9_ownWeight 0 = .ok (.aload_n 0, 1) := by decide +kernel
theorem dX9_ownWeight_1 : decode cX9_ownWeight 1 = .ok (.iload_n 1, 1) := by decide +kernel
theorem dX9_ownWeight_2 : decode cX9_ownWeight 2 = .ok (.aload_n 0, 1) := by decide +kernel
theorem dX9_ownWeight_3 : decode cX9_ownWeight 3 = .ok (.iload_n 1, 1) := by decide +kernel
theorem dX9_ownWeight_4 : decode cX9_ownWeight 4 = .ok (.invokevirtual 98, 3) := by decide +kernel
theorem dX9_ownWeight_7 : decode cX9_ownWeight 7 = .ok (.invokevirtual 144, 3) := by decide +kernel
theorem dX9_ownWeight_10 : decode cX9_ownWeight 10 = .ok (.ireturn, 1) := by decide +kernel
theorem dX9_allWeight_0 : decode cX9_allWeight 0 = .ok (.iconst 0, 1) := by decide +kernel
theorem dX9_allWeight_1 : decode cX9_allWeight 1 = .ok (.istore_n 1, 1) := by decide +kernel
theorem dX9_allWeight_2 : decode cX9_allWeight 2 = .ok (.iconst 0, 1) := by decide +kernel
theorem dX9_allWeight_3 : decode cX9_allWeight 3 = .ok (.istore_n 2, 1) := by decide +kernel
theorem dX9_allWeight_4 : decode cX9_allWeight 4 = .ok (.iload_n 2, 1) := by decide +kernel
theorem dX9_allWeight_5 : decode cX9_allWeight 5 = .ok (.aload_n 0, 1) := by decide +kernel
theorem dX9_allWeight_6 : decode cX9_allWeight 6 = .ok (.getfield 67, 3) := by decide +kernel
theorem dX9_allWeight_9 : decode cX9_allWeight 9 = .ok (.if_icmp .ge 17, 3) := by decide +kernel
theorem dX9_allWeight_12 : decode cX9_allWeight 12 = .ok (.iload_n 1, 1) := by decide +kernel
theorem dX9_allWeight_13 : decode cX9_allWeight 13 = .ok (.aload_n 0, 1) := by decide +kernel
theorem dX9_allWeight_14 : decode cX9_allWeight 14 = .ok (.iload_n 2, 1) := by decide +kernel
theorem dX9_allWeight_15 : decode cX9_allWeight 15 = .ok (.invokevirtual 147, 3) := by decide +kernel
theorem dX9_allWeight_18 : decode cX9_allWeight 18 = .ok (.iadd, 1) := by decide +kernel
theorem dX9_allWeight_19 : decode cX9_allWeight 19 = .ok (.istore_n 1, 1) := by decide +kernel
theorem dX9_allWeight_20 : decode cX9_allWeight 20 = .ok (.iinc 2 1, 3) := by decide +kernel
theorem dX9_allWeight_23 : decode cX9_allWeight 23 = .ok (.goto (-19), 3) := by decide +kernel
theorem dX9_allWeight_26 : decode cX9_allWeight 26 = .ok (.iload_n 1, 1) := by decide +kernel
theorem dX9_allWeight_27 : decode cX9_allWeight 27 = .ok (.ireturn, 1) := by decide +kernel
theorem dX9_daysUntil_0 : decode cX9_daysUntil 0 = .ok (.iconst 0, 1) := by decide +kernel
theorem dX9_daysUntil_1 : decode cX9_daysUntil 1 = .ok (.istore_n 3, 1) := by decide +kernel
theorem dX9_daysUntil_2 : decode cX9_daysUntil 2 = .ok (.iload_n 3, 1) := by decide +kernel
theorem dX9_daysUntil_3 : decode cX9_daysUntil 3 = .ok (.bipush 60, 2) := by decide +kernel
theorem dX9_daysUntil_5 : decode cX9_daysUntil 5 = .ok (.if_icmp .gt 41, 3) := by decide +kernel
theorem dX9_daysUntil_8 : decode cX9_daysUntil 8 = .ok (.aload_n 0, 1) := by decide +kernel
theorem dX9_daysUntil_9 : decode cX9_daysUntil 9 = .ok (.aload_n 0, 1) := by decide +kernel
theorem dX9_daysUntil_10 : decode cX9_daysUntil 10 = .ok (.iload_n 1, 1) := by decide +kernel
theorem dX9_daysUntil_11 : decode cX9_daysUntil 11 = .ok (.invokevirtual 138, 3) := by decide +kernel
theorem dX9_daysUntil_14 : decode cX9_daysUntil 14 = .ok (.aload_n 0, 1) := by decide +kernel
theorem dX9_daysUntil_15 : decode cX9_daysUntil 15 = .ok (.iload_n 1, 1) := by decide +kernel
theorem dX9_daysUntil_16 : decode cX9_daysUntil 16 = .ok (.invokevirtual 98, 3) := by decide +kernel
theorem dX9_daysUntil_19 : decode cX9_daysUntil 19 = .ok (.aload_n 0, 1) := by decide +kernel
theorem dX9_daysUntil_20 : decode cX9_daysUntil 20 = .ok (.iload_n 1, 1) := by decide +kernel
theorem dX9_daysUntil_21 : decode cX9_daysUntil 21 = .ok (.iload_n 3, 1) := by decide +kernel
theorem dX9_daysUntil_22 : decode cX9_daysUntil 22 = .ok (.invokevirtual 105, 3) := by decide +kernel
theorem dX9_daysUntil_25 : decode cX9_daysUntil 25 = .ok (.aload_n 0, 1) := by decide +kernel
theorem dX9_daysUntil_26 : decode cX9_daysUntil 26 = .ok (.getfield 71, 3) := by decide +kernel
theorem dX9_daysUntil_29 : decode cX9_daysUntil 29 = .ok (.iload_n 3, 1) := by decide +kernel
theorem dX9_daysUntil_30 : decode cX9_daysUntil 30 = .ok (.iadd, 1) := by decide +kernel
theorem dX9_daysUntil_31 : decode cX9_daysUntil 31 = .ok (.invokevirtual 150, 3) := by decide +kernel
theorem dX9_daysUntil_34 : decode cX9_daysUntil 34 = .ok (.iload_n 2, 1) := by decide +kernel
theorem dX9_daysUntil_35 : decode cX9_daysUntil 35 = .ok (.if_icmp .lt 5, 3) := by decide +kernel
theorem dX9_daysUntil_38 : decode cX9_daysUntil 38 = .ok (.iload_n 3, 1) := by decide +kernel
theorem dX9_daysUntil_39 : decode cX9_daysUntil 39 = .ok (.ireturn, 1) := by decide +kernel
theorem dX9_daysUntil_40 : decode cX9_daysUntil 40 = .ok (.iinc 3 1, 3) := by decide +kernel
theorem dX9_daysUntil_43 : decode cX9_daysUntil 43 = .ok (.goto (-41), 3) := by decide +kernel
theorem dX9_daysUntil_46 : decode cX9_daysUntil 46 = .ok (.iconst (-1), 1) := by decide +kernel
theorem dX9_daysUntil_47 : decode cX9_daysUntil 47 = .ok (.ireturn, 1) := by decide +kernel
theorem dX9_fewestPieces_0 : decode cX9_fewestPieces 0 = .ok (.iconst 0, 1) := by decide +kernel
theorem dX9_fewestPieces_1 : decode cX9_fewestPieces 1 = .ok (.istore_n 3, 1) := by decide +kernel
theorem dX9_fewestPieces_2 : decode cX9_fewestPieces 2 = .ok (.iload_n 3, 1) := by decide +kernel
theorem dX9_fewestPieces_3 : decode cX9_fewestPieces 3 = .ok (.bipush 99, 2) := by decide +kernel
theorem dX9_fewestPieces_5 : decode cX9_fewestPieces 5 = .ok (.if_icmp .gt 21, 3) := by decide +kernel
theorem dX9_fewestPieces_8 : decode cX9_fewestPieces 8 = .ok (.aload_n 0, 1) := by decide +kernel
theorem dX9_fewestPieces_9 : decode cX9_fewestPieces 9 = .ok (.iload_n 1, 1) := by decide +kernel
theorem dX9_fewestPieces_10 : decode cX9_fewestPieces 10 = .ok (.iload_n 3, 1) := by decide +kernel
theorem dX9_fewestPieces_11 : decode cX9_fewestPieces 11 = .ok (.invokevirtual 144, 3) := by decide +kernel
theorem dX9_fewestPieces_14 : decode cX9_fewestPieces 14 = .ok (.iload_n 2, 1) := by decide +kernel
theorem dX9_fewestPieces_15 : decode cX9_fewestPieces 15 = .ok (.if_icmp .lt 5, 3) := by decide +kernel
theorem dX9_fewestPieces_18 : decode cX9_fewestPieces 18 = .ok (.iload_n 3, 1) := by decide +kernel
theorem dX9_fewestPieces_19 : decode cX9_fewestPieces 19 = .ok (.ireturn, 1) := by decide +kernel
theorem dX9_fewestPieces_20 : decode cX9_fewestPieces 20 = .ok (.iinc 3 1, 3) := by decide +kernel
theorem dX9_fewestPieces_23 : decode cX9_fewestPieces 23 = .ok (.goto (-21), 3) := by decide +kernel
theorem dX9_fewestPieces_26 : decode cX9_fewestPieces 26 = .ok (.iconst (-1), 1) := by decide +kernel
theorem dX9_fewestPieces_27 : decode cX9_fewestPieces 27 = .ok (.ireturn, 1) := by decide +kernel
theorem dX9_truthWorth_0 : decode cX9_truthWorth 0 = .ok (.aload_n 0, 1) := by decide +kernel
theorem dX9_truthWorth_1 : decode cX9_truthWorth 1 = .ok (.aload_n 0, 1) := by decide +kernel
theorem dX9_truthWorth_2 : decode cX9_truthWorth 2 = .ok (.iload_n 1, 1) := by decide +kernel
theorem dX9_truthWorth_3 : decode cX9_truthWorth 3 = .ok (.invokevirtual 138, 3) := by decide +kernel
theorem dX9_truthWorth_6 : decode cX9_truthWorth 6 = .ok (.aload_n 0, 1) := by decide +kernel
theorem dX9_truthWorth_7 : decode cX9_truthWorth 7 = .ok (.iload_n 1, 1) := by decide +kernel
theorem dX9_truthWorth_8 : decode cX9_truthWorth 8 = .ok (.invokevirtual 98, 3) := by decide +kernel
theorem dX9_truthWorth_11 : decode cX9_truthWorth 11 = .ok (.aload_n 0, 1) := by decide +kernel
theorem dX9_truthWorth_12 : decode cX9_truthWorth 12 = .ok (.iload_n 1, 1) := by decide +kernel
theorem dX9_truthWorth_13 : decode cX9_truthWorth 13 = .ok (.iconst 2, 1) := by decide +kernel
theorem dX9_truthWorth_14 : decode cX9_truthWorth 14 = .ok (.invokevirtual 101, 3) := by decide +kernel
theorem dX9_truthWorth_17 : decode cX9_truthWorth 17 = .ok (.aload_n 0, 1) := by decide +kernel
theorem dX9_truthWorth_18 : decode cX9_truthWorth 18 = .ok (.getfield 71, 3) := by decide +kernel
theorem dX9_truthWorth_21 : decode cX9_truthWorth 21 = .ok (.invokevirtual 150, 3) := by decide +kernel
theorem dX9_truthWorth_24 : decode cX9_truthWorth 24 = .ok (.istore_n 2, 1) := by decide +kernel
theorem dX9_truthWorth_25 : decode cX9_truthWorth 25 = .ok (.aload_n 0, 1) := by decide +kernel
theorem dX9_truthWorth_26 : decode cX9_truthWorth 26 = .ok (.iload_n 1, 1) := by decide +kernel
theorem dX9_truthWorth_27 : decode cX9_truthWorth 27 = .ok (.invokevirtual 147, 3) := by decide +kernel
theorem dX9_truthWorth_30 : decode cX9_truthWorth 30 = .ok (.iload_n 2, 1) := by decide +kernel
theorem dX9_truthWorth_31 : decode cX9_truthWorth 31 = .ok (.isub, 1) := by decide +kernel
theorem dX9_truthWorth_32 : decode cX9_truthWorth 32 = .ok (.bipush 10, 2) := by decide +kernel
theorem dX9_truthWorth_34 : decode cX9_truthWorth 34 = .ok (.idiv, 1) := by decide +kernel
theorem dX9_truthWorth_35 : decode cX9_truthWorth 35 = .ok (.ireturn, 1) := by decide +kernel
theorem dX9_mixInto_0 : decode cX9_mixInto 0 = .ok (.lload_n 1, 1) := by decide +kernel
theorem dX9_mixInto_1 : decode cX9_mixInto 1 = .ok (.lstore_n 3, 1) := by decide +kernel
theorem dX9_mixInto_2 : decode cX9_mixInto 2 = .ok (.iconst 0, 1) := by decide +kernel
theorem dX9_mixInto_3 : decode cX9_mixInto 3 = .ok (.istore 5, 2) := by decide +kernel
theorem dX9_mixInto_5 : decode cX9_mixInto 5 = .ok (.iload 5, 2) := by decide +kernel
theorem dX9_mixInto_7 : decode cX9_mixInto 7 = .ok (.aload_n 0, 1) := by decide +kernel
theorem dX9_mixInto_8 : decode cX9_mixInto 8 = .ok (.getfield 67, 3) := by decide +kernel
theorem dX9_mixInto_11 : decode cX9_mixInto 11 = .ok (.if_icmp .ge 93, 3) := by decide +kernel
theorem dX9_mixInto_14 : decode cX9_mixInto 14 = .ok (.ldc2_w 154, 3) := by decide +kernel
theorem dX9_mixInto_17 : decode cX9_mixInto 17 = .ok (.lload_n 3, 1) := by decide +kernel
theorem dX9_mixInto_18 : decode cX9_mixInto 18 = .ok (.lmul, 1) := by decide +kernel
theorem dX9_mixInto_19 : decode cX9_mixInto 19 = .ok (.aload_n 0, 1) := by decide +kernel
theorem dX9_mixInto_20 : decode cX9_mixInto 20 = .ok (.iload 5, 2) := by decide +kernel
theorem dX9_mixInto_22 : decode cX9_mixInto 22 = .ok (.invokevirtual 138, 3) := by decide +kernel
theorem dX9_mixInto_25 : decode cX9_mixInto 25 = .ok (.i2l, 1) := by decide +kernel
theorem dX9_mixInto_26 : decode cX9_mixInto 26 = .ok (.ladd, 1) := by decide +kernel
theorem dX9_mixInto_27 : decode cX9_mixInto 27 = .ok (.lstore_n 3, 1) := by decide +kernel
theorem dX9_mixInto_28 : decode cX9_mixInto 28 = .ok (.ldc2_w 154, 3) := by decide +kernel
theorem dX9_mixInto_31 : decode cX9_mixInto 31 = .ok (.lload_n 3, 1) := by decide +kernel
theorem dX9_mixInto_32 : decode cX9_mixInto 32 = .ok (.lmul, 1) := by decide +kernel
theorem dX9_mixInto_33 : decode cX9_mixInto 33 = .ok (.aload_n 0, 1) := by decide +kernel
theorem dX9_mixInto_34 : decode cX9_mixInto 34 = .ok (.iload 5, 2) := by decide +kernel
theorem dX9_mixInto_36 : decode cX9_mixInto 36 = .ok (.invokevirtual 141, 3) := by decide +kernel
theorem dX9_mixInto_39 : decode cX9_mixInto 39 = .ok (.i2l, 1) := by decide +kernel
theorem dX9_mixInto_40 : decode cX9_mixInto 40 = .ok (.ladd, 1) := by decide +kernel
theorem dX9_mixInto_41 : decode cX9_mixInto 41 = .ok (.lstore_n 3, 1) := by decide +kernel
theorem dX9_mixInto_42 : decode cX9_mixInto 42 = .ok (.ldc2_w 154, 3) := by decide +kernel
theorem dX9_mixInto_45 : decode cX9_mixInto 45 = .ok (.lload_n 3, 1) := by decide +kernel
theorem dX9_mixInto_46 : decode cX9_mixInto 46 = .ok (.lmul, 1) := by decide +kernel
theorem dX9_mixInto_47 : decode cX9_mixInto 47 = .ok (.aload_n 0, 1) := by decide +kernel
theorem dX9_mixInto_48 : decode cX9_mixInto 48 = .ok (.iload 5, 2) := by decide +kernel
theorem dX9_mixInto_50 : decode cX9_mixInto 50 = .ok (.invokevirtual 98, 3) := by decide +kernel
theorem dX9_mixInto_53 : decode cX9_mixInto 53 = .ok (.i2l, 1) := by decide +kernel
theorem dX9_mixInto_54 : decode cX9_mixInto 54 = .ok (.ladd, 1) := by decide +kernel
theorem dX9_mixInto_55 : decode cX9_mixInto 55 = .ok (.lstore_n 3, 1) := by decide +kernel
theorem dX9_mixInto_56 : decode cX9_mixInto 56 = .ok (.ldc2_w 154, 3) := by decide +kernel
theorem dX9_mixInto_59 : decode cX9_mixInto 59 = .ok (.lload_n 3, 1) := by decide +kernel
theorem dX9_mixInto_60 : decode cX9_mixInto 60 = .ok (.lmul, 1) := by decide +kernel
theorem dX9_mixInto_61 : decode cX9_mixInto 61 = .ok (.aload_n 0, 1) := by decide +kernel
theorem dX9_mixInto_62 : decode cX9_mixInto 62 = .ok (.iload 5, 2) := by decide +kernel
theorem dX9_mixInto_64 : decode cX9_mixInto 64 = .ok (.invokevirtual 156, 3) := by decide +kernel
theorem dX9_mixInto_67 : decode cX9_mixInto 67 = .ok (.i2l, 1) := by decide +kernel
theorem dX9_mixInto_68 : decode cX9_mixInto 68 = .ok (.ladd, 1) := by decide +kernel
theorem dX9_mixInto_69 : decode cX9_mixInto 69 = .ok (.lstore_n 3, 1) := by decide +kernel
theorem dX9_mixInto_70 : decode cX9_mixInto 70 = .ok (.ldc2_w 154, 3) := by decide +kernel
theorem dX9_mixInto_73 : decode cX9_mixInto 73 = .ok (.lload_n 3, 1) := by decide +kernel
theorem dX9_mixInto_74 : decode cX9_mixInto 74 = .ok (.lmul, 1) := by decide +kernel
theorem dX9_mixInto_75 : decode cX9_mixInto 75 = .ok (.aload_n 0, 1) := by decide +kernel
theorem dX9_mixInto_76 : decode cX9_mixInto 76 = .ok (.iload 5, 2) := by decide +kernel
theorem dX9_mixInto_78 : decode cX9_mixInto 78 = .ok (.invokevirtual 159, 3) := by decide +kernel
theorem dX9_mixInto_81 : decode cX9_mixInto 81 = .ok (.i2l, 1) := by decide +kernel
theorem dX9_mixInto_82 : decode cX9_mixInto 82 = .ok (.ladd, 1) := by decide +kernel
theorem dX9_mixInto_83 : decode cX9_mixInto 83 = .ok (.lstore_n 3, 1) := by decide +kernel
theorem dX9_mixInto_84 : decode cX9_mixInto 84 = .ok (.ldc2_w 154, 3) := by decide +kernel
theorem dX9_mixInto_87 : decode cX9_mixInto 87 = .ok (.lload_n 3, 1) := by decide +kernel
theorem dX9_mixInto_88 : decode cX9_mixInto 88 = .ok (.lmul, 1) := by decide +kernel
theorem dX9_mixInto_89 : decode cX9_mixInto 89 = .ok (.aload_n 0, 1) := by decide +kernel
theorem dX9_mixInto_90 : decode cX9_mixInto 90 = .ok (.iload 5, 2) := by decide +kernel
theorem dX9_mixInto_92 : decode cX9_mixInto 92 = .ok (.invokevirtual 162, 3) := by decide +kernel
theorem dX9_mixInto_95 : decode cX9_mixInto 95 = .ok (.i2l, 1) := by decide +kernel
theorem dX9_mixInto_96 : decode cX9_mixInto 96 = .ok (.ladd, 1) := by decide +kernel
theorem dX9_mixInto_97 : decode cX9_mixInto 97 = .ok (.lstore_n 3, 1) := by decide +kernel
theorem dX9_mixInto_98 : decode cX9_mixInto 98 = .ok (.iinc 5 1, 3) := by decide +kernel
theorem dX9_mixInto_101 : decode cX9_mixInto 101 = .ok (.goto (-96), 3) := by decide +kernel
theorem dX9_mixInto_104 : decode cX9_mixInto 104 = .ok (.aload_n 0, 1) := by decide +kernel
theorem dX9_mixInto_105 : decode cX9_mixInto 105 = .ok (.getfield 56, 3) := by decide +kernel
theorem dX9_mixInto_108 : decode cX9_mixInto 108 = .ok (.lload_n 3, 1) := by decide +kernel
theorem dX9_mixInto_109 : decode cX9_mixInto 109 = .ok (.invokevirtual 165, 3) := by decide +kernel
theorem dX9_mixInto_112 : decode cX9_mixInto 112 = .ok (.lreturn, 1) := by decide +kernel
theorem dX9_kindNumbered_0 : decode cX9_kindNumbered 0 = .ok (.iload_n 1, 1) := by decide +kernel
theorem dX9_kindNumbered_1 : decode cX9_kindNumbered 1 = .ok (.ifCond .lt 21, 3) := by decide +kernel
theorem dX9_kindNumbered_4 : decode cX9_kindNumbered 4 = .ok (.iload_n 1, 1) := by decide +kernel
theorem dX9_kindNumbered_5 : decode cX9_kindNumbered 5 = .ok (.aload_n 0, 1) := by decide +kernel
theorem dX9_kindNumbered_6 : decode cX9_kindNumbered 6 = .ok (.getfield 33, 3) := by decide +kernel
theorem dX9_kindNumbered_9 : decode cX9_kindNumbered 9 = .ok (.arraylength, 1) := by decide +kernel
theorem dX9_kindNumbered_10 : decode cX9_kindNumbered 10 = .ok (.if_icmp .ge 12, 3) := by decide +kernel
theorem dX9_kindNumbered_13 : decode cX9_kindNumbered 13 = .ok (.aload_n 0, 1) := by decide +kernel
theorem dX9_kindNumbered_14 : decode cX9_kindNumbered 14 = .ok (.getfield 33, 3) := by decide +kernel
theorem dX9_kindNumbered_17 : decode cX9_kindNumbered 17 = .ok (.iload_n 1, 1) := by decide +kernel
theorem dX9_kindNumbered_18 : decode cX9_kindNumbered 18 = .ok (.aaload, 1) := by decide +kernel
theorem dX9_kindNumbered_19 : decode cX9_kindNumbered 19 = .ok (.ifnonnull 8, 3) := by decide +kernel
theorem dX9_kindNumbered_22 : decode cX9_kindNumbered 22 = .ok (.aload_n 0, 1) := by decide +kernel
theorem dX9_kindNumbered_23 : decode cX9_kindNumbered 23 = .ok (.getfield 12, 3) := by decide +kernel
theorem dX9_kindNumbered_26 : decode cX9_kindNumbered 26 = .ok (.areturn, 1) := by decide +kernel
theorem dX9_kindNumbered_27 : decode cX9_kindNumbered 27 = .ok (.aload_n 0, 1) := by decide +kernel
theorem dX9_kindNumbered_28 : decode cX9_kindNumbered 28 = .ok (.getfield 33, 3) := by decide +kernel
theorem dX9_kindNumbered_31 : decode cX9_kindNumbered 31 = .ok (.iload_n 1, 1) := by decide +kernel
theorem dX9_kindNumbered_32 : decode cX9_kindNumbered 32 = .ok (.aaload, 1) := by decide +kernel
theorem dX9_kindNumbered_33 : decode cX9_kindNumbered 33 = .ok (.areturn, 1) := by decide +kernel
theorem dX9_honestyBehindLie_0 : decode cX9_honestyBehindLie 0 = .ok (.iconst 0, 1) := by decide +kernel
theorem dX9_honestyBehindLie_1 : decode cX9_honestyBehindLie 1 = .ok (.aload_n 0, 1) := by decide +kernel
theorem dX9_honestyBehindLie_2 : decode cX9_honestyBehindLie 2 = .ok (.iload_n 1, 1) := by decide +kernel
theorem dX9_honestyBehindLie_3 : decode cX9_honestyBehindLie 3 = .ok (.invokevirtual 141, 3) := by decide +kernel
theorem dX9_honestyBehindLie_6 : decode cX9_honestyBehindLie 6 = .ok (.aload_n 0, 1) := by decide +kernel
theorem dX9_honestyBehindLie_7 : decode cX9_honestyBehindLie 7 = .ok (.aload_n 0, 1) := by decide +kernel
theorem dX9_honestyBehindLie_8 : decode cX9_honestyBehindLie 8 = .ok (.iload_n 1, 1) := by decide +kernel
theorem dX9_honestyBehindLie_9 : decode cX9_honestyBehindLie 9 = .ok (.invokevirtual 138, 3) := by decide +kernel
theorem dX9_honestyBehindLie_12 : decode cX9_honestyBehindLie 12 = .ok (.invokevirtual 130, 3) := by decide +kernel
theorem dX9_honestyBehindLie_15 : decode cX9_honestyBehindLie 15 = .ok (.iload_n 2, 1) := by decide +kernel
theorem dX9_honestyBehindLie_16 : decode cX9_honestyBehindLie 16 = .ok (.invokevirtual 169, 3) := by decide +kernel
theorem dX9_honestyBehindLie_19 : decode cX9_honestyBehindLie 19 = .ok (.isub, 1) := by decide +kernel
theorem dX9_honestyBehindLie_20 : decode cX9_honestyBehindLie 20 = .ok (.invokestatic 172, 3) := by decide +kernel
theorem dX9_honestyBehindLie_23 : decode cX9_honestyBehindLie 23 = .ok (.ireturn, 1) := by decide +kernel
theorem dX9_honestyAfter_0 : decode cX9_honestyAfter 0 = .ok (.iconst 0, 1) := by decide +kernel
theorem dX9_honestyAfter_1 : decode cX9_honestyAfter 1 = .ok (.iload_n 2, 1) := by decide +kernel
theorem dX9_honestyAfter_2 : decode cX9_honestyAfter 2 = .ok (.aload_n 0, 1) := by decide +kernel
theorem dX9_honestyAfter_3 : decode cX9_honestyAfter 3 = .ok (.iload_n 1, 1) := by decide +kernel
theorem dX9_honestyAfter_4 : decode cX9_honestyAfter 4 = .ok (.invokevirtual 159, 3) := by decide +kernel
theorem dX9_honestyAfter_7 : decode cX9_honestyAfter 7 = .ok (.isub, 1) := by decide +kernel
theorem dX9_honestyAfter_8 : decode cX9_honestyAfter 8 = .ok (.invokestatic 172, 3) := by decide +kernel
theorem dX9_honestyAfter_11 : decode cX9_honestyAfter 11 = .ok (.istore_n 3, 1) := by decide +kernel
theorem dX9_honestyAfter_12 : decode cX9_honestyAfter 12 = .ok (.bipush 12, 2) := by decide +kernel
theorem dX9_honestyAfter_14 : decode cX9_honestyAfter 14 = .ok (.aload_n 0, 1) := by decide +kernel
theorem dX9_honestyAfter_15 : decode cX9_honestyAfter 15 = .ok (.iload_n 1, 1) := by decide +kernel
theorem dX9_honestyAfter_16 : decode cX9_honestyAfter 16 = .ok (.invokevirtual 141, 3) := by decide +kernel
theorem dX9_honestyAfter_19 : decode cX9_honestyAfter 19 = .ok (.iload_n 3, 1) := by decide +kernel
theorem dX9_honestyAfter_20 : decode cX9_honestyAfter 20 = .ok (.iadd, 1) := by decide +kernel
theorem dX9_honestyAfter_21 : decode cX9_honestyAfter 21 = .ok (.invokestatic 108, 3) := by decide +kernel
theorem dX9_honestyAfter_24 : decode cX9_honestyAfter 24 = .ok (.ireturn, 1) := by decide +kernel
theorem dX10_init_0 : decode cX10_init 0 = .ok (.aload_n 0, 1) := by decide +kernel
theorem dX10_init_1 : decode cX10_init 1 = .ok (.invokespecial 3, 3) := by decide +kernel
theorem dX10_init_4 : decode cX10_init 4 = .ok (.aload_n 0, 1) := by decide +kernel
theorem dX10_init_5 : decode cX10_init 5 = .ok (.bipush 6, 2) := by decide +kernel
theorem dX10_init_7 : decode cX10_init 7 = .ok (.newarray .int, 2) := by decide +kernel
theorem dX10_init_9 : decode cX10_init 9 = .ok (.putfield 9, 3) := by decide +kernel
theorem dX10_init_12 : decode cX10_init 12 = .ok (.aload_n 0, 1) := by decide +kernel
theorem dX10_init_13 : decode cX10_init 13 = .ok (.bipush 6, 2) := by decide +kernel
theorem dX10_init_15 : decode cX10_init 15 = .ok (.newarray .int, 2) := by decide +kernel
theorem dX10_init_17 : decode cX10_init 17 = .ok (.putfield 15, 3) := by decide +kernel
theorem dX10_init_20 : decode cX10_init 20 = .ok (.aload_n 0, 1) := by decide +kernel
theorem dX10_init_21 : decode cX10_init 21 = .ok (.bipush 64, 2) := by decide +kernel
theorem dX10_init_23 : decode cX10_init 23 = .ok (.newarray .int, 2) := by decide +kernel
theorem dX10_init_25 : decode cX10_init 25 = .ok (.putfield 18, 3) := by decide +kernel
theorem dX10_init_28 : decode cX10_init 28 = .ok (.aload_n 0, 1) := by decide +kernel
theorem dX10_init_29 : decode cX10_init 29 = .ok (.bipush 36, 2) := by decide +kernel
theorem dX10_init_31 : decode cX10_init 31 = .ok (.newarray .int, 2) := by decide +kernel
theorem dX10_init_33 : decode cX10_init 33 = .ok (.putfield 21, 3) := by decide +kernel
theorem dX10_init_36 : decode cX10_init 36 = .ok (.return_, 1) := by decide +kernel
theorem dX10_carry_0 : decode cX10_carry 0 = .ok (.aload_n 0, 1) := by decide +kernel
theorem dX10_carry_1 : decode cX10_carry 1 = .ok (.aload_n 1, 1) := by decide +kernel
theorem dX10_carry_2 : decode cX10_carry 2 = .ok (.iload 4, 2) := by decide +kernel
theorem dX10_carry_4 : decode cX10_carry 4 = .ok (.invokevirtual 24, 3) := by decide +kernel
theorem dX10_carry_7 : decode cX10_carry 7 = .ok (.iconst (-1), 1) := by decide +kernel
theorem dX10_carry_8 : decode cX10_carry 8 = .ok (.istore 5, 2) := by decide +kernel
theorem dX10_carry_10 : decode cX10_carry 10 = .ok (.iconst 0, 1) := by decide +kernel
theorem dX10_carry_11 : decode cX10_carry 11 = .ok (.istore 6, 2) := by decide +kernel
theorem dX10_carry_13 : decode cX10_carry 13 = .ok (.iload 6, 2) := by decide +kernel
theorem dX10_carry_15 : decode cX10_carry 15 = .ok (.aload_n 1, 1) := by decide +kernel
theorem dX10_carry_16 : decode cX10_carry 16 = .ok (.invokevirtual 28, 3) := by decide +kernel
theorem dX10_carry_19 : decode cX10_carry 19 = .ok (.if_icmp .ge 42, 3) := by decide +kernel
theorem dX10_carry_22 : decode cX10_carry 22 = .ok (.aload_n 0, 1) := by decide +kernel
theorem dX10_carry_23 : decode cX10_carry 23 = .ok (.iload 6, 2) := by decide +kernel
theorem dX10_carry_25 : decode cX10_carry 25 = .ok (.invokevirtual 34, 3) := by decide +kernel
theorem dX10_carry_28 : decode cX10_carry 28 = .ok (.istore 7, 2) := by decide +kernel
theorem dX10_carry_30 : decode cX10_carry 30 = .ok (.iload 7, 2) := by decide +kernel
theorem dX10_carry_32 : decode cX10_carry 32 = .ok (.iload 5, 2) := by decide +kernel
theorem dX10_carry_34 : decode cX10_carry 34 = .ok (.if_icmp .le 21, 3) := by decide +kernel
theorem dX10_carry_37 : decode cX10_carry 37 = .ok (.aload_n 0, 1) := by decide +kernel
theorem dX10_carry_38 : decode cX10_carry 38 = .ok (.aload_n 1, 1) := by decide +kernel
theorem dX10_carry_39 : decode cX10_carry 39 = .ok (.iload_n 2, 1) := by decide +kernel
theorem dX10_carry_40 : decode cX10_carry 40 = .ok (.iload_n 3, 1) := by decide +kernel
theorem dX10_carry_41 : decode cX10_carry 41 = .ok (.iload 7, 2) := by decide +kernel
theorem dX10_carry_43 : decode cX10_carry 43 = .ok (.invokevirtual 38, 3) := by decide +kernel
theorem dX10_carry_46 : decode cX10_carry 46 = .ok (.bipush 99, 2) := by decide +kernel
theorem dX10_carry_48 : decode cX10_carry 48 = .ok (.if_icmp .ge 7, 3) := by decide +kernel
theorem dX10_carry_51 : decode cX10_carry 51 = .ok (.iload 7, 2) := by decide +kernel
theorem dX10_carry_53 : decode cX10_carry 53 = .ok (.istore 5, 2) := by decide +kernel
theorem dX10_carry_55 : decode cX10_carry 55 = .ok (.iinc 6 1, 3) := by decide +kernel
theorem dX10_carry_58 : decode cX10_carry 58 = .ok (.goto (-45), 3) := by decide +kernel
theorem dX10_carry_61 : decode cX10_carry 61 = .ok (.aload_n 0, 1) := by decide +kernel
theorem dX10_carry_62 : decode cX10_carry 62 = .ok (.aload_n 1, 1) := by decide +kernel
theorem dX10_carry_63 : decode cX10_carry 63 = .ok (.iload_n 2, 1) := by decide +kernel
theorem dX10_carry_64 : decode cX10_carry 64 = .ok (.iload_n 3, 1) := by decide +kernel
theorem dX10_carry_65 : decode cX10_carry 65 = .ok (.iload 5, 2) := by decide +kernel
theorem dX10_carry_67 : decode cX10_carry 67 = .ok (.invokevirtual 38, 3) := by decide +kernel
theorem dX10_carry_70 : decode cX10_carry 70 = .ok (.pop, 1) := by decide +kernel
theorem dX10_carry_71 : decode cX10_carry 71 = .ok (.iload 5, 2) := by decide +kernel
theorem dX10_carry_73 : decode cX10_carry 73 = .ok (.ireturn, 1) := by decide +kernel
theorem dX10_handAt_0 : decode cX10_handAt 0 = .ok (.iload_n 3, 1) := by decide +kernel
theorem dX10_handAt_1 : decode cX10_handAt 1 = .ok (.aload_n 0, 1) := by decide +kernel
theorem dX10_handAt_2 : decode cX10_handAt 2 = .ok (.iload_n 2, 1) := by decide +kernel
theorem dX10_handAt_3 : decode cX10_handAt 3 = .ok (.invokevirtual 42, 3) := by decide +kernel
theorem dX10_handAt_6 : decode cX10_handAt 6 = .ok (.if_icmp .le 6, 3) := by decide +kernel
theorem dX10_handAt_9 : decode cX10_handAt 9 = .ok (.bipush (-5), 2) := by decide +kernel
theorem dX10_handAt_11 : decode cX10_handAt 11 = .ok (.ireturn, 1) := by decide +kernel
theorem dX10_handAt_12 : decode cX10_handAt 12 = .ok (.iload_n 2, 1) := by decide +kernel
theorem dX10_handAt_13 : decode cX10_handAt 13 = .ok (.istore 4, 2) := by decide +kernel
theorem dX10_handAt_15 : decode cX10_handAt 15 = .ok (.iconst 0, 1) := by decide +kernel
theorem dX10_handAt_16 : decode cX10_handAt 16 = .ok (.istore 5, 2) := by decide +kernel
theorem dX10_handAt_18 : decode cX10_handAt 18 = .ok (.iload 5, 2) := by decide +kernel
theorem dX10_handAt_20 : decode cX10_handAt 20 = .ok (.iload_n 3, 1) := by decide +kernel
theorem dX10_handAt_21 : decode cX10_handAt 21 = .ok (.if_icmp .ge 25, 3) := by decide +kernel
theorem dX10_handAt_24 : decode cX10_handAt 24 = .ok (.iload 5, 2) := by decide +kernel
theorem dX10_handAt_26 : decode cX10_handAt 26 = .ok (.bipush 6, 2) := by decide +kernel
theorem dX10_handAt_28 : decode cX10_handAt 28 = .ok (.if_icmp .ge 18, 3) := by decide +kernel
theorem dX10_handAt_31 : decode cX10_handAt 31 = .ok (.aload_n 0, 1) := by decide +kernel
theorem dX10_handAt_32 : decode cX10_handAt 32 = .ok (.aload_n 1, 1) := by decide +kernel
theorem dX10_handAt_33 : decode cX10_handAt 33 = .ok (.iload 4, 2) := by decide +kernel
theorem dX10_handAt_35 : decode cX10_handAt 35 = .ok (.invokevirtual 45, 3) := by decide +kernel
theorem dX10_handAt_38 : decode cX10_handAt 38 = .ok (.istore 4, 2) := by decide +kernel
theorem dX10_handAt_40 : decode cX10_handAt 40 = .ok (.iinc 5 1, 3) := by decide +kernel
theorem dX10_handAt_43 : decode cX10_handAt 43 = .ok (.goto (-25), 3) := by decide +kernel
theorem dX10_handAt_46 : decode cX10_handAt 46 = .ok (.iload 4, 2) := by decide +kernel
theorem dX10_handAt_48 : decode cX10_handAt 48 = .ok (.ireturn, 1) := by decide +kernel
theorem dX10_nearerHand_0 : decode cX10_nearerHand 0 = .ok (.iconst 0, 1) := by decide +kernel
theorem dX10_nearerHand_1 : decode cX10_nearerHand 1 = .ok (.istore_n 3, 1) := by decide +kernel
theorem dX10_nearerHand_2 : decode cX10_nearerHand 2 = .ok (.iload_n 3, 1) := by decide +kernel
theorem dX10_nearerHand_3 : decode cX10_nearerHand 3 = .ok (.aload_n 1, 1) := by decide +kernel
theorem dX10_nearerHand_4 : decode cX10_nearerHand 4 = .ok (.invokevirtual 28, 3) := by decide +kernel
theorem dX10_nearerHand_7 : decode cX10_nearerHand 7 = .ok (.if_icmp .ge 38, 3) := by decide +kernel
theorem dX10_nearerHand_10 : decode cX10_nearerHand 10 = .ok (.aload_n 1, 1) := by decide +kernel
theorem dX10_nearerHand_11 : decode cX10_nearerHand 11 = .ok (.iload_n 2, 1) := by decide +kernel
theorem dX10_nearerHand_12 : decode cX10_nearerHand 12 = .ok (.invokevirtual 49, 3) := by decide +kernel
theorem dX10_nearerHand_15 : decode cX10_nearerHand 15 = .ok (.iload_n 3, 1) := by decide +kernel
theorem dX10_nearerHand_16 : decode cX10_nearerHand 16 = .ok (.ishr, 1) := by decide +kernel
theorem dX10_nearerHand_17 : decode cX10_nearerHand 17 = .ok (.iconst 1, 1) := by decide +kernel
theorem dX10_nearerHand_18 : decode cX10_nearerHand 18 = .ok (.iand, 1) := by decide +kernel
theorem dX10_nearerHand_19 : decode cX10_nearerHand 19 = .ok (.ifCond .eq 20, 3) := by decide +kernel
theorem dX10_nearerHand_22 : decode cX10_nearerHand 22 = .ok (.aload_n 0, 1) := by decide +kernel
theorem dX10_nearerHand_23 : decode cX10_nearerHand 23 = .ok (.iload_n 3, 1) := by decide +kernel
theorem dX10_nearerHand_24 : decode cX10_nearerHand 24 = .ok (.invokevirtual 42, 3) := by decide +kernel
theorem dX10_nearerHand_27 : decode cX10_nearerHand 27 = .ok (.aload_n 0, 1) := by decide +kernel
theorem dX10_nearerHand_28 : decode cX10_nearerHand 28 = .ok (.iload_n 2, 1) := by decide +kernel
theorem dX10_nearerHand_29 : decode cX10_nearerHand 29 = .ok (.invokevirtual 42, 3) := by decide +kernel
theorem dX10_nearerHand_32 : decode cX10_nearerHand 32 = .ok (.iconst 1, 1) := by decide +kernel
theorem dX10_nearerHand_33 : decode cX10_nearerHand 33 = .ok (.isub, 1) := by decide +kernel
theorem dX10_nearerHand_34 : decode cX10_nearerHand 34 = .ok (.if_icmp .ne 5, 3) := by decide +kernel
theorem dX10_nearerHand_37 : decode cX10_nearerHand 37 = .ok (.iload_n 3, 1) := by decide +kernel
theorem dX10_nearerHand_38 : decode cX10_nearerHand 38 = .ok (.ireturn, 1) := by decide +kernel
theorem dX10_nearerHand_39 : decode cX10_nearerHand 39 = .ok (.iinc 3 1, 3) := by decide +kernel
theorem dX10_nearerHand_42 : decode cX10_nearerHand 42 = .ok (.goto (-40), 3) := by decide +kernel
theorem dX10_nearerHand_45 : decode cX10_nearerHand 45 = .ok (.iload_n 2, 1) := by decide +kernel
theorem dX10_nearerHand_46 : decode cX10_nearerHand 46 = .ok (.ireturn, 1) := by decide +kernel
theorem dX10_measure_0 : decode cX10_measure 0 = .ok (.iconst 0, 1) := by decide +kernel
theorem dX10_measure_1 : decode cX10_measure 1 = .ok (.istore 5, 2) := by decide +kernel
theorem dX10_measure_3 : decode cX10_measure 3 = .ok (.iload 5, 2) := by decide +kernel
theorem dX10_measure_5 : decode cX10_measure 5 = .ok (.bipush 6, 2) := by decide +kernel
theorem dX10_measure_7 : decode cX10_measure 7 = .ok (.if_icmp .ge 38, 3) := by decide +kernel
theorem dX10_measure_10 : decode cX10_measure 10 = .ok (.aload_n 0, 1) := by decide +kernel
theorem dX10_measure_11 : decode cX10_measure 11 = .ok (.getfield 15, 3) := by decide +kernel
theorem dX10_measure_14 : decode cX10_measure 14 = .ok (.iload 5, 2) := by decide +kernel
theorem dX10_measure_16 : decode cX10_measure 16 = .ok (.iload 5, 2) := by decide +kernel
theorem dX10_measure_18 : decode cX10_measure 18 = .ok (.iload_n 3, 1) := by decide +kernel
theorem dX10_measure_19 : decode cX10_measure 19 = .ok (.if_icmp .ne 17, 3) := by decide +kernel
theorem dX10_measure_22 : decode cX10_measure 22 = .ok (.aload_n 0, 1) := by decide +kernel
theorem dX10_measure_23 : decode cX10_measure 23 = .ok (.iload_n 3, 1) := by decide +kernel
theorem dX10_measure_24 : decode cX10_measure 24 = .ok (.invokevirtual 34, 3) := by decide +kernel
theorem dX10_measure_27 : decode cX10_measure 27 = .ok (.iload 4, 2) := by decide +kernel
theorem dX10_measure_29 : decode cX10_measure 29 = .ok (.if_icmp .lt 7, 3) := by decide +kernel
theorem dX10_measure_32 : decode cX10_measure 32 = .ok (.iconst 0, 1) := by decide +kernel
theorem dX10_measure_33 : decode cX10_measure 33 = .ok (.goto 5, 3) := by decide +kernel
theorem dX10_measure_36 : decode cX10_measure 36 = .ok (.bipush 99, 2) := by decide +kernel
theorem dX10_measure_38 : decode cX10_measure 38 = .ok (.iastore, 1) := by decide +kernel
theorem dX10_measure_39 : decode cX10_measure 39 = .ok (.iinc 5 1, 3) := by decide +kernel
theorem dX10_measure_42 : decode cX10_measure 42 = .ok (.goto (-39), 3) := by decide +kernel
theorem dX10_measure_45 : decode cX10_measure 45 = .ok (.iconst 1, 1) := by decide +kernel
theorem dX10_measure_46 : decode cX10_measure 46 = .ok (.istore 5, 2) := by decide +kernel
theorem dX10_measure_48 : decode cX10_measure 48 = .ok (.iload 5, 2) := by decide +kernel
theorem dX10_measure_50 : decode cX10_measure 50 = .ok (.bipush 6, 2) := by decide +kernel
theorem dX10_measure_52 : decode cX10_measure 52 = .ok (.if_icmp .ge 71, 3) := by decide +kernel
theorem dX10_measure_55 : decode cX10_measure 55 = .ok (.iconst 0, 1) := by decide +kernel
theorem dX10_measure_56 : decode cX10_measure 56 = .ok (.istore 6, 2) := by decide +kernel
theorem dX10_measure_58 : decode cX10_measure 58 = .ok (.iload 6, 2) := by decide +kernel
theorem dX10_measure_60 : decode cX10_measure 60 = .ok (.bipush 6, 2) := by decide +kernel
theorem dX10_measure_62 : decode cX10_measure 62 = .ok (.if_icmp .ge 55, 3) := by decide +kernel
theorem dX10_measure_65 : decode cX10_measure 65 = .ok (.aload_n 0, 1) := by decide +kernel
theorem dX10_measure_66 : decode cX10_measure 66 = .ok (.getfield 15, 3) := by decide +kernel
theorem dX10_measure_69 : decode cX10_measure 69 = .ok (.iload 6, 2) := by decide +kernel
theorem dX10_measure_71 : decode cX10_measure 71 = .ok (.iaload, 1) := by decide +kernel
theorem dX10_measure_72 : decode cX10_measure 72 = .ok (.bipush 99, 2) := by decide +kernel
theorem dX10_measure_74 : decode cX10_measure 74 = .ok (.if_icmp .ne 37, 3) := by decide +kernel
theorem dX10_measure_77 : decode cX10_measure 77 = .ok (.aload_n 0, 1) := by decide +kernel
theorem dX10_measure_78 : decode cX10_measure 78 = .ok (.iload 6, 2) := by decide +kernel
theorem dX10_measure_80 : decode cX10_measure 80 = .ok (.invokevirtual 34, 3) := by decide +kernel
theorem dX10_measure_83 : decode cX10_measure 83 = .ok (.iload 4, 2) := by decide +kernel
theorem dX10_measure_85 : decode cX10_measure 85 = .ok (.if_icmp .lt 26, 3) := by decide +kernel
theorem dX10_measure_88 : decode cX10_measure 88 = .ok (.aload_n 0, 1) := by decide +kernel
theorem dX10_measure_89 : decode cX10_measure 89 = .ok (.aload_n 1, 1) := by decide +kernel
theorem dX10_measure_90 : decode cX10_measure 90 = .ok (.iload 6, 2) := by decide +kernel
theorem dX10_measure_92 : decode cX10_measure 92 = .ok (.iload 5, 2) := by decide +kernel
theorem dX10_measure_94 : decode cX10_measure 94 = .ok (.iconst 1, 1) := by decide +kernel
theorem dX10_measure_95 : decode cX10_measure 95 = .ok (.isub, 1) := by decide +kernel
theorem dX10_measure_96 : decode cX10_measure 96 = .ok (.invokevirtual 52, 3) := by decide +kernel
theorem dX10_measure_99 : decode cX10_measure 99 = .ok (.ifCond .eq 12, 3) := by decide +kernel
theorem dX10_measure_102 : decode cX10_measure 102 = .ok (.aload_n 0, 1) := by decide +kernel
theorem dX10_measure_103 : decode cX10_measure 103 = .ok (.getfield 15, 3) := by decide +kernel
theorem dX10_measure_106 : decode cX10_measure 106 = .ok (.iload 6, 2) := by decide +kernel
theorem dX10_measure_108 : decode cX10_measure 108 = .ok (.iload 5, 2) := by decide +kernel
theorem dX10_measure_110 : decode cX10_measure 110 = .ok (.iastore, 1) := by decide +kernel
theorem dX10_measure_111 : decode cX10_measure 111 = .ok (.iinc 6 1, 3) := by decide +kernel
theorem dX10_measure_114 : decode cX10_measure 114 = .ok (.goto (-56), 3) := by decide +kernel
theorem dX10_measure_117 : decode cX10_measure 117 = .ok (.iinc 5 1, 3) := by decide +kernel
theorem dX10_measure_120 : decode cX10_measure 120 = .ok (.goto (-72), 3) := by decide +kernel
theorem dX10_measure_123 : decode cX10_measure 123 = .ok (.aload_n 0, 1) := by decide +kernel
theorem dX10_measure_124 : decode cX10_measure 124 = .ok (.iload_n 2, 1) := by decide +kernel
theorem dX10_measure_125 : decode cX10_measure 125 = .ok (.invokevirtual 42, 3) := by decide +kernel
theorem dX10_measure_128 : decode cX10_measure 128 = .ok (.ireturn, 1) := by decide +kernel
theorem dX10_handsToOneAt_0 : decode cX10_handsToOneAt 0 = .ok (.iconst 0, 1) := by decide +kernel
theorem dX10_handsToOneAt_1 : decode cX10_handsToOneAt 1 = .ok (.istore 4, 2) := by decide +kernel
theorem dX10_handsToOneAt_3 : decode cX10_handsToOneAt 3 = .ok (.iload 4, 2) := by decide +kernel
theorem dX10_handsToOneAt_5 : decode cX10_handsToOneAt 5 = .ok (.aload_n 1, 1) := by decide +kernel
theorem dX10_handsToOneAt_6 : decode cX10_handsToOneAt 6 = .ok (.invokevirtual 28, 3) := by decide +kernel
theorem dX10_handsToOneAt_9 : decode cX10_handsToOneAt 9 = .ok (.if_icmp .ge 34, 3) := by decide +kernel
theorem dX10_handsToOneAt_12 : decode cX10_handsToOneAt 12 = .ok (.aload_n 1, 1) := by decide +kernel
theorem dX10_handsToOneAt_13 : decode cX10_handsToOneAt 13 = .ok (.iload_n 2, 1) := by decide +kernel
theorem dX10_handsToOneAt_14 : decode cX10_handsToOneAt 14 = .ok (.invokevirtual 49, 3) := by decide +kernel
theorem dX10_handsToOneAt_17 : decode cX10_handsToOneAt 17 = .ok (.iload 4, 2) := by decide +kernel
theorem dX10_handsToOneAt_19 : decode cX10_handsToOneAt 19 = .ok (.ishr, 1) := by decide +kernel
theorem dX10_handsToOneAt_20 : decode cX10_handsToOneAt 20 = .ok (.iconst 1, 1) := by decide +kernel
theorem dX10_handsToOneAt_21 : decode cX10_handsToOneAt 21 = .ok (.iand, 1) := by decide +kernel
theorem dX10_handsToOneAt_22 : decode cX10_handsToOneAt 22 = .ok (.ifCond .eq 15, 3) := by decide +kernel
theorem dX10_handsToOneAt_25 : decode cX10_handsToOneAt 25 = .ok (.aload_n 0, 1) := by decide +kernel
theorem dX10_handsToOneAt_26 : decode cX10_handsToOneAt 26 = .ok (.iload 4, 2) := by decide +kernel
theorem dX10_handsToOneAt_28 : decode cX10_handsToOneAt 28 = .ok (.invokevirtual 42, 3) := by decide +kernel
theorem dX10_handsToOneAt_31 : decode cX10_handsToOneAt 31 = .ok (.iload_n 3, 1) := by decide +kernel
theorem dX10_handsToOneAt_32 : decode cX10_handsToOneAt 32 = .ok (.if_icmp .ne 5, 3) := by decide +kernel
theorem dX10_handsToOneAt_35 : decode cX10_handsToOneAt 35 = .ok (.iconst 1, 1) := by decide +kernel
theorem dX10_handsToOneAt_36 : decode cX10_handsToOneAt 36 = .ok (.ireturn, 1) := by decide +kernel
theorem dX10_handsToOneAt_37 : decode cX10_handsToOneAt 37 = .ok (.iinc 4 1, 3) := by decide +kernel
theorem dX10_handsToOneAt_40 : decode cX10_handsToOneAt 40 = .ok (.goto (-37), 3) := by decide +kernel
theorem dX10_handsToOneAt_43 : decode cX10_handsToOneAt 43 = .ok (.iconst 0, 1) := by decide +kernel
theorem dX10_handsToOneAt_44 : decode cX10_handsToOneAt 44 = .ok (.ireturn, 1) := by decide +kernel
theorem dX10_weighers_0 : decode cX10_weighers 0 = .ok (.aload_n 0, 1) := by decide +kernel
theorem dX10_weighers_1 : decode cX10_weighers 1 = .ok (.aload_n 1, 1) := by decide +kernel
theorem dX10_weighers_2 : decode cX10_weighers 2 = .ok (.iload_n 3, 1) := by decide +kernel
theorem dX10_weighers_3 : decode cX10_weighers 3 = .ok (.invokevirtual 24, 3) := by decide +kernel
theorem dX10_weighers_6 : decode cX10_weighers 6 = .ok (.iconst 0, 1) := by decide +kernel
theorem dX10_weighers_7 : decode cX10_weighers 7 = .ok (.istore 4, 2) := by decide +kernel
theorem dX10_weighers_9 : decode cX10_weighers 9 = .ok (.iconst 0, 1) := by decide +kernel
theorem dX10_weighers_10 : decode cX10_weighers 10 = .ok (.istore 5, 2) := by decide +kernel
theorem dX10_weighers_12 : decode cX10_weighers 12 = .ok (.iload 5, 2) := by decide +kernel
theorem dX10_weighers_14 : decode cX10_weighers 14 = .ok (.iconst 1, 1) := by decide +kernel
theorem dX10_weighers_15 : decode cX10_weighers 15 = .ok (.aload_n 1, 1) := by decide +kernel
theorem dX10_weighers_16 : decode cX10_weighers 16 = .ok (.invokevirtual 28, 3) := by decide +kernel
theorem dX10_weighers_19 : decode cX10_weighers 19 = .ok (.ishl, 1) := by decide +kernel
theorem dX10_weighers_20 : decode cX10_weighers 20 = .ok (.if_icmp .ge 38, 3) := by decide +kernel
theorem dX10_weighers_23 : decode cX10_weighers 23 = .ok (.aload_n 1, 1) := by decide +kernel
theorem dX10_weighers_24 : decode cX10_weighers 24 = .ok (.iload 5, 2) := by decide +kernel
theorem dX10_weighers_26 : decode cX10_weighers 26 = .ok (.invokestatic 56, 3) := by decide +kernel
theorem dX10_weighers_29 : decode cX10_weighers 29 = .ok (.iload_n 2, 1) := by decide +kernel
theorem dX10_weighers_30 : decode cX10_weighers 30 = .ok (.if_icmp .gt 22, 3) := by decide +kernel
theorem dX10_weighers_33 : decode cX10_weighers 33 = .ok (.aload_n 0, 1) := by decide +kernel
theorem dX10_weighers_34 : decode cX10_weighers 34 = .ok (.iload 5, 2) := by decide +kernel
theorem dX10_weighers_36 : decode cX10_weighers 36 = .ok (.invokevirtual 59, 3) := by decide +kernel
theorem dX10_weighers_39 : decode cX10_weighers 39 = .ok (.aload_n 0, 1) := by decide +kernel
theorem dX10_weighers_40 : decode cX10_weighers 40 = .ok (.iload 4, 2) := by decide +kernel
theorem dX10_weighers_42 : decode cX10_weighers 42 = .ok (.invokevirtual 59, 3) := by decide +kernel
theorem dX10_weighers_45 : decode cX10_weighers 45 = .ok (.if_icmp .le 7, 3) := by decide +kernel
theorem dX10_weighers_48 : decode cX10_weighers 48 = .ok (.iload 5, 2) := by decide +kernel
theorem dX10_weighers_50 : decode cX10_weighers 50 = .ok (.istore 4, 2) := by decide +kernel
theorem dX10_weighers_52 : decode cX10_weighers 52 = .ok (.iinc 5 1, 3) := by decide +kernel
theorem dX10_weighers_55 : decode cX10_weighers 55 = .ok (.goto (-43), 3) := by decide +kernel
theorem dX10_weighers_58 : decode cX10_weighers 58 = .ok (.iload 4, 2) := by decide +kernel
theorem dX10_weighers_60 : decode cX10_weighers 60 = .ok (.ireturn, 1) := by decide +kernel
theorem dX10_weightTogether_0 : decode cX10_weightTogether 0 = .ok (.iconst 0, 1) := by decide +kernel
theorem dX10_weightTogether_1 : decode cX10_weightTogether 1 = .ok (.istore_n 2, 1) := by decide +kernel
theorem dX10_weightTogether_2 : decode cX10_weightTogether 2 = .ok (.iconst 0, 1) := by decide +kernel
theorem dX10_weightTogether_3 : decode cX10_weightTogether 3 = .ok (.istore_n 3, 1) := by decide +kernel
theorem dX10_weightTogether_4 : decode cX10_weightTogether 4 = .ok (.iload_n 3, 1) := by decide +kernel
theorem dX10_weightTogether_5 : decode cX10_weightTogether 5 = .ok (.bipush 6, 2) := by decide +kernel
theorem dX10_weightTogether_7 : decode cX10_weightTogether 7 = .ok (.if_icmp .ge 25, 3) := by decide +kernel
theorem dX10_weightTogether_10 : decode cX10_weightTogether 10 = .ok (.iload_n 1, 1) := by decide +kernel
theorem dX10_weightTogether_11 : decode cX10_weightTogether 11 = .ok (.iload_n 3, 1) := by decide +kernel
theorem dX10_weightTogether_12 : decode cX10_weightTogether 12 = .ok (.ishr, 1) := by decide +kernel
theorem dX10_weightTogether_13 : decode cX10_weightTogether 13 = .ok (.iconst 1, 1) := by decide +kernel
theorem dX10_weightTogether_14 : decode cX10_weightTogether 14 = .ok (.iand, 1) := by decide +kernel
theorem dX10_weightTogether_15 : decode cX10_weightTogether 15 = .ok (.ifCond .eq 11, 3) := by decide +kernel
theorem dX10_weightTogether_18 : decode cX10_weightTogether 18 = .ok (.iload_n 2, 1) := by decide +kernel
theorem dX10_weightTogether_19 : decode cX10_weightTogether 19 = .ok (.aload_n 0, 1) := by decide +kernel
theorem dX10_weightTogether_20 : decode cX10_weightTogether 20 = .ok (.iload_n 3, 1) := by decide +kernel
theorem dX10_weightTogether_21 : decode cX10_weightTogether 21 = .ok (.invokevirtual 34, 3) := by decide +kernel
theorem dX10_weightTogether_24 : decode cX10_weightTogether 24 = .ok (.iadd, 1) := by decide +kernel
theorem dX10_weightTogether_25 : decode cX10_weightTogether 25 = .ok (.istore_n 2, 1) := by decide +kernel
theorem dX10_weightTogether_26 : decode cX10_weightTogether 26 = .ok (.iinc 3 1, 3) := by decide +kernel
theorem dX10_weightTogether_29 : decode cX10_weightTogether 29 = .ok (.goto (-25), 3) := by decide +kernel
theorem dX10_weightTogether_32 : decode cX10_weightTogether 32 = .ok (.iload_n 2, 1) := by decide +kernel
theorem dX10_weightTogether_33 : decode cX10_weightTogether 33 = .ok (.ireturn, 1) := by decide +kernel
theorem dX10_payTogether_0 : decode cX10_payTogether 0 = .ok (.iconst 0, 1) := by decide +kernel
theorem dX10_payTogether_1 : decode cX10_payTogether 1 = .ok (.istore_n 2, 1) := by decide +kernel
theorem dX10_payTogether_2 : decode cX10_payTogether 2 = .ok (.iconst 0, 1) := by decide +kernel
theorem dX10_payTogether_3 : decode cX10_payTogether 3 = .ok (.istore_n 3, 1) := by decide +kernel
theorem dX10_payTogether_4 : decode cX10_payTogether 4 = .ok (.iload_n 3, 1) := by decide +kernel
theorem dX10_payTogether_5 : decode cX10_payTogether 5 = .ok (.bipush 6, 2) := by decide +kernel
theorem dX10_payTogether_7 : decode cX10_payTogether 7 = .ok (.if_icmp .ge 25, 3) := by decide +kernel
theorem dX10_payTogether_10 : decode cX10_payTogether 10 = .ok (.iload_n 1, 1) := by decide +kernel
theorem dX10_payTogether_11 : decode cX10_payTogether 11 = .ok (.iload_n 3, 1) := by decide +kernel
theorem dX10_payTogether_12 : decode cX10_payTogether 12 = .ok (.ishr, 1) := by decide +kernel
theorem dX10_payTogether_13 : decode cX10_payTogether 13 = .ok (.iconst 1, 1) := by decide +kernel
theorem dX10_payTogether_14 : decode cX10_payTogether 14 = .ok (.iand, 1) := by decide +kernel
theorem dX10_payTogether_15 : decode cX10_payTogether 15 = .ok (.ifCond .eq 11, 3) := by decide +kernel
theorem dX10_payTogether_18 : decode cX10_payTogether 18 = .ok (.iload_n 2, 1) := by decide +kernel
theorem dX10_payTogether_19 : decode cX10_payTogether 19 = .ok (.aload_n 0, 1) := by decide +kernel
theorem dX10_payTogether_20 : decode cX10_payTogether 20 = .ok (.iload_n 3, 1) := by decide +kernel
theorem dX10_payTogether_21 : decode cX10_payTogether 21 = .ok (.invokevirtual 62, 3) := by decide +kernel
theorem dX10_payTogether_24 : decode cX10_payTogether 24 = .ok (.iadd, 1) := by decide +kernel
theorem dX10_payTogether_25 : decode cX10_payTogether 25 = .ok (.istore_n 2, 1) := by decide +kernel
theorem dX10_payTogether_26 : decode cX10_payTogether 26 = .ok (.iinc 3 1, 3) := by decide +kernel
theorem dX10_payTogether_29 : decode cX10_payTogether 29 = .ok (.goto (-25), 3) := by decide +kernel
theorem dX10_payTogether_32 : decode cX10_payTogether 32 = .ok (.iload_n 2, 1) := by decide +kernel
theorem dX10_payTogether_33 : decode cX10_payTogether 33 = .ok (.ireturn, 1) := by decide +kernel
theorem dX10_shelve_0 : decode cX10_shelve 0 = .ok (.aload_n 0, 1) := by decide +kernel
theorem dX10_shelve_1 : decode cX10_shelve 1 = .ok (.aload_n 1, 1) := by decide +kernel
theorem dX10_shelve_2 : decode cX10_shelve 2 = .ok (.iload_n 2, 1) := by decide +kernel
theorem dX10_shelve_3 : decode cX10_shelve 3 = .ok (.iload_n 3, 1) := by decide +kernel
theorem dX10_shelve_4 : decode cX10_shelve 4 = .ok (.invokevirtual 65, 3) := by decide +kernel
theorem dX10_shelve_7 : decode cX10_shelve 7 = .ok (.aload_n 1, 1) := by decide +kernel
theorem dX10_shelve_8 : decode cX10_shelve 8 = .ok (.invokevirtual 28, 3) := by decide +kernel
theorem dX10_shelve_11 : decode cX10_shelve 11 = .ok (.istore 4, 2) := by decide +kernel
theorem dX10_shelve_13 : decode cX10_shelve 13 = .ok (.iconst 1, 1) := by decide +kernel
theorem dX10_shelve_14 : decode cX10_shelve 14 = .ok (.iload 4, 2) := by decide +kernel
theorem dX10_shelve_16 : decode cX10_shelve 16 = .ok (.ishl, 1) := by decide +kernel
theorem dX10_shelve_17 : decode cX10_shelve 17 = .ok (.iconst 1, 1) := by decide +kernel
theorem dX10_shelve_18 : decode cX10_shelve 18 = .ok (.isub, 1) := by decide +kernel
theorem dX10_shelve_19 : decode cX10_shelve 19 = .ok (.istore 5, 2) := by decide +kernel
theorem dX10_shelve_21 : decode cX10_shelve 21 = .ok (.iload 5, 2) := by decide +kernel
theorem dX10_shelve_23 : decode cX10_shelve 23 = .ok (.istore 6, 2) := by decide +kernel
theorem dX10_shelve_25 : decode cX10_shelve 25 = .ok (.iload 6, 2) := by decide +kernel
theorem dX10_shelve_27 : decode cX10_shelve 27 = .ok (.ifCond .lt 73, 3) := by decide +kernel
theorem dX10_shelve_30 : decode cX10_shelve 30 = .ok (.iload 6, 2) := by decide +kernel
theorem dX10_shelve_32 : decode cX10_shelve 32 = .ok (.iload 5, 2) := by decide +kernel
theorem dX10_shelve_34 : decode cX10_shelve 34 = .ok (.if_icmp .ne 8, 3) := by decide +kernel
theorem dX10_shelve_37 : decode cX10_shelve 37 = .ok (.ldc 69, 2) := by decide +kernel
theorem dX10_shelve_39 : decode cX10_shelve 39 = .ok (.goto 4, 3) := by decide +kernel
theorem dX10_shelve_42 : decode cX10_shelve 42 = .ok (.iconst (-1), 1) := by decide +kernel
theorem dX10_shelve_43 : decode cX10_shelve 43 = .ok (.istore 7, 2) := by decide +kernel
theorem dX10_shelve_45 : decode cX10_shelve 45 = .ok (.iconst 0, 1) := by decide +kernel
theorem dX10_shelve_46 : decode cX10_shelve 46 = .ok (.istore 8, 2) := by decide +kernel
theorem dX10_shelve_48 : decode cX10_shelve 48 = .ok (.iload 8, 2) := by decide +kernel
theorem dX10_shelve_50 : decode cX10_shelve 50 = .ok (.iload 4, 2) := by decide +kernel
theorem dX10_shelve_52 : decode cX10_shelve 52 = .ok (.if_icmp .ge 34, 3) := by decide +kernel
theorem dX10_shelve_55 : decode cX10_shelve 55 = .ok (.iload 6, 2) := by decide +kernel
theorem dX10_shelve_57 : decode cX10_shelve 57 = .ok (.iload 8, 2) := by decide +kernel
theorem dX10_shelve_59 : decode cX10_shelve 59 = .ok (.ishr, 1) := by decide +kernel
theorem dX10_shelve_60 : decode cX10_shelve 60 = .ok (.iconst 1, 1) := by decide +kernel
theorem dX10_shelve_61 : decode cX10_shelve 61 = .ok (.iand, 1) := by decide +kernel
theorem dX10_shelve_62 : decode cX10_shelve 62 = .ok (.ifCond .ne 18, 3) := by decide +kernel
theorem dX10_shelve_65 : decode cX10_shelve 65 = .ok (.iload 7, 2) := by decide +kernel
theorem dX10_shelve_67 : decode cX10_shelve 67 = .ok (.aload_n 0, 1) := by decide +kernel
theorem dX10_shelve_68 : decode cX10_shelve 68 = .ok (.iload 6, 2) := by decide +kernel
theorem dX10_shelve_70 : decode cX10_shelve 70 = .ok (.iload 8, 2) := by decide +kernel
theorem dX10_shelve_72 : decode cX10_shelve 72 = .ok (.invokevirtual 70, 3) := by decide +kernel
theorem dX10_shelve_75 : decode cX10_shelve 75 = .ok (.invokestatic 74, 3) := by decide +kernel
theorem dX10_shelve_78 : decode cX10_shelve 78 = .ok (.istore 7, 2) := by decide +kernel
theorem dX10_shelve_80 : decode cX10_shelve 80 = .ok (.iinc 8 1, 3) := by decide +kernel
theorem dX10_shelve_83 : decode cX10_shelve 83 = .ok (.goto (-35), 3) := by decide +kernel
theorem dX10_shelve_86 : decode cX10_shelve 86 = .ok (.aload_n 0, 1) := by decide +kernel
theorem dX10_shelve_87 : decode cX10_shelve 87 = .ok (.iload 6, 2) := by decide +kernel
theorem dX10_shelve_89 : decode cX10_shelve 89 = .ok (.iload 7, 2) := by decide +kernel
theorem dX10_shelve_91 : decode cX10_shelve 91 = .ok (.invokevirtual 79, 3) := by decide +kernel
theorem dX10_shelve_94 : decode cX10_shelve 94 = .ok (.iinc 6 (-1), 3) := by decide +kernel
theorem dX10_shelve_97 : decode cX10_shelve 97 = .ok (.goto (-72), 3) := by decide +kernel
theorem dX10_shelve_100 : decode cX10_shelve 100 = .ok (.iload 4, 2) := by decide +kernel
theorem dX10_shelve_102 : decode cX10_shelve 102 = .ok (.ifCond .ne 7, 3) := by decide +kernel
theorem dX10_shelve_105 : decode cX10_shelve 105 = .ok (.iconst 0, 1) := by decide +kernel
theorem dX10_shelve_106 : decode cX10_shelve 106 = .ok (.goto 8, 3) := by decide +kernel
theorem dX10_shelve_109 : decode cX10_shelve 109 = .ok (.aload_n 0, 1) := by decide +kernel
theorem dX10_shelve_110 : decode cX10_shelve 110 = .ok (.iconst 0, 1) := by decide +kernel
theorem dX10_shelve_111 : decode cX10_shelve 111 = .ok (.invokevirtual 83, 3) := by decide +kernel
theorem dX10_shelve_114 : decode cX10_shelve 114 = .ok (.ireturn, 1) := by decide +kernel
theorem dX10_bagOf_0 : decode cX10_bagOf 0 = .ok (.iconst 0, 1) := by decide +kernel
theorem dX10_bagOf_1 : decode cX10_bagOf 1 = .ok (.istore_n 3, 1) := by decide +kernel
theorem dX10_bagOf_2 : decode cX10_bagOf 2 = .ok (.iconst 0, 1) := by decide +kernel
theorem dX10_bagOf_3 : decode cX10_bagOf 3 = .ok (.istore 4, 2) := by decide +kernel
theorem dX10_bagOf_5 : decode cX10_bagOf 5 = .ok (.iconst 0, 1) := by decide +kernel
theorem dX10_bagOf_6 : decode cX10_bagOf 6 = .ok (.istore 5, 2) := by decide +kernel
theorem dX10_bagOf_8 : decode cX10_bagOf 8 = .ok (.iload 5, 2) := by decide +kernel
theorem dX10_bagOf_10 : decode cX10_bagOf 10 = .ok (.iload_n 1, 1) := by decide +kernel
theorem dX10_bagOf_11 : decode cX10_bagOf 11 = .ok (.if_icmp .gt 31, 3) := by decide +kernel
theorem dX10_bagOf_14 : decode cX10_bagOf 14 = .ok (.iload 5, 2) := by decide +kernel
theorem dX10_bagOf_16 : decode cX10_bagOf 16 = .ok (.bipush 6, 2) := by decide +kernel
theorem dX10_bagOf_18 : decode cX10_bagOf 18 = .ok (.if_icmp .ge 24, 3) := by decide +kernel
theorem dX10_bagOf_21 : decode cX10_bagOf 21 = .ok (.aload_n 0, 1) := by decide +kernel
theorem dX10_bagOf_22 : decode cX10_bagOf 22 = .ok (.iload_n 3, 1) := by decide +kernel
theorem dX10_bagOf_23 : decode cX10_bagOf 23 = .ok (.iload_n 2, 1) := by decide +kernel
theorem dX10_bagOf_24 : decode cX10_bagOf 24 = .ok (.invokevirtual 86, 3) := by decide +kernel
theorem dX10_bagOf_27 : decode cX10_bagOf 27 = .ok (.istore 4, 2) := by decide +kernel
theorem dX10_bagOf_29 : decode cX10_bagOf 29 = .ok (.iload_n 3, 1) := by decide +kernel
theorem dX10_bagOf_30 : decode cX10_bagOf 30 = .ok (.iconst 1, 1) := by decide +kernel
theorem dX10_bagOf_31 : decode cX10_bagOf 31 = .ok (.iload 4, 2) := by decide +kernel
theorem dX10_bagOf_33 : decode cX10_bagOf 33 = .ok (.ishl, 1) := by decide +kernel
theorem dX10_bagOf_34 : decode cX10_bagOf 34 = .ok (.ior, 1) := by decide +kernel
theorem dX10_bagOf_35 : decode cX10_bagOf 35 = .ok (.istore_n 3, 1) := by decide +kernel
theorem dX10_bagOf_36 : decode cX10_bagOf 36 = .ok (.iinc 5 1, 3) := by decide +kernel
theorem dX10_bagOf_39 : decode cX10_bagOf 39 = .ok (.goto (-31), 3) := by decide +kernel
theorem dX10_bagOf_42 : decode cX10_bagOf 42 = .ok (.iload 4, 2) := by decide +kernel
theorem dX10_bagOf_44 : decode cX10_bagOf 44 = .ok (.ireturn, 1) := by decide +kernel
theorem dX10_firstBag_0 : decode cX10_firstBag 0 = .ok (.iconst 0, 1) := by decide +kernel
theorem dX10_firstBag_1 : decode cX10_firstBag 1 = .ok (.istore_n 3, 1) := by decide +kernel
theorem dX10_firstBag_2 : decode cX10_firstBag 2 = .ok (.iload_n 3, 1) := by decide +kernel
theorem dX10_firstBag_3 : decode cX10_firstBag 3 = .ok (.iload_n 2, 1) := by decide +kernel
theorem dX10_firstBag_4 : decode cX10_firstBag 4 = .ok (.if_icmp .ge 33, 3) := by decide +kernel
theorem dX10_firstBag_7 : decode cX10_firstBag 7 = .ok (.iload_n 1, 1) := by decide +kernel
theorem dX10_firstBag_8 : decode cX10_firstBag 8 = .ok (.iload_n 3, 1) := by decide +kernel
theorem dX10_firstBag_9 : decode cX10_firstBag 9 = .ok (.ishr, 1) := by decide +kernel
theorem dX10_firstBag_10 : decode cX10_firstBag 10 = .ok (.iconst 1, 1) := by decide +kernel
theorem dX10_firstBag_11 : decode cX10_firstBag 11 = .ok (.iand, 1) := by decide +kernel
theorem dX10_firstBag_12 : decode cX10_firstBag 12 = .ok (.ifCond .ne 19, 3) := by decide +kernel
theorem dX10_firstBag_15 : decode cX10_firstBag 15 = .ok (.aload_n 0, 1) := by decide +kernel
theorem dX10_firstBag_16 : decode cX10_firstBag 16 = .ok (.iload_n 1, 1) := by decide +kernel
theorem dX10_firstBag_17 : decode cX10_firstBag 17 = .ok (.iload_n 3, 1) := by decide +kernel
theorem dX10_firstBag_18 : decode cX10_firstBag 18 = .ok (.invokevirtual 70, 3) := by decide +kernel
theorem dX10_firstBag_21 : decode cX10_firstBag 21 = .ok (.aload_n 0, 1) := by decide +kernel
theorem dX10_firstBag_22 : decode cX10_firstBag 22 = .ok (.iconst 0, 1) := by decide +kernel
theorem dX10_firstBag_23 : decode cX10_firstBag 23 = .ok (.invokevirtual 83, 3) := by decide +kernel
theorem dX10_firstBag_26 : decode cX10_firstBag 26 = .ok (.if_icmp .lt 5, 3) := by decide +kernel
theorem dX10_firstBag_29 : decode cX10_firstBag 29 = .ok (.iload_n 3, 1) := by decide +kernel
theorem dX10_firstBag_30 : decode cX10_firstBag 30 = .ok (.ireturn, 1) := by decide +kernel
theorem dX10_firstBag_31 : decode cX10_firstBag 31 = .ok (.iinc 3 1, 3) := by decide +kernel
theorem dX10_firstBag_34 : decode cX10_firstBag 34 = .ok (.goto (-32), 3) := by decide +kernel
theorem dX10_firstBag_37 : decode cX10_firstBag 37 = .ok (.iconst 0, 1) := by decide +kernel
theorem dX10_firstBag_38 : decode cX10_firstBag 38 = .ok (.ireturn, 1) := by decide +kernel
theorem dX10_lightestWith_0 : decode cX10_lightestWith 0 = .ok (.iload_n 1, 1) := by decide +kernel
theorem dX10_lightestWith_1 : decode cX10_lightestWith 1 = .ok (.invokestatic 89, 3) := by decide +kernel
theorem dX10_lightestWith_4 : decode cX10_lightestWith 4 = .ok (.istore_n 3, 1) := by decide +kernel
theorem dX10_lightestWith_5 : decode cX10_lightestWith 5 = .ok (.aload_n 0, 1) := by decide +kernel
theorem dX10_lightestWith_6 : decode cX10_lightestWith 6 = .ok (.iload_n 3, 1) := by decide +kernel
theorem dX10_lightestWith_7 : decode cX10_lightestWith 7 = .ok (.iload_n 2, 1) := by decide +kernel
theorem dX10_lightestWith_8 : decode cX10_lightestWith 8 = .ok (.invokevirtual 94, 3) := by decide +kernel
theorem dX10_lightestWith_11 : decode cX10_lightestWith 11 = .ok (.aload_n 0, 1) := by decide +kernel
theorem dX10_lightestWith_12 : decode cX10_lightestWith 12 = .ok (.iload_n 1, 1) := by decide +kernel
theorem dX10_lightestWith_13 : decode cX10_lightestWith 13 = .ok (.iconst 1, 1) := by decide +kernel
theorem dX10_lightestWith_14 : decode cX10_lightestWith 14 = .ok (.iload_n 2, 1) := by decide +kernel
theorem dX10_lightestWith_15 : decode cX10_lightestWith 15 = .ok (.ishl, 1) := by decide +kernel
theorem dX10_lightestWith_16 : decode cX10_lightestWith 16 = .ok (.ior, 1) := by decide +kernel
theorem dX10_lightestWith_17 : decode cX10_lightestWith 17 = .ok (.invokevirtual 83, 3) := by decide +kernel
theorem dX10_lightestWith_20 : decode cX10_lightestWith 20 = .ok (.invokestatic 97, 3) := by decide +kernel
theorem dX10_lightestWith_23 : decode cX10_lightestWith 23 = .ok (.ireturn, 1) := by decide +kernel
theorem dX10_weighBags_0 : decode cX10_weighBags 0 = .ok (.iconst 0, 1) := by decide +kernel
theorem dX10_weighBags_1 : decode cX10_weighBags 1 = .ok (.istore 4, 2) := by decide +kernel
theorem dX10_weighBags_3 : decode cX10_weighBags 3 = .ok (.iload 4, 2) := by decide +kernel
theorem dX10_weighBags_5 : decode cX10_weighBags 5 = .ok (.bipush 6, 2) := by decide +kernel
theorem dX10_weighBags_7 : decode cX10_weighBags 7 = .ok (.if_icmp .ge 50, 3) := by decide +kernel
theorem dX10_weighBags_10 : decode cX10_weighBags 10 = .ok (.iconst 0, 1) := by decide +kernel
theorem dX10_weighBags_11 : decode cX10_weighBags 11 = .ok (.istore 5, 2) := by decide +kernel
theorem dX10_weighBags_13 : decode cX10_weighBags 13 = .ok (.iload 5, 2) := by decide +kernel
theorem dX10_weighBags_15 : decode cX10_weighBags 15 = .ok (.bipush 6, 2) := by decide +kernel
theorem dX10_weighBags_17 : decode cX10_weighBags 17 = .ok (.if_icmp .ge 34, 3) := by decide +kernel
theorem dX10_weighBags_20 : decode cX10_weighBags 20 = .ok (.aload_n 0, 1) := by decide +kernel
theorem dX10_weighBags_21 : decode cX10_weighBags 21 = .ok (.getfield 21, 3) := by decide +kernel
theorem dX10_weighBags_24 : decode cX10_weighBags 24 = .ok (.iload 4, 2) := by decide +kernel
theorem dX10_weighBags_26 : decode cX10_weighBags 26 = .ok (.bipush 6, 2) := by decide +kernel
theorem dX10_weighBags_28 : decode cX10_weighBags 28 = .ok (.imul, 1) := by decide +kernel
theorem dX10_weighBags_29 : decode cX10_weighBags 29 = .ok (.iload 5, 2) := by decide +kernel
theorem dX10_weighBags_31 : decode cX10_weighBags 31 = .ok (.iadd, 1) := by decide +kernel
theorem dX10_weighBags_32 : decode cX10_weighBags 32 = .ok (.aload_n 1, 1) := by decide +kernel
theorem dX10_weighBags_33 : decode cX10_weighBags 33 = .ok (.iload 4, 2) := by decide +kernel
theorem dX10_weighBags_35 : decode cX10_weighBags 35 = .ok (.iload_n 2, 1) := by decide +kernel
theorem dX10_weighBags_36 : decode cX10_weighBags 36 = .ok (.iload 5, 2) := by decide +kernel
theorem dX10_weighBags_38 : decode cX10_weighBags 38 = .ok (.iload_n 3, 1) := by decide +kernel
theorem dX10_weighBags_39 : decode cX10_weighBags 39 = .ok (.imul, 1) := by decide +kernel
theorem dX10_weighBags_40 : decode cX10_weighBags 40 = .ok (.iadd, 1) := by decide +kernel
theorem dX10_weighBags_41 : decode cX10_weighBags 41 = .ok (.invokevirtual 100, 3) := by decide +kernel
theorem dX10_weighBags_44 : decode cX10_weighBags 44 = .ok (.iastore, 1) := by decide +kernel
theorem dX10_weighBags_45 : decode cX10_weighBags 45 = .ok (.iinc 5 1, 3) := by decide +kernel
theorem dX10_weighBags_48 : decode cX10_weighBags 48 = .ok (.goto (-35), 3) := by decide +kernel
theorem dX10_weighBags_51 : decode cX10_weighBags 51 = .ok (.iinc 4 1, 3) := by decide +kernel
theorem dX10_weighBags_54 : decode cX10_weighBags 54 = .ok (.goto (-51), 3) := by decide +kernel
theorem dX10_weighBags_57 : decode cX10_weighBags 57 = .ok (.return_, 1) := by decide +kernel
theorem dX10_bagWeight_0 : decode cX10_bagWeight 0 = .ok (.iload_n 1, 1) := by decide +kernel
theorem dX10_bagWeight_1 : decode cX10_bagWeight 1 = .ok (.bipush 6, 2) := by decide +kernel
theorem dX10_bagWeight_3 : decode cX10_bagWeight 3 = .ok (.imul, 1) := by decide +kernel
theorem dX10_bagWeight_4 : decode cX10_bagWeight 4 = .ok (.iload_n 2, 1) := by decide +kernel
theorem dX10_bagWeight_5 : decode cX10_bagWeight 5 = .ok (.iadd, 1) := by decide +kernel
theorem dX10_bagWeight_6 : decode cX10_bagWeight 6 = .ok (.istore_n 3, 1) := by decide +kernel
theorem dX10_bagWeight_7 : decode cX10_bagWeight 7 = .ok (.iload_n 3, 1) := by decide +kernel
theorem dX10_bagWeight_8 : decode cX10_bagWeight 8 = .ok (.ifCond .lt 21, 3) := by decide +kernel
theorem dX10_bagWeight_11 : decode cX10_bagWeight 11 = .ok (.iload_n 3, 1) := by decide +kernel
theorem dX10_bagWeight_12 : decode cX10_bagWeight 12 = .ok (.aload_n 0, 1) := by decide +kernel
theorem dX10_bagWeight_13 : decode cX10_bagWeight 13 = .ok (.getfield 21, 3) := by decide +kernel
theorem dX10_bagWeight_16 : decode cX10_bagWeight 16 = .ok (.arraylength, 1) := by decide +kernel
theorem dX10_bagWeight_17 : decode cX10_bagWeight 17 = .ok (.if_icmp .ge 12, 3) := by decide +kernel
theorem dX10_bagWeight_20 : decode cX10_bagWeight 20 = .ok (.aload_n 0, 1) := by decide +kernel
theorem dX10_bagWeight_21 : decode cX10_bagWeight 21 = .ok (.getfield 21, 3) := by decide +kernel
theorem dX10_bagWeight_24 : decode cX10_bagWeight 24 = .ok (.iload_n 3, 1) := by decide +kernel
theorem dX10_bagWeight_25 : decode cX10_bagWeight 25 = .ok (.iaload, 1) := by decide +kernel
theorem dX10_bagWeight_26 : decode cX10_bagWeight 26 = .ok (.goto 4, 3) := by decide +kernel
theorem dX10_bagWeight_29 : decode cX10_bagWeight 29 = .ok (.iconst (-1), 1) := by decide +kernel
theorem dX10_bagWeight_30 : decode cX10_bagWeight 30 = .ok (.ireturn, 1) := by decide +kernel
theorem dX10_weighEach_0 : decode cX10_weighEach 0 = .ok (.iconst 0, 1) := by decide +kernel
theorem dX10_weighEach_1 : decode cX10_weighEach 1 = .ok (.istore_n 3, 1) := by decide +kernel
theorem dX10_weighEach_2 : decode cX10_weighEach 2 = .ok (.iload_n 3, 1) := by decide +kernel
theorem dX10_weighEach_3 : decode cX10_weighEach 3 = .ok (.bipush 6, 2) := by decide +kernel
theorem dX10_weighEach_5 : decode cX10_weighEach 5 = .ok (.if_icmp .ge 33, 3) := by decide +kernel
theorem dX10_weighEach_8 : decode cX10_weighEach 8 = .ok (.aload_n 0, 1) := by decide +kernel
theorem dX10_weighEach_9 : decode cX10_weighEach 9 = .ok (.getfield 9, 3) := by decide +kernel
theorem dX10_weighEach_12 : decode cX10_weighEach 12 = .ok (.iload_n 3, 1) := by decide +kernel
theorem dX10_weighEach_13 : decode cX10_weighEach 13 = .ok (.aload_n 1, 1) := by decide +kernel
theorem dX10_weighEach_14 : decode cX10_weighEach 14 = .ok (.iload_n 3, 1) := by decide +kernel
theorem dX10_weighEach_15 : decode cX10_weighEach 15 = .ok (.invokevirtual 103, 3) := by decide +kernel
theorem dX10_weighEach_18 : decode cX10_weighEach 18 = .ok (.ifCond .eq 12, 3) := by decide +kernel
theorem dX10_weighEach_21 : decode cX10_weighEach 21 = .ok (.aload_n 1, 1) := by decide +kernel
theorem dX10_weighEach_22 : decode cX10_weighEach 22 = .ok (.iload_n 3, 1) := by decide +kernel
theorem dX10_weighEach_23 : decode cX10_weighEach 23 = .ok (.iload_n 2, 1) := by decide +kernel
theorem dX10_weighEach_24 : decode cX10_weighEach 24 = .ok (.invokevirtual 100, 3) := by decide +kernel
theorem dX10_weighEach_27 : decode cX10_weighEach 27 = .ok (.goto 4, 3) := by decide +kernel
theorem dX10_weighEach_30 : decode cX10_weighEach 30 = .ok (.iconst (-1), 1) := by decide +kernel
theorem dX10_weighEach_31 : decode cX10_weighEach 31 = .ok (.iastore, 1) := by decide +kernel
theorem dX10_weighEach_32 : decode cX10_weighEach 32 = .ok (.iinc 3 1, 3) := by decide +kernel
theorem dX10_weighEach_35 : decode cX10_weighEach 35 = .ok (.goto (-33), 3) := by decide +kernel
theorem dX10_weighEach_38 : decode cX10_weighEach 38 = .ok (.return_, 1) := by decide +kernel
theorem dX10_heftOf_0 : decode cX10_heftOf 0 = .ok (.iload_n 1, 1) := by decide +kernel
theorem dX10_heftOf_1 : decode cX10_heftOf 1 = .ok (.ifCond .lt 18, 3) := by decide +kernel
theorem dX10_heftOf_4 : decode cX10_heftOf 4 = .ok (.iload_n 1, 1) := by decide +kernel
theorem dX10_heftOf_5 : decode cX10_heftOf 5 = .ok (.bipush 6, 2) := by decide +kernel
theorem dX10_heftOf_7 : decode cX10_heftOf 7 = .ok (.if_icmp .ge 12, 3) := by decide +kernel
theorem dX10_heftOf_10 : decode cX10_heftOf 10 = .ok (.aload_n 0, 1) := by decide +kernel
theorem dX10_heftOf_11 : decode cX10_heftOf 11 = .ok (.getfield 9, 3) := by decide +kernel
theorem dX10_heftOf_14 : decode cX10_heftOf 14 = .ok (.iload_n 1, 1) := by decide +kernel
theorem dX10_heftOf_15 : decode cX10_heftOf 15 = .ok (.iaload, 1) := by decide +kernel
theorem dX10_heftOf_16 : decode cX10_heftOf 16 = .ok (.goto 4, 3) := by decide +kernel
theorem dX10_heftOf_19 : decode cX10_heftOf 19 = .ok (.iconst (-1), 1) := by decide +kernel
theorem dX10_heftOf_20 : decode cX10_heftOf 20 = .ok (.ireturn, 1) := by decide +kernel
theorem dX10_farOf_0 : decode cX10_farOf 0 = .ok (.iload_n 1, 1) := by decide +kernel
theorem dX10_farOf_1 : decode cX10_farOf 1 = .ok (.ifCond .lt 18, 3) := by decide +kernel
theorem dX10_farOf_4 : decode cX10_farOf 4 = .ok (.iload_n 1, 1) := by decide +kernel
theorem dX10_farOf_5 : decode cX10_farOf 5 = .ok (.bipush 6, 2) := by decide +kernel
theorem dX10_farOf_7 : decode cX10_farOf 7 = .ok (.if_icmp .ge 12, 3) := by decide +kernel
theorem dX10_farOf_10 : decode cX10_farOf 10 = .ok (.aload_n 0, 1) := by decide +kernel
theorem dX10_farOf_11 : decode cX10_farOf 11 = .ok (.getfield 15, 3) := by decide +kernel
theorem dX10_farOf_14 : decode cX10_farOf 14 = .ok (.iload_n 1, 1) := by decide +kernel
theorem dX10_farOf_15 : decode cX10_farOf 15 = .ok (.iaload, 1) := by decide +kernel
theorem dX10_farOf_16 : decode cX10_farOf 16 = .ok (.goto 5, 3) := by decide +kernel
theorem dX10_farOf_19 : decode cX10_farOf 19 = .ok (.bipush 99, 2) := by decide +kernel
theorem dX10_farOf_21 : decode cX10_farOf 21 = .ok (.ireturn, 1) := by decide +kernel
theorem dX10_lightestOf_0 : decode cX10_lightestOf 0 = .ok (.iload_n 1, 1) := by decide +kernel
theorem dX10_lightestOf_1 : decode cX10_lightestOf 1 = .ok (.ifCond .lt 18, 3) := by decide +kernel
theorem dX10_lightestOf_4 : decode cX10_lightestOf 4 = .ok (.iload_n 1, 1) := by decide +kernel
theorem dX10_lightestOf_5 : decode cX10_lightestOf 5 = .ok (.bipush 64, 2) := by decide +kernel
theorem dX10_lightestOf_7 : decode cX10_lightestOf 7 = .ok (.if_icmp .ge 12, 3) := by decide +kernel
theorem dX10_lightestOf_10 : decode cX10_lightestOf 10 = .ok (.aload_n 0, 1) := by decide +kernel
theorem dX10_lightestOf_11 : decode cX10_lightestOf 11 = .ok (.getfield 18, 3) := by decide +kernel
theorem dX10_lightestOf_14 : decode cX10_lightestOf 14 = .ok (.iload_n 1, 1) := by decide +kernel
theorem dX10_lightestOf_15 : decode cX10_lightestOf 15 = .ok (.iaload, 1) := by decide +kernel
theorem dX10_lightestOf_16 : decode cX10_lightestOf 16 = .ok (.goto 4, 3) := by decide +kernel
theorem dX10_lightestOf_19 : decode cX10_lightestOf 19 = .ok (.iconst (-1), 1) := by decide +kernel
theorem dX10_lightestOf_20 : decode cX10_lightestOf 20 = .ok (.ireturn, 1) := by decide +kernel
theorem dX10_putLightest_0 : decode cX10_putLightest 0 = .ok (.iload_n 1, 1) := by decide +kernel
theorem dX10_putLightest_1 : decode cX10_putLightest 1 = .ok (.ifCond .lt 16, 3) := by decide +kernel
theorem dX10_putLightest_4 : decode cX10_putLightest 4 = .ok (.iload_n 1, 1) := by decide +kernel
theorem dX10_putLightest_5 : decode cX10_putLightest 5 = .ok (.bipush 64, 2) := by decide +kernel
theorem dX10_putLightest_7 : decode cX10_putLightest 7 = .ok (.if_icmp .ge 10, 3) := by decide +kernel
theorem dX10_putLightest_10 : decode cX10_putLightest 10 = .ok (.aload_n 0, 1) := by decide +kernel
theorem dX10_putLightest_11 : decode cX10_putLightest 11 = .ok (.getfield 18, 3) := by decide +kernel
theorem dX10_putLightest_14 : decode cX10_putLightest 14 = .ok (.iload_n 1, 1) := by decide +kernel
theorem dX10_putLightest_15 : decode cX10_putLightest 15 = .ok (.iload_n 2, 1) := by decide +kernel
theorem dX10_putLightest_16 : decode cX10_putLightest 16 = .ok (.iastore, 1) := by decide +kernel
theorem dX10_putLightest_17 : decode cX10_putLightest 17 = .ok (.return_, 1) := by decide +kernel
