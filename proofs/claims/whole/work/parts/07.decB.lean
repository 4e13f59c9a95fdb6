/-! THE DECODE ROWS: each instruction of each method. -/
theorem dX12_bad_0 : decode cX12_bad 0 = .ok (.aload_n 0, 1) := by decide +kernel
theorem dX12_bad_1 : decode cX12_bad 1 = .ok (.getfield 1, 3) := by decide +kernel
theorem dX12_bad_4 : decode cX12_bad 4 = .ok (.iconst 0, 1) := by decide +kernel
theorem dX12_bad_5 : decode cX12_bad 5 = .ok (.dup2, 1) := by decide +kernel
theorem dX12_bad_6 : decode cX12_bad 6 = .ok (.iaload, 1) := by decide +kernel
theorem dX12_bad_7 : decode cX12_bad 7 = .ok (.iconst 1, 1) := by decide +kernel
theorem dX12_bad_8 : decode cX12_bad 8 = .ok (.iadd, 1) := by decide +kernel
theorem dX12_bad_9 : decode cX12_bad 9 = .ok (.iastore, 1) := by decide +kernel
theorem dX12_bad_10 : decode cX12_bad 10 = .ok (.bipush (-2), 2) := by decide +kernel
theorem dX12_bad_12 : decode cX12_bad 12 = .ok (.ireturn, 1) := by decide +kernel
theorem dX12_ten_0 : decode cX12_ten 0 = .ok (.aload_n 0, 1) := by decide +kernel
theorem dX12_ten_1 : decode cX12_ten 1 = .ok (.getfield 1, 3) := by decide +kernel
theorem dX12_ten_4 : decode cX12_ten 4 = .ok (.iconst 0, 1) := by decide +kernel
theorem dX12_ten_5 : decode cX12_ten 5 = .ok (.dup2, 1) := by decide +kernel
theorem dX12_ten_6 : decode cX12_ten 6 = .ok (.iaload, 1) := by decide +kernel
theorem dX12_ten_7 : decode cX12_ten 7 = .ok (.iconst 1, 1) := by decide +kernel
theorem dX12_ten_8 : decode cX12_ten 8 = .ok (.iadd, 1) := by decide +kernel
theorem dX12_ten_9 : decode cX12_ten 9 = .ok (.iastore, 1) := by decide +kernel
theorem dX12_ten_10 : decode cX12_ten 10 = .ok (.bipush (-10), 2) := by decide +kernel
theorem dX12_ten_12 : decode cX12_ten 12 = .ok (.ireturn, 1) := by decide +kernel
theorem dX12_no_0 : decode cX12_no 0 = .ok (.aload_n 0, 1) := by decide +kernel
theorem dX12_no_1 : decode cX12_no 1 = .ok (.getfield 1, 3) := by decide +kernel
theorem dX12_no_4 : decode cX12_no 4 = .ok (.iconst 1, 1) := by decide +kernel
theorem dX12_no_5 : decode cX12_no 5 = .ok (.dup2, 1) := by decide +kernel
theorem dX12_no_6 : decode cX12_no 6 = .ok (.iaload, 1) := by decide +kernel
theorem dX12_no_7 : decode cX12_no 7 = .ok (.iconst 1, 1) := by decide +kernel
theorem dX12_no_8 : decode cX12_no 8 = .ok (.iadd, 1) := by decide +kernel
theorem dX12_no_9 : decode cX12_no 9 = .ok (.iastore, 1) := by decide +kernel
theorem dX12_no_10 : decode cX12_no 10 = .ok (.bipush (-3), 2) := by decide +kernel
theorem dX12_no_12 : decode cX12_no 12 = .ok (.ireturn, 1) := by decide +kernel
theorem dX12_full_0 : decode cX12_full 0 = .ok (.aload_n 0, 1) := by decide +kernel
theorem dX12_full_1 : decode cX12_full 1 = .ok (.getfield 1, 3) := by decide +kernel
theorem dX12_full_4 : decode cX12_full 4 = .ok (.iconst 2, 1) := by decide +kernel
theorem dX12_full_5 : decode cX12_full 5 = .ok (.dup2, 1) := by decide +kernel
theorem dX12_full_6 : decode cX12_full 6 = .ok (.iaload, 1) := by decide +kernel
theorem dX12_full_7 : decode cX12_full 7 = .ok (.iconst 1, 1) := by decide +kernel
theorem dX12_full_8 : decode cX12_full 8 = .ok (.iadd, 1) := by decide +kernel
theorem dX12_full_9 : decode cX12_full 9 = .ok (.iastore, 1) := by decide +kernel
theorem dX12_full_10 : decode cX12_full 10 = .ok (.bipush (-4), 2) := by decide +kernel
theorem dX12_full_12 : decode cX12_full 12 = .ok (.ireturn, 1) := by decide +kernel
theorem dX12_in_0 : decode cX12_in 0 = .ok (.iload_n 0, 1) := by decide +kernel
theorem dX12_in_1 : decode cX12_in 1 = .ok (.iload_n 1, 1) := by decide +kernel
theorem dX12_in_2 : decode cX12_in 2 = .ok (.if_icmp .lt 12, 3) := by decide +kernel
theorem dX12_in_5 : decode cX12_in 5 = .ok (.iload_n 0, 1) := by decide +kernel
theorem dX12_in_6 : decode cX12_in 6 = .ok (.iload_n 2, 1) := by decide +kernel
theorem dX12_in_7 : decode cX12_in 7 = .ok (.if_icmp .gt 7, 3) := by decide +kernel
theorem dX12_in_10 : decode cX12_in 10 = .ok (.iconst 1, 1) := by decide +kernel
theorem dX12_in_11 : decode cX12_in 11 = .ok (.goto 4, 3) := by decide +kernel
theorem dX12_in_14 : decode cX12_in 14 = .ok (.iconst 0, 1) := by decide +kernel
theorem dX12_in_15 : decode cX12_in 15 = .ok (.ireturn, 1) := by decide +kernel
theorem dX12_has_0 : decode cX12_has 0 = .ok (.iload_n 0, 1) := by decide +kernel
theorem dX12_has_1 : decode cX12_has 1 = .ok (.iload_n 1, 1) := by decide +kernel
theorem dX12_has_2 : decode cX12_has 2 = .ok (.ishr, 1) := by decide +kernel
theorem dX12_has_3 : decode cX12_has 3 = .ok (.iconst 1, 1) := by decide +kernel
theorem dX12_has_4 : decode cX12_has 4 = .ok (.iand, 1) := by decide +kernel
theorem dX12_has_5 : decode cX12_has 5 = .ok (.iconst 1, 1) := by decide +kernel
theorem dX12_has_6 : decode cX12_has 6 = .ok (.if_icmp .ne 7, 3) := by decide +kernel
theorem dX12_has_9 : decode cX12_has 9 = .ok (.iconst 1, 1) := by decide +kernel
theorem dX12_has_10 : decode cX12_has 10 = .ok (.goto 4, 3) := by decide +kernel
theorem dX12_has_13 : decode cX12_has 13 = .ok (.iconst 0, 1) := by decide +kernel
theorem dX12_has_14 : decode cX12_has 14 = .ok (.ireturn, 1) := by decide +kernel
theorem dX12_lesser_0 : decode cX12_lesser 0 = .ok (.iload_n 0, 1) := by decide +kernel
theorem dX12_lesser_1 : decode cX12_lesser 1 = .ok (.iload_n 1, 1) := by decide +kernel
theorem dX12_lesser_2 : decode cX12_lesser 2 = .ok (.if_icmp .ge 7, 3) := by decide +kernel
theorem dX12_lesser_5 : decode cX12_lesser 5 = .ok (.iload_n 0, 1) := by decide +kernel
theorem dX12_lesser_6 : decode cX12_lesser 6 = .ok (.goto 4, 3) := by decide +kernel
theorem dX12_lesser_9 : decode cX12_lesser 9 = .ok (.iload_n 1, 1) := by decide +kernel
theorem dX12_lesser_10 : decode cX12_lesser 10 = .ok (.ireturn, 1) := by decide +kernel
theorem dX12_init_0 : decode cX12_init 0 = .ok (.aload_n 0, 1) := by decide +kernel
theorem dX12_init_1 : decode cX12_init 1 = .ok (.invokespecial 7, 3) := by decide +kernel
theorem dX12_init_4 : decode cX12_init 4 = .ok (.aload_n 0, 1) := by decide +kernel
theorem dX12_init_5 : decode cX12_init 5 = .ok (.iconst 3, 1) := by decide +kernel
theorem dX12_init_6 : decode cX12_init 6 = .ok (.newarray .int, 2) := by decide +kernel
theorem dX12_init_8 : decode cX12_init 8 = .ok (.putfield 1, 3) := by decide +kernel
theorem dX12_init_11 : decode cX12_init 11 = .ok (.aload_n 0, 1) := by decide +kernel
theorem dX12_init_12 : decode cX12_init 12 = .ok (.bipush 6, 2) := by decide +kernel
theorem dX12_init_14 : decode cX12_init 14 = .ok (.newarray .int, 2) := by decide +kernel
theorem dX12_init_16 : decode cX12_init 16 = .ok (.putfield 13, 3) := by decide +kernel
theorem dX12_init_19 : decode cX12_init 19 = .ok (.aload_n 0, 1) := by decide +kernel
theorem dX12_init_20 : decode cX12_init 20 = .ok (.bipush 6, 2) := by decide +kernel
theorem dX12_init_22 : decode cX12_init 22 = .ok (.newarray .int, 2) := by decide +kernel
theorem dX12_init_24 : decode cX12_init 24 = .ok (.putfield 16, 3) := by decide +kernel
theorem dX12_init_27 : decode cX12_init 27 = .ok (.aload_n 0, 1) := by decide +kernel
theorem dX12_init_28 : decode cX12_init 28 = .ok (.bipush 6, 2) := by decide +kernel
theorem dX12_init_30 : decode cX12_init 30 = .ok (.newarray .int, 2) := by decide +kernel
theorem dX12_init_32 : decode cX12_init 32 = .ok (.putfield 19, 3) := by decide +kernel
theorem dX12_init_35 : decode cX12_init 35 = .ok (.aload_n 0, 1) := by decide +kernel
theorem dX12_init_36 : decode cX12_init 36 = .ok (.bipush 6, 2) := by decide +kernel
theorem dX12_init_38 : decode cX12_init 38 = .ok (.newarray .int, 2) := by decide +kernel
theorem dX12_init_40 : decode cX12_init 40 = .ok (.putfield 22, 3) := by decide +kernel
theorem dX12_init_43 : decode cX12_init 43 = .ok (.aload_n 0, 1) := by decide +kernel
theorem dX12_init_44 : decode cX12_init 44 = .ok (.bipush 6, 2) := by decide +kernel
theorem dX12_init_46 : decode cX12_init 46 = .ok (.newarray .int, 2) := by decide +kernel
theorem dX12_init_48 : decode cX12_init 48 = .ok (.putfield 25, 3) := by decide +kernel
theorem dX12_init_51 : decode cX12_init 51 = .ok (.aload_n 0, 1) := by decide +kernel
theorem dX12_init_52 : decode cX12_init 52 = .ok (.bipush 6, 2) := by decide +kernel
theorem dX12_init_54 : decode cX12_init 54 = .ok (.newarray .int, 2) := by decide +kernel
theorem dX12_init_56 : decode cX12_init 56 = .ok (.putfield 28, 3) := by decide +kernel
theorem dX12_init_59 : decode cX12_init 59 = .ok (.aload_n 0, 1) := by decide +kernel
theorem dX12_init_60 : decode cX12_init 60 = .ok (.bipush 6, 2) := by decide +kernel
theorem dX12_init_62 : decode cX12_init 62 = .ok (.newarray .int, 2) := by decide +kernel
theorem dX12_init_64 : decode cX12_init 64 = .ok (.putfield 31, 3) := by decide +kernel
theorem dX12_init_67 : decode cX12_init 67 = .ok (.aload_n 0, 1) := by decide +kernel
theorem dX12_init_68 : decode cX12_init 68 = .ok (.bipush 6, 2) := by decide +kernel
theorem dX12_init_70 : decode cX12_init 70 = .ok (.newarray .int, 2) := by decide +kernel
theorem dX12_init_72 : decode cX12_init 72 = .ok (.putfield 34, 3) := by decide +kernel
theorem dX12_init_75 : decode cX12_init 75 = .ok (.aload_n 0, 1) := by decide +kernel
theorem dX12_init_76 : decode cX12_init 76 = .ok (.bipush 6, 2) := by decide +kernel
theorem dX12_init_78 : decode cX12_init 78 = .ok (.newarray .int, 2) := by decide +kernel
theorem dX12_init_80 : decode cX12_init 80 = .ok (.putfield 37, 3) := by decide +kernel
theorem dX12_init_83 : decode cX12_init 83 = .ok (.aload_n 0, 1) := by decide +kernel
theorem dX12_init_84 : decode cX12_init 84 = .ok (.sipush 150, 3) := by decide +kernel
theorem dX12_init_87 : decode cX12_init 87 = .ok (.newarray .int, 2) := by decide +kernel
theorem dX12_init_89 : decode cX12_init 89 = .ok (.putfield 40, 3) := by decide +kernel
theorem dX12_init_92 : decode cX12_init 92 = .ok (.aload_n 0, 1) := by decide +kernel
theorem dX12_init_93 : decode cX12_init 93 = .ok (.bipush 30, 2) := by decide +kernel
theorem dX12_init_95 : decode cX12_init 95 = .ok (.newarray .int, 2) := by decide +kernel
theorem dX12_init_97 : decode cX12_init 97 = .ok (.putfield 43, 3) := by decide +kernel
theorem dX12_init_100 : decode cX12_init 100 = .ok (.aload_n 0, 1) := by decide +kernel
theorem dX12_init_101 : decode cX12_init 101 = .ok (.bipush 112, 2) := by decide +kernel
theorem dX12_init_103 : decode cX12_init 103 = .ok (.newarray .int, 2) := by decide +kernel
theorem dX12_init_105 : decode cX12_init 105 = .ok (.putfield 46, 3) := by decide +kernel
theorem dX12_init_108 : decode cX12_init 108 = .ok (.aload_n 0, 1) := by decide +kernel
theorem dX12_init_109 : decode cX12_init 109 = .ok (.bipush 14, 2) := by decide +kernel
theorem dX12_init_111 : decode cX12_init 111 = .ok (.newarray .int, 2) := by decide +kernel
theorem dX12_init_113 : decode cX12_init 113 = .ok (.putfield 49, 3) := by decide +kernel
theorem dX12_init_116 : decode cX12_init 116 = .ok (.aload_n 0, 1) := by decide +kernel
theorem dX12_init_117 : decode cX12_init 117 = .ok (.bipush 6, 2) := by decide +kernel
theorem dX12_init_119 : decode cX12_init 119 = .ok (.newarray .int, 2) := by decide +kernel
theorem dX12_init_121 : decode cX12_init 121 = .ok (.putfield 52, 3) := by decide +kernel
theorem dX12_init_124 : decode cX12_init 124 = .ok (.aload_n 0, 1) := by decide +kernel
theorem dX12_init_125 : decode cX12_init 125 = .ok (.bipush 6, 2) := by decide +kernel
theorem dX12_init_127 : decode cX12_init 127 = .ok (.newarray .int, 2) := by decide +kernel
theorem dX12_init_129 : decode cX12_init 129 = .ok (.putfield 55, 3) := by decide +kernel
theorem dX12_init_132 : decode cX12_init 132 = .ok (.aload_n 0, 1) := by decide +kernel
theorem dX12_init_133 : decode cX12_init 133 = .ok (.bipush 6, 2) := by decide +kernel
theorem dX12_init_135 : decode cX12_init 135 = .ok (.newarray .int, 2) := by decide +kernel
theorem dX12_init_137 : decode cX12_init 137 = .ok (.putfield 58, 3) := by decide +kernel
theorem dX12_init_140 : decode cX12_init 140 = .ok (.aload_n 0, 1) := by decide +kernel
theorem dX12_init_141 : decode cX12_init 141 = .ok (.bipush 6, 2) := by decide +kernel
theorem dX12_init_143 : decode cX12_init 143 = .ok (.newarray .int, 2) := by decide +kernel
theorem dX12_init_145 : decode cX12_init 145 = .ok (.putfield 61, 3) := by decide +kernel
theorem dX12_init_148 : decode cX12_init 148 = .ok (.aload_n 0, 1) := by decide +kernel
theorem dX12_init_149 : decode cX12_init 149 = .ok (.lconst 1, 1) := by decide +kernel
theorem dX12_init_150 : decode cX12_init 150 = .ok (.putfield 64, 3) := by decide +kernel
theorem dX12_init_153 : decode cX12_init 153 = .ok (.aload_n 0, 1) := by decide +kernel
theorem dX12_init_154 : decode cX12_init 154 = .ok (.sipush 360, 3) := by decide +kernel
theorem dX12_init_157 : decode cX12_init 157 = .ok (.newarray .int, 2) := by decide +kernel
theorem dX12_init_159 : decode cX12_init 159 = .ok (.putfield 68, 3) := by decide +kernel
theorem dX12_init_162 : decode cX12_init 162 = .ok (.aload_n 0, 1) := by decide +kernel
theorem dX12_init_163 : decode cX12_init 163 = .ok (.iconst 2, 1) := by decide +kernel
theorem dX12_init_164 : decode cX12_init 164 = .ok (.newarray .int, 2) := by decide +kernel
theorem dX12_init_166 : decode cX12_init 166 = .ok (.putfield 71, 3) := by decide +kernel
theorem dX12_init_169 : decode cX12_init 169 = .ok (.aload_n 0, 1) := by decide +kernel
theorem dX12_init_170 : decode cX12_init 170 = .ok (.invokevirtual 74, 3) := by decide +kernel
theorem dX12_init_173 : decode cX12_init 173 = .ok (.return_, 1) := by decide +kernel
theorem dX12_begin_0 : decode cX12_begin 0 = .ok (.aload_n 0, 1) := by decide +kernel
theorem dX12_begin_1 : decode cX12_begin 1 = .ok (.iconst 0, 1) := by decide +kernel
theorem dX12_begin_2 : decode cX12_begin 2 = .ok (.putfield 77, 3) := by decide +kernel
theorem dX12_begin_5 : decode cX12_begin 5 = .ok (.aload_n 0, 1) := by decide +kernel
theorem dX12_begin_6 : decode cX12_begin 6 = .ok (.iconst 0, 1) := by decide +kernel
theorem dX12_begin_7 : decode cX12_begin 7 = .ok (.putfield 81, 3) := by decide +kernel
theorem dX12_begin_10 : decode cX12_begin 10 = .ok (.aload_n 0, 1) := by decide +kernel
theorem dX12_begin_11 : decode cX12_begin 11 = .ok (.iconst 0, 1) := by decide +kernel
theorem dX12_begin_12 : decode cX12_begin 12 = .ok (.putfield 84, 3) := by decide +kernel
theorem dX12_begin_15 : decode cX12_begin 15 = .ok (.aload_n 0, 1) := by decide +kernel
theorem dX12_begin_16 : decode cX12_begin 16 = .ok (.iconst 0, 1) := by decide +kernel
theorem dX12_begin_17 : decode cX12_begin 17 = .ok (.putfield 87, 3) := by decide +kernel
theorem dX12_begin_20 : decode cX12_begin 20 = .ok (.aload_n 0, 1) := by decide +kernel
theorem dX12_begin_21 : decode cX12_begin 21 = .ok (.iconst 0, 1) := by decide +kernel
theorem dX12_begin_22 : decode cX12_begin 22 = .ok (.putfield 90, 3) := by decide +kernel
theorem dX12_begin_25 : decode cX12_begin 25 = .ok (.return_, 1) := by decide +kernel
theorem dX12_isOne_0 : decode cX12_isOne 0 = .ok (.iload_n 1, 1) := by decide +kernel
theorem dX12_isOne_1 : decode cX12_isOne 1 = .ok (.iconst 0, 1) := by decide +kernel
theorem dX12_isOne_2 : decode cX12_isOne 2 = .ok (.aload_n 0, 1) := by decide +kernel
theorem dX12_isOne_3 : decode cX12_isOne 3 = .ok (.getfield 77, 3) := by decide +kernel
theorem dX12_isOne_6 : decode cX12_isOne 6 = .ok (.iconst 1, 1) := by decide +kernel
theorem dX12_isOne_7 : decode cX12_isOne 7 = .ok (.isub, 1) := by decide +kernel
theorem dX12_isOne_8 : decode cX12_isOne 8 = .ok (.invokestatic 93, 3) := by decide +kernel
theorem dX12_isOne_11 : decode cX12_isOne 11 = .ok (.ireturn, 1) := by decide +kernel
theorem dX12_gold_0 : decode cX12_gold 0 = .ok (.aload_n 0, 1) := by decide +kernel
theorem dX12_gold_1 : decode cX12_gold 1 = .ok (.getfield 77, 3) := by decide +kernel
theorem dX12_gold_4 : decode cX12_gold 4 = .ok (.istore_n 1, 1) := by decide +kernel
theorem dX12_gold_5 : decode cX12_gold 5 = .ok (.aload_n 0, 1) := by decide +kernel
theorem dX12_gold_6 : decode cX12_gold 6 = .ok (.invokevirtual 74, 3) := by decide +kernel
theorem dX12_gold_9 : decode cX12_gold 9 = .ok (.iload_n 1, 1) := by decide +kernel
theorem dX12_gold_10 : decode cX12_gold 10 = .ok (.ireturn, 1) := by decide +kernel
theorem dX12_addOne_0 : decode cX12_addOne 0 = .ok (.aload_n 0, 1) := by decide +kernel
theorem dX12_addOne_1 : decode cX12_addOne 1 = .ok (.getfield 13, 3) := by decide +kernel
theorem dX12_addOne_4 : decode cX12_addOne 4 = .ok (.aload_n 0, 1) := by decide +kernel
theorem dX12_addOne_5 : decode cX12_addOne 5 = .ok (.getfield 77, 3) := by decide +kernel
theorem dX12_addOne_8 : decode cX12_addOne 8 = .ok (.iload_n 1, 1) := by decide +kernel
theorem dX12_addOne_9 : decode cX12_addOne 9 = .ok (.iastore, 1) := by decide +kernel
theorem dX12_addOne_10 : decode cX12_addOne 10 = .ok (.aload_n 0, 1) := by decide +kernel
theorem dX12_addOne_11 : decode cX12_addOne 11 = .ok (.getfield 16, 3) := by decide +kernel
theorem dX12_addOne_14 : decode cX12_addOne 14 = .ok (.aload_n 0, 1) := by decide +kernel
theorem dX12_addOne_15 : decode cX12_addOne 15 = .ok (.getfield 77, 3) := by decide +kernel
theorem dX12_addOne_18 : decode cX12_addOne 18 = .ok (.iload_n 2, 1) := by decide +kernel
theorem dX12_addOne_19 : decode cX12_addOne 19 = .ok (.iastore, 1) := by decide +kernel
theorem dX12_addOne_20 : decode cX12_addOne 20 = .ok (.aload_n 0, 1) := by decide +kernel
theorem dX12_addOne_21 : decode cX12_addOne 21 = .ok (.getfield 19, 3) := by decide +kernel
theorem dX12_addOne_24 : decode cX12_addOne 24 = .ok (.aload_n 0, 1) := by decide +kernel
theorem dX12_addOne_25 : decode cX12_addOne 25 = .ok (.getfield 77, 3) := by decide +kernel
theorem dX12_addOne_28 : decode cX12_addOne 28 = .ok (.iload_n 3, 1) := by decide +kernel
theorem dX12_addOne_29 : decode cX12_addOne 29 = .ok (.iastore, 1) := by decide +kernel
theorem dX12_addOne_30 : decode cX12_addOne 30 = .ok (.aload_n 0, 1) := by decide +kernel
theorem dX12_addOne_31 : decode cX12_addOne 31 = .ok (.getfield 22, 3) := by decide +kernel
theorem dX12_addOne_34 : decode cX12_addOne 34 = .ok (.aload_n 0, 1) := by decide +kernel
theorem dX12_addOne_35 : decode cX12_addOne 35 = .ok (.getfield 77, 3) := by decide +kernel
theorem dX12_addOne_38 : decode cX12_addOne 38 = .ok (.iload 4, 2) := by decide +kernel
theorem dX12_addOne_40 : decode cX12_addOne 40 = .ok (.iastore, 1) := by decide +kernel
theorem dX12_addOne_41 : decode cX12_addOne 41 = .ok (.aload_n 0, 1) := by decide +kernel
theorem dX12_addOne_42 : decode cX12_addOne 42 = .ok (.getfield 25, 3) := by decide +kernel
theorem dX12_addOne_45 : decode cX12_addOne 45 = .ok (.aload_n 0, 1) := by decide +kernel
theorem dX12_addOne_46 : decode cX12_addOne 46 = .ok (.getfield 77, 3) := by decide +kernel
theorem dX12_addOne_49 : decode cX12_addOne 49 = .ok (.iconst 0, 1) := by decide +kernel
theorem dX12_addOne_50 : decode cX12_addOne 50 = .ok (.iastore, 1) := by decide +kernel
theorem dX12_addOne_51 : decode cX12_addOne 51 = .ok (.aload_n 0, 1) := by decide +kernel
theorem dX12_addOne_52 : decode cX12_addOne 52 = .ok (.dup, 1) := by decide +kernel
theorem dX12_addOne_53 : decode cX12_addOne 53 = .ok (.getfield 77, 3) := by decide +kernel
theorem dX12_addOne_56 : decode cX12_addOne 56 = .ok (.iconst 1, 1) := by decide +kernel
theorem dX12_addOne_57 : decode cX12_addOne 57 = .ok (.iadd, 1) := by decide +kernel
theorem dX12_addOne_58 : decode cX12_addOne 58 = .ok (.putfield 77, 3) := by decide +kernel
theorem dX12_addOne_61 : decode cX12_addOne 61 = .ok (.aload_n 0, 1) := by decide +kernel
theorem dX12_addOne_62 : decode cX12_addOne 62 = .ok (.iconst 0, 1) := by decide +kernel
theorem dX12_addOne_63 : decode cX12_addOne 63 = .ok (.putfield 90, 3) := by decide +kernel
theorem dX12_addOne_66 : decode cX12_addOne 66 = .ok (.aload_n 0, 1) := by decide +kernel
theorem dX12_addOne_67 : decode cX12_addOne 67 = .ok (.getfield 77, 3) := by decide +kernel
theorem dX12_addOne_70 : decode cX12_addOne 70 = .ok (.iconst 1, 1) := by decide +kernel
theorem dX12_addOne_71 : decode cX12_addOne 71 = .ok (.isub, 1) := by decide +kernel
theorem dX12_addOne_72 : decode cX12_addOne 72 = .ok (.ireturn, 1) := by decide +kernel
theorem dX12_one_0 : decode cX12_one 0 = .ok (.iload_n 1, 1) := by decide +kernel
theorem dX12_one_1 : decode cX12_one 1 = .ok (.iconst 0, 1) := by decide +kernel
theorem dX12_one_2 : decode cX12_one 2 = .ok (.iconst 5, 1) := by decide +kernel
theorem dX12_one_3 : decode cX12_one 3 = .ok (.invokestatic 93, 3) := by decide +kernel
theorem dX12_one_6 : decode cX12_one 6 = .ok (.ifCond .eq 34, 3) := by decide +kernel
theorem dX12_one_9 : decode cX12_one 9 = .ok (.iload_n 2, 1) := by decide +kernel
theorem dX12_one_10 : decode cX12_one 10 = .ok (.iconst 0, 1) := by decide +kernel
theorem dX12_one_11 : decode cX12_one 11 = .ok (.bipush 12, 2) := by decide +kernel
theorem dX12_one_13 : decode cX12_one 13 = .ok (.invokestatic 93, 3) := by decide +kernel
theorem dX12_one_16 : decode cX12_one 16 = .ok (.ifCond .eq 24, 3) := by decide +kernel
theorem dX12_one_19 : decode cX12_one 19 = .ok (.iload_n 3, 1) := by decide +kernel
theorem dX12_one_20 : decode cX12_one 20 = .ok (.iconst 0, 1) := by decide +kernel
theorem dX12_one_21 : decode cX12_one 21 = .ok (.bipush 30, 2) := by decide +kernel
theorem dX12_one_23 : decode cX12_one 23 = .ok (.invokestatic 93, 3) := by decide +kernel
theorem dX12_one_26 : decode cX12_one 26 = .ok (.ifCond .eq 14, 3) := by decide +kernel
theorem dX12_one_29 : decode cX12_one 29 = .ok (.iload 4, 2) := by decide +kernel
theorem dX12_one_31 : decode cX12_one 31 = .ok (.iconst 0, 1) := by decide +kernel
theorem dX12_one_32 : decode cX12_one 32 = .ok (.bipush 20, 2) := by decide +kernel
theorem dX12_one_34 : decode cX12_one 34 = .ok (.invokestatic 93, 3) := by decide +kernel
theorem dX12_one_37 : decode cX12_one 37 = .ok (.ifCond .ne 8, 3) := by decide +kernel
theorem dX12_one_40 : decode cX12_one 40 = .ok (.aload_n 0, 1) := by decide +kernel
theorem dX12_one_41 : decode cX12_one 41 = .ok (.invokevirtual 97, 3) := by decide +kernel
theorem dX12_one_44 : decode cX12_one 44 = .ok (.ireturn, 1) := by decide +kernel
theorem dX12_one_45 : decode cX12_one 45 = .ok (.aload_n 0, 1) := by decide +kernel
theorem dX12_one_46 : decode cX12_one 46 = .ok (.getfield 77, 3) := by decide +kernel
theorem dX12_one_49 : decode cX12_one 49 = .ok (.bipush 6, 2) := by decide +kernel
theorem dX12_one_51 : decode cX12_one 51 = .ok (.if_icmp .ne 10, 3) := by decide +kernel
theorem dX12_one_54 : decode cX12_one 54 = .ok (.aload_n 0, 1) := by decide +kernel
theorem dX12_one_55 : decode cX12_one 55 = .ok (.invokevirtual 101, 3) := by decide +kernel
theorem dX12_one_58 : decode cX12_one 58 = .ok (.goto 12, 3) := by decide +kernel
theorem dX12_one_61 : decode cX12_one 61 = .ok (.aload_n 0, 1) := by decide +kernel
theorem dX12_one_62 : decode cX12_one 62 = .ok (.iload_n 1, 1) := by decide +kernel
theorem dX12_one_63 : decode cX12_one 63 = .ok (.iload_n 2, 1) := by decide +kernel
theorem dX12_one_64 : decode cX12_one 64 = .ok (.iload_n 3, 1) := by decide +kernel
theorem dX12_one_65 : decode cX12_one 65 = .ok (.iload 4, 2) := by decide +kernel
theorem dX12_one_67 : decode cX12_one 67 = .ok (.invokevirtual 104, 3) := by decide +kernel
theorem dX12_one_70 : decode cX12_one 70 = .ok (.ireturn, 1) := by decide +kernel
theorem dX12_hands_0 : decode cX12_hands 0 = .ok (.aload_n 0, 1) := by decide +kernel
theorem dX12_hands_1 : decode cX12_hands 1 = .ok (.iload_n 1, 1) := by decide +kernel
theorem dX12_hands_2 : decode cX12_hands 2 = .ok (.invokevirtual 108, 3) := by decide +kernel
theorem dX12_hands_5 : decode cX12_hands 5 = .ok (.ifCond .eq 25, 3) := by decide +kernel
theorem dX12_hands_8 : decode cX12_hands 8 = .ok (.aload_n 0, 1) := by decide +kernel
theorem dX12_hands_9 : decode cX12_hands 9 = .ok (.iload_n 2, 1) := by decide +kernel
theorem dX12_hands_10 : decode cX12_hands 10 = .ok (.invokevirtual 108, 3) := by decide +kernel
theorem dX12_hands_13 : decode cX12_hands 13 = .ok (.ifCond .eq 17, 3) := by decide +kernel
theorem dX12_hands_16 : decode cX12_hands 16 = .ok (.iload_n 1, 1) := by decide +kernel
theorem dX12_hands_17 : decode cX12_hands 17 = .ok (.iload_n 2, 1) := by decide +kernel
theorem dX12_hands_18 : decode cX12_hands 18 = .ok (.if_icmp .eq 12, 3) := by decide +kernel
theorem dX12_hands_21 : decode cX12_hands 21 = .ok (.iload_n 3, 1) := by decide +kernel
theorem dX12_hands_22 : decode cX12_hands 22 = .ok (.iconst 0, 1) := by decide +kernel
theorem dX12_hands_23 : decode cX12_hands 23 = .ok (.iconst 1, 1) := by decide +kernel
theorem dX12_hands_24 : decode cX12_hands 24 = .ok (.invokestatic 93, 3) := by decide +kernel
theorem dX12_hands_27 : decode cX12_hands 27 = .ok (.ifCond .ne 8, 3) := by decide +kernel
theorem dX12_hands_30 : decode cX12_hands 30 = .ok (.aload_n 0, 1) := by decide +kernel
theorem dX12_hands_31 : decode cX12_hands 31 = .ok (.invokevirtual 97, 3) := by decide +kernel
theorem dX12_hands_34 : decode cX12_hands 34 = .ok (.ireturn, 1) := by decide +kernel
theorem dX12_hands_35 : decode cX12_hands 35 = .ok (.aload_n 0, 1) := by decide +kernel
theorem dX12_hands_36 : decode cX12_hands 36 = .ok (.getfield 25, 3) := by decide +kernel
theorem dX12_hands_39 : decode cX12_hands 39 = .ok (.iload_n 1, 1) := by decide +kernel
theorem dX12_hands_40 : decode cX12_hands 40 = .ok (.iaload, 1) := by decide +kernel
theorem dX12_hands_41 : decode cX12_hands 41 = .ok (.iload_n 2, 1) := by decide +kernel
theorem dX12_hands_42 : decode cX12_hands 42 = .ok (.ishr, 1) := by decide +kernel
theorem dX12_hands_43 : decode cX12_hands 43 = .ok (.iconst 1, 1) := by decide +kernel
theorem dX12_hands_44 : decode cX12_hands 44 = .ok (.iand, 1) := by decide +kernel
theorem dX12_hands_45 : decode cX12_hands 45 = .ok (.istore 4, 2) := by decide +kernel
theorem dX12_hands_47 : decode cX12_hands 47 = .ok (.aload_n 0, 1) := by decide +kernel
theorem dX12_hands_48 : decode cX12_hands 48 = .ok (.getfield 25, 3) := by decide +kernel
theorem dX12_hands_51 : decode cX12_hands 51 = .ok (.iload_n 1, 1) := by decide +kernel
theorem dX12_hands_52 : decode cX12_hands 52 = .ok (.aload_n 0, 1) := by decide +kernel
theorem dX12_hands_53 : decode cX12_hands 53 = .ok (.getfield 25, 3) := by decide +kernel
theorem dX12_hands_56 : decode cX12_hands 56 = .ok (.iload_n 1, 1) := by decide +kernel
theorem dX12_hands_57 : decode cX12_hands 57 = .ok (.iaload, 1) := by decide +kernel
theorem dX12_hands_58 : decode cX12_hands 58 = .ok (.iconst 1, 1) := by decide +kernel
theorem dX12_hands_59 : decode cX12_hands 59 = .ok (.iload_n 2, 1) := by decide +kernel
theorem dX12_hands_60 : decode cX12_hands 60 = .ok (.ishl, 1) := by decide +kernel
theorem dX12_hands_61 : decode cX12_hands 61 = .ok (.iconst (-1), 1) := by decide +kernel
theorem dX12_hands_62 : decode cX12_hands 62 = .ok (.ixor, 1) := by decide +kernel
theorem dX12_hands_63 : decode cX12_hands 63 = .ok (.iand, 1) := by decide +kernel
theorem dX12_hands_64 : decode cX12_hands 64 = .ok (.iload_n 3, 1) := by decide +kernel
theorem dX12_hands_65 : decode cX12_hands 65 = .ok (.iload_n 2, 1) := by decide +kernel
theorem dX12_hands_66 : decode cX12_hands 66 = .ok (.ishl, 1) := by decide +kernel
theorem dX12_hands_67 : decode cX12_hands 67 = .ok (.ior, 1) := by decide +kernel
theorem dX12_hands_68 : decode cX12_hands 68 = .ok (.iastore, 1) := by decide +kernel
theorem dX12_hands_69 : decode cX12_hands 69 = .ok (.aload_n 0, 1) := by decide +kernel
theorem dX12_hands_70 : decode cX12_hands 70 = .ok (.iconst 0, 1) := by decide +kernel
theorem dX12_hands_71 : decode cX12_hands 71 = .ok (.putfield 90, 3) := by decide +kernel
theorem dX12_hands_74 : decode cX12_hands 74 = .ok (.iload 4, 2) := by decide +kernel
theorem dX12_hands_76 : decode cX12_hands 76 = .ok (.ireturn, 1) := by decide +kernel
theorem dX12_type_0 : decode cX12_type 0 = .ok (.iload_n 1, 1) := by decide +kernel
theorem dX12_type_1 : decode cX12_type 1 = .ok (.iconst 0, 1) := by decide +kernel
theorem dX12_type_2 : decode cX12_type 2 = .ok (.bipush 127, 2) := by decide +kernel
theorem dX12_type_4 : decode cX12_type 4 = .ok (.invokestatic 93, 3) := by decide +kernel
theorem dX12_type_7 : decode cX12_type 7 = .ok (.ifCond .ne 8, 3) := by decide +kernel
theorem dX12_type_10 : decode cX12_type 10 = .ok (.aload_n 0, 1) := by decide +kernel
theorem dX12_type_11 : decode cX12_type 11 = .ok (.invokevirtual 97, 3) := by decide +kernel
theorem dX12_type_14 : decode cX12_type 14 = .ok (.ireturn, 1) := by decide +kernel
theorem dX12_type_15 : decode cX12_type 15 = .ok (.aload_n 0, 1) := by decide +kernel
theorem dX12_type_16 : decode cX12_type 16 = .ok (.getfield 112, 3) := by decide +kernel
theorem dX12_type_19 : decode cX12_type 19 = .ok (.sipush 150, 3) := by decide +kernel
theorem dX12_type_22 : decode cX12_type 22 = .ok (.if_icmp .ne 8, 3) := by decide +kernel
theorem dX12_type_25 : decode cX12_type 25 = .ok (.aload_n 0, 1) := by decide +kernel
theorem dX12_type_26 : decode cX12_type 26 = .ok (.invokevirtual 101, 3) := by decide +kernel
theorem dX12_type_29 : decode cX12_type 29 = .ok (.ireturn, 1) := by decide +kernel
theorem dX12_type_30 : decode cX12_type 30 = .ok (.aload_n 0, 1) := by decide +kernel
theorem dX12_type_31 : decode cX12_type 31 = .ok (.getfield 40, 3) := by decide +kernel
theorem dX12_type_34 : decode cX12_type 34 = .ok (.aload_n 0, 1) := by decide +kernel
theorem dX12_type_35 : decode cX12_type 35 = .ok (.getfield 112, 3) := by decide +kernel
theorem dX12_type_38 : decode cX12_type 38 = .ok (.iload_n 1, 1) := by decide +kernel
theorem dX12_type_39 : decode cX12_type 39 = .ok (.iastore, 1) := by decide +kernel
theorem dX12_type_40 : decode cX12_type 40 = .ok (.aload_n 0, 1) := by decide +kernel
theorem dX12_type_41 : decode cX12_type 41 = .ok (.dup, 1) := by decide +kernel
theorem dX12_type_42 : decode cX12_type 42 = .ok (.getfield 112, 3) := by decide +kernel
theorem dX12_type_45 : decode cX12_type 45 = .ok (.iconst 1, 1) := by decide +kernel
theorem dX12_type_46 : decode cX12_type 46 = .ok (.iadd, 1) := by decide +kernel
theorem dX12_type_47 : decode cX12_type 47 = .ok (.putfield 112, 3) := by decide +kernel
theorem dX12_type_50 : decode cX12_type 50 = .ok (.aload_n 0, 1) := by decide +kernel
theorem dX12_type_51 : decode cX12_type 51 = .ok (.getfield 112, 3) := by decide +kernel
theorem dX12_type_54 : decode cX12_type 54 = .ok (.ireturn, 1) := by decide +kernel
theorem dX12_clear_0 : decode cX12_clear 0 = .ok (.aload_n 0, 1) := by decide +kernel
theorem dX12_clear_1 : decode cX12_clear 1 = .ok (.getfield 112, 3) := by decide +kernel
theorem dX12_clear_4 : decode cX12_clear 4 = .ok (.istore_n 1, 1) := by decide +kernel
theorem dX12_clear_5 : decode cX12_clear 5 = .ok (.aload_n 0, 1) := by decide +kernel
theorem dX12_clear_6 : decode cX12_clear 6 = .ok (.iconst 0, 1) := by decide +kernel
theorem dX12_clear_7 : decode cX12_clear 7 = .ok (.putfield 112, 3) := by decide +kernel
theorem dX12_clear_10 : decode cX12_clear 10 = .ok (.iload_n 1, 1) := by decide +kernel
theorem dX12_clear_11 : decode cX12_clear 11 = .ok (.ireturn, 1) := by decide +kernel
theorem dX12_here_0 : decode cX12_here 0 = .ok (.aload_n 0, 1) := by decide +kernel
theorem dX12_here_1 : decode cX12_here 1 = .ok (.getfield 115, 3) := by decide +kernel
theorem dX12_here_4 : decode cX12_here 4 = .ok (.aload_n 0, 1) := by decide +kernel
theorem dX12_here_5 : decode cX12_here 5 = .ok (.getfield 112, 3) := by decide +kernel
theorem dX12_here_8 : decode cX12_here 8 = .ok (.if_icmp .ge 15, 3) := by decide +kernel
theorem dX12_here_11 : decode cX12_here 11 = .ok (.aload_n 0, 1) := by decide +kernel
theorem dX12_here_12 : decode cX12_here 12 = .ok (.getfield 40, 3) := by decide +kernel
theorem dX12_here_15 : decode cX12_here 15 = .ok (.aload_n 0, 1) := by decide +kernel
theorem dX12_here_16 : decode cX12_here 16 = .ok (.getfield 115, 3) := by decide +kernel
theorem dX12_here_19 : decode cX12_here 19 = .ok (.iaload, 1) := by decide +kernel
theorem dX12_here_20 : decode cX12_here 20 = .ok (.goto 4, 3) := by decide +kernel
theorem dX12_here_23 : decode cX12_here 23 = .ok (.iconst (-1), 1) := by decide +kernel
theorem dX12_here_24 : decode cX12_here 24 = .ok (.ireturn, 1) := by decide +kernel
theorem dX12_skip_0 : decode cX12_skip 0 = .ok (.aload_n 0, 1) := by decide +kernel
theorem dX12_skip_1 : decode cX12_skip 1 = .ok (.invokevirtual 118, 3) := by decide +kernel
theorem dX12_skip_4 : decode cX12_skip 4 = .ok (.bipush 32, 2) := by decide +kernel
theorem dX12_skip_6 : decode cX12_skip 6 = .ok (.if_icmp .ne 16, 3) := by decide +kernel
theorem dX12_skip_9 : decode cX12_skip 9 = .ok (.aload_n 0, 1) := by decide +kernel
theorem dX12_skip_10 : decode cX12_skip 10 = .ok (.dup, 1) := by decide +kernel
theorem dX12_skip_11 : decode cX12_skip 11 = .ok (.getfield 115, 3) := by decide +kernel
theorem dX12_skip_14 : decode cX12_skip 14 = .ok (.iconst 1, 1) := by decide +kernel
theorem dX12_skip_15 : decode cX12_skip 15 = .ok (.iadd, 1) := by decide +kernel
theorem dX12_skip_16 : decode cX12_skip 16 = .ok (.putfield 115, 3) := by decide +kernel
theorem dX12_skip_19 : decode cX12_skip 19 = .ok (.goto (-19), 3) := by decide +kernel
theorem dX12_skip_22 : decode cX12_skip 22 = .ok (.return_, 1) := by decide +kernel
theorem dX12_isLetter_0 : decode cX12_isLetter 0 = .ok (.iload_n 0, 1) := by decide +kernel
theorem dX12_isLetter_1 : decode cX12_isLetter 1 = .ok (.bipush 97, 2) := by decide +kernel
theorem dX12_isLetter_3 : decode cX12_isLetter 3 = .ok (.bipush 122, 2) := by decide +kernel
theorem dX12_isLetter_5 : decode cX12_isLetter 5 = .ok (.invokestatic 93, 3) := by decide +kernel
theorem dX12_isLetter_8 : decode cX12_isLetter 8 = .ok (.ireturn, 1) := by decide +kernel
theorem dX12_isFigure_0 : decode cX12_isFigure 0 = .ok (.iload_n 0, 1) := by decide +kernel
theorem dX12_isFigure_1 : decode cX12_isFigure 1 = .ok (.bipush 48, 2) := by decide +kernel
theorem dX12_isFigure_3 : decode cX12_isFigure 3 = .ok (.bipush 57, 2) := by decide +kernel
theorem dX12_isFigure_5 : decode cX12_isFigure 5 = .ok (.invokestatic 93, 3) := by decide +kernel
theorem dX12_isFigure_8 : decode cX12_isFigure 8 = .ok (.ireturn, 1) := by decide +kernel
theorem dX12_wordSize_0 : decode cX12_wordSize 0 = .ok (.iconst 0, 1) := by decide +kernel
theorem dX12_wordSize_1 : decode cX12_wordSize 1 = .ok (.istore_n 1, 1) := by decide +kernel
theorem dX12_wordSize_2 : decode cX12_wordSize 2 = .ok (.aload_n 0, 1) := by decide +kernel
theorem dX12_wordSize_3 : decode cX12_wordSize 3 = .ok (.getfield 115, 3) := by decide +kernel
theorem dX12_wordSize_6 : decode cX12_wordSize 6 = .ok (.iload_n 1, 1) := by decide +kernel
theorem dX12_wordSize_7 : decode cX12_wordSize 7 = .ok (.iadd, 1) := by decide +kernel
theorem dX12_wordSize_8 : decode cX12_wordSize 8 = .ok (.aload_n 0, 1) := by decide +kernel
theorem dX12_wordSize_9 : decode cX12_wordSize 9 = .ok (.getfield 112, 3) := by decide +kernel
theorem dX12_wordSize_12 : decode cX12_wordSize 12 = .ok (.if_icmp .ge 26, 3) := by decide +kernel
theorem dX12_wordSize_15 : decode cX12_wordSize 15 = .ok (.aload_n 0, 1) := by decide +kernel
theorem dX12_wordSize_16 : decode cX12_wordSize 16 = .ok (.getfield 40, 3) := by decide +kernel
theorem dX12_wordSize_19 : decode cX12_wordSize 19 = .ok (.aload_n 0, 1) := by decide +kernel
theorem dX12_wordSize_20 : decode cX12_wordSize 20 = .ok (.getfield 115, 3) := by decide +kernel
theorem dX12_wordSize_23 : decode cX12_wordSize 23 = .ok (.iload_n 1, 1) := by decide +kernel
theorem dX12_wordSize_24 : decode cX12_wordSize 24 = .ok (.iadd, 1) := by decide +kernel
theorem dX12_wordSize_25 : decode cX12_wordSize 25 = .ok (.iaload, 1) := by decide +kernel
theorem dX12_wordSize_26 : decode cX12_wordSize 26 = .ok (.invokestatic 121, 3) := by decide +kernel
theorem dX12_wordSize_29 : decode cX12_wordSize 29 = .ok (.ifCond .eq 9, 3) := by decide +kernel
theorem dX12_wordSize_32 : decode cX12_wordSize 32 = .ok (.iinc 1 1, 3) := by decide +kernel
theorem dX12_wordSize_35 : decode cX12_wordSize 35 = .ok (.goto (-33), 3) := by decide +kernel
theorem dX12_wordSize_38 : decode cX12_wordSize 38 = .ok (.iload_n 1, 1) := by decide +kernel
theorem dX12_wordSize_39 : decode cX12_wordSize 39 = .ok (.ireturn, 1) := by decide +kernel
theorem dX12_letter_0 : decode cX12_letter 0 = .ok (.aload_n 0, 1) := by decide +kernel
theorem dX12_letter_1 : decode cX12_letter 1 = .ok (.getfield 40, 3) := by decide +kernel
theorem dX12_letter_4 : decode cX12_letter 4 = .ok (.aload_n 0, 1) := by decide +kernel
theorem dX12_letter_5 : decode cX12_letter 5 = .ok (.getfield 115, 3) := by decide +kernel
theorem dX12_letter_8 : decode cX12_letter 8 = .ok (.iload_n 1, 1) := by decide +kernel
theorem dX12_letter_9 : decode cX12_letter 9 = .ok (.iadd, 1) := by decide +kernel
theorem dX12_letter_10 : decode cX12_letter 10 = .ok (.iaload, 1) := by decide +kernel
theorem dX12_letter_11 : decode cX12_letter 11 = .ok (.ireturn, 1) := by decide +kernel
theorem dX12_spells_0 : decode cX12_spells 0 = .ok (.aload_n 0, 1) := by decide +kernel
theorem dX12_spells_1 : decode cX12_spells 1 = .ok (.iconst 0, 1) := by decide +kernel
theorem dX12_spells_2 : decode cX12_spells 2 = .ok (.invokevirtual 124, 3) := by decide +kernel
theorem dX12_spells_5 : decode cX12_spells 5 = .ok (.iload_n 1, 1) := by decide +kernel
theorem dX12_spells_6 : decode cX12_spells 6 = .ok (.if_icmp .ne 35, 3) := by decide +kernel
theorem dX12_spells_9 : decode cX12_spells 9 = .ok (.aload_n 0, 1) := by decide +kernel
theorem dX12_spells_10 : decode cX12_spells 10 = .ok (.iconst 1, 1) := by decide +kernel
theorem dX12_spells_11 : decode cX12_spells 11 = .ok (.invokevirtual 124, 3) := by decide +kernel
theorem dX12_spells_14 : decode cX12_spells 14 = .ok (.iload_n 2, 1) := by decide +kernel
theorem dX12_spells_15 : decode cX12_spells 15 = .ok (.if_icmp .ne 26, 3) := by decide +kernel
theorem dX12_spells_18 : decode cX12_spells 18 = .ok (.aload_n 0, 1) := by decide +kernel
theorem dX12_spells_19 : decode cX12_spells 19 = .ok (.iconst 2, 1) := by decide +kernel
theorem dX12_spells_20 : decode cX12_spells 20 = .ok (.invokevirtual 124, 3) := by decide +kernel
theorem dX12_spells_23 : decode cX12_spells 23 = .ok (.iload_n 3, 1) := by decide +kernel
theorem dX12_spells_24 : decode cX12_spells 24 = .ok (.if_icmp .ne 17, 3) := by decide +kernel
theorem dX12_spells_27 : decode cX12_spells 27 = .ok (.aload_n 0, 1) := by decide +kernel
theorem dX12_spells_28 : decode cX12_spells 28 = .ok (.iconst 3, 1) := by decide +kernel
theorem dX12_spells_29 : decode cX12_spells 29 = .ok (.invokevirtual 124, 3) := by decide +kernel
theorem dX12_spells_32 : decode cX12_spells 32 = .ok (.iload 4, 2) := by decide +kernel
theorem dX12_spells_34 : decode cX12_spells 34 = .ok (.if_icmp .ne 7, 3) := by decide +kernel
theorem dX12_spells_37 : decode cX12_spells 37 = .ok (.iconst 1, 1) := by decide +kernel
theorem dX12_spells_38 : decode cX12_spells 38 = .ok (.goto 4, 3) := by decide +kernel
theorem dX12_spells_41 : decode cX12_spells 41 = .ok (.iconst 0, 1) := by decide +kernel
theorem dX12_spells_42 : decode cX12_spells 42 = .ok (.ireturn, 1) := by decide +kernel
theorem dX12_wordHere_0 : decode cX12_wordHere 0 = .ok (.aload_n 0, 1) := by decide +kernel
theorem dX12_wordHere_1 : decode cX12_wordHere 1 = .ok (.invokevirtual 128, 3) := by decide +kernel
theorem dX12_wordHere_4 : decode cX12_wordHere 4 = .ok (.istore_n 1, 1) := by decide +kernel
theorem dX12_wordHere_5 : decode cX12_wordHere 5 = .ok (.iload_n 1, 1) := by decide +kernel
theorem dX12_wordHere_6 : decode cX12_wordHere 6 = .ok (.iconst 4, 1) := by decide +kernel
theorem dX12_wordHere_7 : decode cX12_wordHere 7 = .ok (.if_icmp .ne 20, 3) := by decide +kernel
theorem dX12_wordHere_10 : decode cX12_wordHere 10 = .ok (.aload_n 0, 1) := by decide +kernel
theorem dX12_wordHere_11 : decode cX12_wordHere 11 = .ok (.bipush 103, 2) := by decide +kernel
theorem dX12_wordHere_13 : decode cX12_wordHere 13 = .ok (.bipush 111, 2) := by decide +kernel
theorem dX12_wordHere_15 : decode cX12_wordHere 15 = .ok (.bipush 108, 2) := by decide +kernel
theorem dX12_wordHere_17 : decode cX12_wordHere 17 = .ok (.bipush 100, 2) := by decide +kernel
theorem dX12_wordHere_19 : decode cX12_wordHere 19 = .ok (.invokevirtual 131, 3) := by decide +kernel
theorem dX12_wordHere_22 : decode cX12_wordHere 22 = .ok (.ifCond .eq 5, 3) := by decide +kernel
theorem dX12_wordHere_25 : decode cX12_wordHere 25 = .ok (.iconst 0, 1) := by decide +kernel
theorem dX12_wordHere_26 : decode cX12_wordHere 26 = .ok (.ireturn, 1) := by decide +kernel
theorem dX12_wordHere_27 : decode cX12_wordHere 27 = .ok (.iload_n 1, 1) := by decide +kernel
theorem dX12_wordHere_28 : decode cX12_wordHere 28 = .ok (.iconst 3, 1) := by decide +kernel
theorem dX12_wordHere_29 : decode cX12_wordHere 29 = .ok (.if_icmp .ne 35, 3) := by decide +kernel
theorem dX12_wordHere_32 : decode cX12_wordHere 32 = .ok (.aload_n 0, 1) := by decide +kernel
theorem dX12_wordHere_33 : decode cX12_wordHere 33 = .ok (.iconst 0, 1) := by decide +kernel
theorem dX12_wordHere_34 : decode cX12_wordHere 34 = .ok (.invokevirtual 124, 3) := by decide +kernel
theorem dX12_wordHere_37 : decode cX12_wordHere 37 = .ok (.bipush 111, 2) := by decide +kernel
theorem dX12_wordHere_39 : decode cX12_wordHere 39 = .ok (.if_icmp .ne 25, 3) := by decide +kernel
theorem dX12_wordHere_42 : decode cX12_wordHere 42 = .ok (.aload_n 0, 1) := by decide +kernel
theorem dX12_wordHere_43 : decode cX12_wordHere 43 = .ok (.iconst 1, 1) := by decide +kernel
theorem dX12_wordHere_44 : decode cX12_wordHere 44 = .ok (.invokevirtual 124, 3) := by decide +kernel
theorem dX12_wordHere_47 : decode cX12_wordHere 47 = .ok (.bipush 110, 2) := by decide +kernel
theorem dX12_wordHere_49 : decode cX12_wordHere 49 = .ok (.if_icmp .ne 15, 3) := by decide +kernel
theorem dX12_wordHere_52 : decode cX12_wordHere 52 = .ok (.aload_n 0, 1) := by decide +kernel
theorem dX12_wordHere_53 : decode cX12_wordHere 53 = .ok (.iconst 2, 1) := by decide +kernel
theorem dX12_wordHere_54 : decode cX12_wordHere 54 = .ok (.invokevirtual 124, 3) := by decide +kernel
theorem dX12_wordHere_57 : decode cX12_wordHere 57 = .ok (.bipush 101, 2) := by decide +kernel
theorem dX12_wordHere_59 : decode cX12_wordHere 59 = .ok (.if_icmp .ne 5, 3) := by decide +kernel
theorem dX12_wordHere_62 : decode cX12_wordHere 62 = .ok (.iconst 1, 1) := by decide +kernel
theorem dX12_wordHere_63 : decode cX12_wordHere 63 = .ok (.ireturn, 1) := by decide +kernel
theorem dX12_wordHere_64 : decode cX12_wordHere 64 = .ok (.iload_n 1, 1) := by decide +kernel
theorem dX12_wordHere_65 : decode cX12_wordHere 65 = .ok (.iconst 5, 1) := by decide +kernel
theorem dX12_wordHere_66 : decode cX12_wordHere 66 = .ok (.if_icmp .ne 30, 3) := by decide +kernel
theorem dX12_wordHere_69 : decode cX12_wordHere 69 = .ok (.aload_n 0, 1) := by decide +kernel
theorem dX12_wordHere_70 : decode cX12_wordHere 70 = .ok (.bipush 104, 2) := by decide +kernel
theorem dX12_wordHere_72 : decode cX12_wordHere 72 = .ok (.bipush 97, 2) := by decide +kernel
theorem dX12_wordHere_74 : decode cX12_wordHere 74 = .ok (.bipush 110, 2) := by decide +kernel
theorem dX12_wordHere_76 : decode cX12_wordHere 76 = .ok (.bipush 100, 2) := by decide +kernel
theorem dX12_wordHere_78 : decode cX12_wordHere 78 = .ok (.invokevirtual 131, 3) := by decide +kernel
theorem dX12_wordHere_81 : decode cX12_wordHere 81 = .ok (.ifCond .eq 15, 3) := by decide +kernel
theorem dX12_wordHere_84 : decode cX12_wordHere 84 = .ok (.aload_n 0, 1) := by decide +kernel
theorem dX12_wordHere_85 : decode cX12_wordHere 85 = .ok (.iconst 4, 1) := by decide +kernel
theorem dX12_wordHere_86 : decode cX12_wordHere 86 = .ok (.invokevirtual 124, 3) := by decide +kernel
theorem dX12_wordHere_89 : decode cX12_wordHere 89 = .ok (.bipush 115, 2) := by decide +kernel
theorem dX12_wordHere_91 : decode cX12_wordHere 91 = .ok (.if_icmp .ne 5, 3) := by decide +kernel
theorem dX12_wordHere_94 : decode cX12_wordHere 94 = .ok (.iconst 2, 1) := by decide +kernel
theorem dX12_wordHere_95 : decode cX12_wordHere 95 = .ok (.ireturn, 1) := by decide +kernel
theorem dX12_wordHere_96 : decode cX12_wordHere 96 = .ok (.iload_n 1, 1) := by decide +kernel
theorem dX12_wordHere_97 : decode cX12_wordHere 97 = .ok (.iconst 3, 1) := by decide +kernel
theorem dX12_wordHere_98 : decode cX12_wordHere 98 = .ok (.if_icmp .ne 37, 3) := by decide +kernel
theorem dX12_wordHere_101 : decode cX12_wordHere 101 = .ok (.aload_n 0, 1) := by decide +kernel
theorem dX12_wordHere_102 : decode cX12_wordHere 102 = .ok (.iconst 0, 1) := by decide +kernel
theorem dX12_wordHere_103 : decode cX12_wordHere 103 = .ok (.invokevirtual 124, 3) := by decide +kernel
theorem dX12_wordHere_106 : decode cX12_wordHere 106 = .ok (.bipush 108, 2) := by decide +kernel
theorem dX12_wordHere_108 : decode cX12_wordHere 108 = .ok (.if_icmp .ne 27, 3) := by decide +kernel
theorem dX12_wordHere_111 : decode cX12_wordHere 111 = .ok (.aload_n 0, 1) := by decide +kernel
theorem dX12_wordHere_112 : decode cX12_wordHere 112 = .ok (.iconst 1, 1) := by decide +kernel
theorem dX12_wordHere_113 : decode cX12_wordHere 113 = .ok (.invokevirtual 124, 3) := by decide +kernel
theorem dX12_wordHere_116 : decode cX12_wordHere 116 = .ok (.bipush 105, 2) := by decide +kernel
theorem dX12_wordHere_118 : decode cX12_wordHere 118 = .ok (.if_icmp .ne 17, 3) := by decide +kernel
theorem dX12_wordHere_121 : decode cX12_wordHere 121 = .ok (.aload_n 0, 1) := by decide +kernel
theorem dX12_wordHere_122 : decode cX12_wordHere 122 = .ok (.iconst 2, 1) := by decide +kernel
theorem dX12_wordHere_123 : decode cX12_wordHere 123 = .ok (.invokevirtual 124, 3) := by decide +kernel
theorem dX12_wordHere_126 : decode cX12_wordHere 126 = .ok (.bipush 101, 2) := by decide +kernel
theorem dX12_wordHere_128 : decode cX12_wordHere 128 = .ok (.if_icmp .ne 7, 3) := by decide +kernel
theorem dX12_wordHere_131 : decode cX12_wordHere 131 = .ok (.iconst 3, 1) := by decide +kernel
theorem dX12_wordHere_132 : decode cX12_wordHere 132 = .ok (.goto 4, 3) := by decide +kernel
theorem dX12_wordHere_135 : decode cX12_wordHere 135 = .ok (.iconst (-1), 1) := by decide +kernel
theorem dX12_wordHere_136 : decode cX12_wordHere 136 = .ok (.ireturn, 1) := by decide +kernel
theorem dX12_number_0 : decode cX12_number 0 = .ok (.aload_n 0, 1) := by decide +kernel
theorem dX12_number_1 : decode cX12_number 1 = .ok (.invokevirtual 135, 3) := by decide +kernel
theorem dX12_number_4 : decode cX12_number 4 = .ok (.iconst 0, 1) := by decide +kernel
theorem dX12_number_5 : decode cX12_number 5 = .ok (.istore_n 3, 1) := by decide +kernel
theorem dX12_number_6 : decode cX12_number 6 = .ok (.iconst 0, 1) := by decide +kernel
theorem dX12_number_7 : decode cX12_number 7 = .ok (.istore 4, 2) := by decide +kernel
theorem dX12_number_9 : decode cX12_number 9 = .ok (.aload_n 0, 1) := by decide +kernel
theorem dX12_number_10 : decode cX12_number 10 = .ok (.getfield 115, 3) := by decide +kernel
theorem dX12_number_13 : decode cX12_number 13 = .ok (.iload_n 3, 1) := by decide +kernel
theorem dX12_number_14 : decode cX12_number 14 = .ok (.iadd, 1) := by decide +kernel
theorem dX12_number_15 : decode cX12_number 15 = .ok (.aload_n 0, 1) := by decide +kernel
theorem dX12_number_16 : decode cX12_number 16 = .ok (.getfield 112, 3) := by decide +kernel
theorem dX12_number_19 : decode cX12_number 19 = .ok (.if_icmp .ge 58, 3) := by decide +kernel
theorem dX12_number_22 : decode cX12_number 22 = .ok (.aload_n 0, 1) := by decide +kernel
theorem dX12_number_23 : decode cX12_number 23 = .ok (.getfield 40, 3) := by decide +kernel
theorem dX12_number_26 : decode cX12_number 26 = .ok (.aload_n 0, 1) := by decide +kernel
theorem dX12_number_27 : decode cX12_number 27 = .ok (.getfield 115, 3) := by decide +kernel
theorem dX12_number_30 : decode cX12_number 30 = .ok (.iload_n 3, 1) := by decide +kernel
theorem dX12_number_31 : decode cX12_number 31 = .ok (.iadd, 1) := by decide +kernel
theorem dX12_number_32 : decode cX12_number 32 = .ok (.iaload, 1) := by decide +kernel
theorem dX12_number_33 : decode cX12_number 33 = .ok (.invokestatic 138, 3) := by decide +kernel
theorem dX12_number_36 : decode cX12_number 36 = .ok (.ifCond .eq 41, 3) := by decide +kernel
theorem dX12_number_39 : decode cX12_number 39 = .ok (.iload_n 3, 1) := by decide +kernel
theorem dX12_number_40 : decode cX12_number 40 = .ok (.iconst 2, 1) := by decide +kernel
theorem dX12_number_41 : decode cX12_number 41 = .ok (.if_icmp .ge 26, 3) := by decide +kernel
theorem dX12_number_44 : decode cX12_number 44 = .ok (.bipush 10, 2) := by decide +kernel
theorem dX12_number_46 : decode cX12_number 46 = .ok (.iload 4, 2) := by decide +kernel
theorem dX12_number_48 : decode cX12_number 48 = .ok (.imul, 1) := by decide +kernel
theorem dX12_number_49 : decode cX12_number 49 = .ok (.aload_n 0, 1) := by decide +kernel
theorem dX12_number_50 : decode cX12_number 50 = .ok (.getfield 40, 3) := by decide +kernel
theorem dX12_number_53 : decode cX12_number 53 = .ok (.aload_n 0, 1) := by decide +kernel
theorem dX12_number_54 : decode cX12_number 54 = .ok (.getfield 115, 3) := by decide +kernel
theorem dX12_number_57 : decode cX12_number 57 = .ok (.iload_n 3, 1) := by decide +kernel
theorem dX12_number_58 : decode cX12_number 58 = .ok (.iadd, 1) := by decide +kernel
theorem dX12_number_59 : decode cX12_number 59 = .ok (.iaload, 1) := by decide +kernel
theorem dX12_number_60 : decode cX12_number 60 = .ok (.iadd, 1) := by decide +kernel
theorem dX12_number_61 : decode cX12_number 61 = .ok (.bipush 48, 2) := by decide +kernel
theorem dX12_number_63 : decode cX12_number 63 = .ok (.isub, 1) := by decide +kernel
theorem dX12_number_64 : decode cX12_number 64 = .ok (.goto 5, 3) := by decide +kernel
theorem dX12_number_67 : decode cX12_number 67 = .ok (.iload 4, 2) := by decide +kernel
theorem dX12_number_69 : decode cX12_number 69 = .ok (.istore 4, 2) := by decide +kernel
theorem dX12_number_71 : decode cX12_number 71 = .ok (.iinc 3 1, 3) := by decide +kernel
theorem dX12_number_74 : decode cX12_number 74 = .ok (.goto (-65), 3) := by decide +kernel
theorem dX12_number_77 : decode cX12_number 77 = .ok (.iload_n 3, 1) := by decide +kernel
theorem dX12_number_78 : decode cX12_number 78 = .ok (.iconst 1, 1) := by decide +kernel
theorem dX12_number_79 : decode cX12_number 79 = .ok (.iconst 2, 1) := by decide +kernel
theorem dX12_number_80 : decode cX12_number 80 = .ok (.invokestatic 93, 3) := by decide +kernel
theorem dX12_number_83 : decode cX12_number 83 = .ok (.ifCond .eq 13, 3) := by decide +kernel
theorem dX12_number_86 : decode cX12_number 86 = .ok (.iload 4, 2) := by decide +kernel
theorem dX12_number_88 : decode cX12_number 88 = .ok (.iload_n 1, 1) := by decide +kernel
theorem dX12_number_89 : decode cX12_number 89 = .ok (.iload_n 2, 1) := by decide +kernel
theorem dX12_number_90 : decode cX12_number 90 = .ok (.invokestatic 93, 3) := by decide +kernel
theorem dX12_number_93 : decode cX12_number 93 = .ok (.ifCond .ne 5, 3) := by decide +kernel
theorem dX12_number_96 : decode cX12_number 96 = .ok (.iconst 0, 1) := by decide +kernel
theorem dX12_number_97 : decode cX12_number 97 = .ok (.ireturn, 1) := by decide +kernel
theorem dX12_number_98 : decode cX12_number 98 = .ok (.aload_n 0, 1) := by decide +kernel
theorem dX12_number_99 : decode cX12_number 99 = .ok (.iload 4, 2) := by decide +kernel
theorem dX12_number_101 : decode cX12_number 101 = .ok (.putfield 141, 3) := by decide +kernel
theorem dX12_number_104 : decode cX12_number 104 = .ok (.aload_n 0, 1) := by decide +kernel
theorem dX12_number_105 : decode cX12_number 105 = .ok (.dup, 1) := by decide +kernel
theorem dX12_number_106 : decode cX12_number 106 = .ok (.getfield 115, 3) := by decide +kernel
theorem dX12_number_109 : decode cX12_number 109 = .ok (.iload_n 3, 1) := by decide +kernel
theorem dX12_number_110 : decode cX12_number 110 = .ok (.iadd, 1) := by decide +kernel
theorem dX12_number_111 : decode cX12_number 111 = .ok (.putfield 115, 3) := by decide +kernel
theorem dX12_number_114 : decode cX12_number 114 = .ok (.iconst 1, 1) := by decide +kernel
theorem dX12_number_115 : decode cX12_number 115 = .ok (.ireturn, 1) := by decide +kernel
theorem dX12_ends_0 : decode cX12_ends 0 = .ok (.aload_n 0, 1) := by decide +kernel
theorem dX12_ends_1 : decode cX12_ends 1 = .ok (.invokevirtual 135, 3) := by decide +kernel
theorem dX12_ends_4 : decode cX12_ends 4 = .ok (.aload_n 0, 1) := by decide +kernel
theorem dX12_ends_5 : decode cX12_ends 5 = .ok (.invokevirtual 118, 3) := by decide +kernel
theorem dX12_ends_8 : decode cX12_ends 8 = .ok (.bipush 59, 2) := by decide +kernel
theorem dX12_ends_10 : decode cX12_ends 10 = .ok (.if_icmp .eq 5, 3) := by decide +kernel
theorem dX12_ends_13 : decode cX12_ends 13 = .ok (.iconst 0, 1) := by decide +kernel
theorem dX12_ends_14 : decode cX12_ends 14 = .ok (.ireturn, 1) := by decide +kernel
theorem dX12_ends_15 : decode cX12_ends 15 = .ok (.aload_n 0, 1) := by decide +kernel
theorem dX12_ends_16 : decode cX12_ends 16 = .ok (.dup, 1) := by decide +kernel
theorem dX12_ends_17 : decode cX12_ends 17 = .ok (.getfield 115, 3) := by decide +kernel
theorem dX12_ends_20 : decode cX12_ends 20 = .ok (.iconst 1, 1) := by decide +kernel
theorem dX12_ends_21 : decode cX12_ends 21 = .ok (.iadd, 1) := by decide +kernel
theorem dX12_ends_22 : decode cX12_ends 22 = .ok (.putfield 115, 3) := by decide +kernel
theorem dX12_ends_25 : decode cX12_ends 25 = .ok (.iconst 1, 1) := by decide +kernel
theorem dX12_ends_26 : decode cX12_ends 26 = .ok (.ireturn, 1) := by decide +kernel
theorem dX12_readsOne_0 : decode cX12_readsOne 0 = .ok (.iconst 5, 1) := by decide +kernel
theorem dX12_readsOne_1 : decode cX12_readsOne 1 = .ok (.aload_n 0, 1) := by decide +kernel
theorem dX12_readsOne_2 : decode cX12_readsOne 2 = .ok (.getfield 144, 3) := by decide +kernel
theorem dX12_readsOne_5 : decode cX12_readsOne 5 = .ok (.imul, 1) := by decide +kernel
theorem dX12_readsOne_6 : decode cX12_readsOne 6 = .ok (.istore_n 1, 1) := by decide +kernel
theorem dX12_readsOne_7 : decode cX12_readsOne 7 = .ok (.iconst 0, 1) := by decide +kernel
theorem dX12_readsOne_8 : decode cX12_readsOne 8 = .ok (.istore_n 2, 1) := by decide +kernel
theorem dX12_readsOne_9 : decode cX12_readsOne 9 = .ok (.iload_n 2, 1) := by decide +kernel
theorem dX12_readsOne_10 : decode cX12_readsOne 10 = .ok (.iconst 4, 1) := by decide +kernel
theorem dX12_readsOne_11 : decode cX12_readsOne 11 = .ok (.if_icmp .ge 61, 3) := by decide +kernel
theorem dX12_readsOne_14 : decode cX12_readsOne 14 = .ok (.aload_n 0, 1) := by decide +kernel
theorem dX12_readsOne_15 : decode cX12_readsOne 15 = .ok (.iconst 0, 1) := by decide +kernel
theorem dX12_readsOne_16 : decode cX12_readsOne 16 = .ok (.iload_n 2, 1) := by decide +kernel
theorem dX12_readsOne_17 : decode cX12_readsOne 17 = .ok (.ifCond .ne 7, 3) := by decide +kernel
theorem dX12_readsOne_20 : decode cX12_readsOne 20 = .ok (.iconst 5, 1) := by decide +kernel
theorem dX12_readsOne_21 : decode cX12_readsOne 21 = .ok (.goto 25, 3) := by decide +kernel
theorem dX12_readsOne_24 : decode cX12_readsOne 24 = .ok (.iload_n 2, 1) := by decide +kernel
theorem dX12_readsOne_25 : decode cX12_readsOne 25 = .ok (.iconst 1, 1) := by decide +kernel
theorem dX12_readsOne_26 : decode cX12_readsOne 26 = .ok (.if_icmp .ne 8, 3) := by decide +kernel
theorem dX12_readsOne_29 : decode cX12_readsOne 29 = .ok (.bipush 12, 2) := by decide +kernel
theorem dX12_readsOne_31 : decode cX12_readsOne 31 = .ok (.goto 15, 3) := by decide +kernel
theorem dX12_readsOne_34 : decode cX12_readsOne 34 = .ok (.iload_n 2, 1) := by decide +kernel
theorem dX12_readsOne_35 : decode cX12_readsOne 35 = .ok (.iconst 2, 1) := by decide +kernel
theorem dX12_readsOne_36 : decode cX12_readsOne 36 = .ok (.if_icmp .ne 8, 3) := by decide +kernel
theorem dX12_readsOne_39 : decode cX12_readsOne 39 = .ok (.bipush 30, 2) := by decide +kernel
theorem dX12_readsOne_41 : decode cX12_readsOne 41 = .ok (.goto 5, 3) := by decide +kernel
theorem dX12_readsOne_44 : decode cX12_readsOne 44 = .ok (.bipush 20, 2) := by decide +kernel
theorem dX12_readsOne_46 : decode cX12_readsOne 46 = .ok (.invokevirtual 147, 3) := by decide +kernel
theorem dX12_readsOne_49 : decode cX12_readsOne 49 = .ok (.ifCond .ne 5, 3) := by decide +kernel
theorem dX12_readsOne_52 : decode cX12_readsOne 52 = .ok (.iconst 0, 1) := by decide +kernel
theorem dX12_readsOne_53 : decode cX12_readsOne 53 = .ok (.ireturn, 1) := by decide +kernel
theorem dX12_readsOne_54 : decode cX12_readsOne 54 = .ok (.aload_n 0, 1) := by decide +kernel
theorem dX12_readsOne_55 : decode cX12_readsOne 55 = .ok (.getfield 43, 3) := by decide +kernel
theorem dX12_readsOne_58 : decode cX12_readsOne 58 = .ok (.iload_n 1, 1) := by decide +kernel
theorem dX12_readsOne_59 : decode cX12_readsOne 59 = .ok (.iload_n 2, 1) := by decide +kernel
theorem dX12_readsOne_60 : decode cX12_readsOne 60 = .ok (.iadd, 1) := by decide +kernel
theorem dX12_readsOne_61 : decode cX12_readsOne 61 = .ok (.aload_n 0, 1) := by decide +kernel
theorem dX12_readsOne_62 : decode cX12_readsOne 62 = .ok (.getfield 141, 3) := by decide +kernel
theorem dX12_readsOne_65 : decode cX12_readsOne 65 = .ok (.iastore, 1) := by decide +kernel
theorem dX12_readsOne_66 : decode cX12_readsOne 66 = .ok (.iinc 2 1, 3) := by decide +kernel
theorem dX12_readsOne_69 : decode cX12_readsOne 69 = .ok (.goto (-60), 3) := by decide +kernel
theorem dX12_readsOne_72 : decode cX12_readsOne 72 = .ok (.aload_n 0, 1) := by decide +kernel
theorem dX12_readsOne_73 : decode cX12_readsOne 73 = .ok (.getfield 43, 3) := by decide +kernel
theorem dX12_readsOne_76 : decode cX12_readsOne 76 = .ok (.iload_n 1, 1) := by decide +kernel
theorem dX12_readsOne_77 : decode cX12_readsOne 77 = .ok (.iconst 4, 1) := by decide +kernel
theorem dX12_readsOne_78 : decode cX12_readsOne 78 = .ok (.iadd, 1) := by decide +kernel
theorem dX12_readsOne_79 : decode cX12_readsOne 79 = .ok (.iconst 0, 1) := by decide +kernel
theorem dX12_readsOne_80 : decode cX12_readsOne 80 = .ok (.iastore, 1) := by decide +kernel
theorem dX12_readsOne_81 : decode cX12_readsOne 81 = .ok (.aload_n 0, 1) := by decide +kernel
theorem dX12_readsOne_82 : decode cX12_readsOne 82 = .ok (.dup, 1) := by decide +kernel
theorem dX12_readsOne_83 : decode cX12_readsOne 83 = .ok (.getfield 144, 3) := by decide +kernel
theorem dX12_readsOne_86 : decode cX12_readsOne 86 = .ok (.iconst 1, 1) := by decide +kernel
theorem dX12_readsOne_87 : decode cX12_readsOne 87 = .ok (.iadd, 1) := by decide +kernel
theorem dX12_readsOne_88 : decode cX12_readsOne 88 = .ok (.putfield 144, 3) := by decide +kernel
theorem dX12_readsOne_91 : decode cX12_readsOne 91 = .ok (.aload_n 0, 1) := by decide +kernel
theorem dX12_readsOne_92 : decode cX12_readsOne 92 = .ok (.invokevirtual 151, 3) := by decide +kernel
theorem dX12_readsOne_95 : decode cX12_readsOne 95 = .ok (.ireturn, 1) := by decide +kernel
theorem dX12_readsHands_0 : decode cX12_readsHands 0 = .ok (.aload_n 0, 1) := by decide +kernel
theorem dX12_readsHands_1 : decode cX12_readsHands 1 = .ok (.iconst 0, 1) := by decide +kernel
theorem dX12_readsHands_2 : decode cX12_readsHands 2 = .ok (.aload_n 0, 1) := by decide +kernel
theorem dX12_readsHands_3 : decode cX12_readsHands 3 = .ok (.getfield 144, 3) := by decide +kernel
theorem dX12_readsHands_6 : decode cX12_readsHands 6 = .ok (.iconst 1, 1) := by decide +kernel
theorem dX12_readsHands_7 : decode cX12_readsHands 7 = .ok (.isub, 1) := by decide +kernel
theorem dX12_readsHands_8 : decode cX12_readsHands 8 = .ok (.invokevirtual 147, 3) := by decide +kernel
theorem dX12_readsHands_11 : decode cX12_readsHands 11 = .ok (.ifCond .ne 5, 3) := by decide +kernel
theorem dX12_readsHands_14 : decode cX12_readsHands 14 = .ok (.iconst 0, 1) := by decide +kernel
theorem dX12_readsHands_15 : decode cX12_readsHands 15 = .ok (.ireturn, 1) := by decide +kernel
theorem dX12_readsHands_16 : decode cX12_readsHands 16 = .ok (.aload_n 0, 1) := by decide +kernel
theorem dX12_readsHands_17 : decode cX12_readsHands 17 = .ok (.getfield 141, 3) := by decide +kernel
theorem dX12_readsHands_20 : decode cX12_readsHands 20 = .ok (.istore_n 1, 1) := by decide +kernel
theorem dX12_readsHands_21 : decode cX12_readsHands 21 = .ok (.iconst 0, 1) := by decide +kernel
theorem dX12_readsHands_22 : decode cX12_readsHands 22 = .ok (.istore_n 2, 1) := by decide +kernel
theorem dX12_readsHands_23 : decode cX12_readsHands 23 = .ok (.aload_n 0, 1) := by decide +kernel
theorem dX12_readsHands_24 : decode cX12_readsHands 24 = .ok (.invokevirtual 135, 3) := by decide +kernel
theorem dX12_readsHands_27 : decode cX12_readsHands 27 = .ok (.aload_n 0, 1) := by decide +kernel
theorem dX12_readsHands_28 : decode cX12_readsHands 28 = .ok (.invokevirtual 118, 3) := by decide +kernel
theorem dX12_readsHands_31 : decode cX12_readsHands 31 = .ok (.invokestatic 138, 3) := by decide +kernel
theorem dX12_readsHands_34 : decode cX12_readsHands 34 = .ok (.ifCond .eq 55, 3) := by decide +kernel
theorem dX12_readsHands_37 : decode cX12_readsHands 37 = .ok (.aload_n 0, 1) := by decide +kernel
theorem dX12_readsHands_38 : decode cX12_readsHands 38 = .ok (.getfield 115, 3) := by decide +kernel
theorem dX12_readsHands_41 : decode cX12_readsHands 41 = .ok (.istore_n 3, 1) := by decide +kernel
theorem dX12_readsHands_42 : decode cX12_readsHands 42 = .ok (.aload_n 0, 1) := by decide +kernel
theorem dX12_readsHands_43 : decode cX12_readsHands 43 = .ok (.iconst 0, 1) := by decide +kernel
theorem dX12_readsHands_44 : decode cX12_readsHands 44 = .ok (.aload_n 0, 1) := by decide +kernel
theorem dX12_readsHands_45 : decode cX12_readsHands 45 = .ok (.getfield 144, 3) := by decide +kernel
theorem dX12_readsHands_48 : decode cX12_readsHands 48 = .ok (.iconst 1, 1) := by decide +kernel
theorem dX12_readsHands_49 : decode cX12_readsHands 49 = .ok (.isub, 1) := by decide +kernel
theorem dX12_readsHands_50 : decode cX12_readsHands 50 = .ok (.invokevirtual 147, 3) := by decide +kernel
theorem dX12_readsHands_53 : decode cX12_readsHands 53 = .ok (.ifCond .ne 5, 3) := by decide +kernel
theorem dX12_readsHands_56 : decode cX12_readsHands 56 = .ok (.iconst 0, 1) := by decide +kernel
theorem dX12_readsHands_57 : decode cX12_readsHands 57 = .ok (.ireturn, 1) := by decide +kernel
theorem dX12_readsHands_58 : decode cX12_readsHands 58 = .ok (.aload_n 0, 1) := by decide +kernel
theorem dX12_readsHands_59 : decode cX12_readsHands 59 = .ok (.getfield 141, 3) := by decide +kernel
theorem dX12_readsHands_62 : decode cX12_readsHands 62 = .ok (.iload_n 1, 1) := by decide +kernel
theorem dX12_readsHands_63 : decode cX12_readsHands 63 = .ok (.if_icmp .ne 10, 3) := by decide +kernel
theorem dX12_readsHands_66 : decode cX12_readsHands 66 = .ok (.aload_n 0, 1) := by decide +kernel
theorem dX12_readsHands_67 : decode cX12_readsHands 67 = .ok (.iload_n 3, 1) := by decide +kernel
theorem dX12_readsHands_68 : decode cX12_readsHands 68 = .ok (.putfield 115, 3) := by decide +kernel
theorem dX12_readsHands_71 : decode cX12_readsHands 71 = .ok (.iconst 0, 1) := by decide +kernel
theorem dX12_readsHands_72 : decode cX12_readsHands 72 = .ok (.ireturn, 1) := by decide +kernel
theorem dX12_readsHands_73 : decode cX12_readsHands 73 = .ok (.iload_n 2, 1) := by decide +kernel
theorem dX12_readsHands_74 : decode cX12_readsHands 74 = .ok (.iconst 1, 1) := by decide +kernel
theorem dX12_readsHands_75 : decode cX12_readsHands 75 = .ok (.aload_n 0, 1) := by decide +kernel
theorem dX12_readsHands_76 : decode cX12_readsHands 76 = .ok (.getfield 141, 3) := by decide +kernel
theorem dX12_readsHands_79 : decode cX12_readsHands 79 = .ok (.ishl, 1) := by decide +kernel
theorem dX12_readsHands_80 : decode cX12_readsHands 80 = .ok (.ior, 1) := by decide +kernel
theorem dX12_readsHands_81 : decode cX12_readsHands 81 = .ok (.istore_n 2, 1) := by decide +kernel
theorem dX12_readsHands_82 : decode cX12_readsHands 82 = .ok (.aload_n 0, 1) := by decide +kernel
theorem dX12_readsHands_83 : decode cX12_readsHands 83 = .ok (.invokevirtual 135, 3) := by decide +kernel
theorem dX12_readsHands_86 : decode cX12_readsHands 86 = .ok (.goto (-59), 3) := by decide +kernel
theorem dX12_readsHands_89 : decode cX12_readsHands 89 = .ok (.aload_n 0, 1) := by decide +kernel
theorem dX12_readsHands_90 : decode cX12_readsHands 90 = .ok (.getfield 43, 3) := by decide +kernel
theorem dX12_readsHands_93 : decode cX12_readsHands 93 = .ok (.iconst 5, 1) := by decide +kernel
theorem dX12_readsHands_94 : decode cX12_readsHands 94 = .ok (.iload_n 1, 1) := by decide +kernel
theorem dX12_readsHands_95 : decode cX12_readsHands 95 = .ok (.imul, 1) := by decide +kernel
theorem dX12_readsHands_96 : decode cX12_readsHands 96 = .ok (.iconst 4, 1) := by decide +kernel
theorem dX12_readsHands_97 : decode cX12_readsHands 97 = .ok (.iadd, 1) := by decide +kernel
theorem dX12_readsHands_98 : decode cX12_readsHands 98 = .ok (.iload_n 2, 1) := by decide +kernel
theorem dX12_readsHands_99 : decode cX12_readsHands 99 = .ok (.iastore, 1) := by decide +kernel
theorem dX12_readsHands_100 : decode cX12_readsHands 100 = .ok (.aload_n 0, 1) := by decide +kernel
theorem dX12_readsHands_101 : decode cX12_readsHands 101 = .ok (.invokevirtual 151, 3) := by decide +kernel
theorem dX12_readsHands_104 : decode cX12_readsHands 104 = .ok (.ireturn, 1) := by decide +kernel
theorem dX12_readsLie_0 : decode cX12_readsLie 0 = .ok (.aload_n 0, 1) := by decide +kernel
theorem dX12_readsLie_1 : decode cX12_readsLie 1 = .ok (.iconst 0, 1) := by decide +kernel
theorem dX12_readsLie_2 : decode cX12_readsLie 2 = .ok (.aload_n 0, 1) := by decide +kernel
theorem dX12_readsLie_3 : decode cX12_readsLie 3 = .ok (.getfield 144, 3) := by decide +kernel
theorem dX12_readsLie_6 : decode cX12_readsLie 6 = .ok (.iconst 1, 1) := by decide +kernel
theorem dX12_readsLie_7 : decode cX12_readsLie 7 = .ok (.isub, 1) := by decide +kernel
theorem dX12_readsLie_8 : decode cX12_readsLie 8 = .ok (.invokevirtual 147, 3) := by decide +kernel
theorem dX12_readsLie_11 : decode cX12_readsLie 11 = .ok (.ifCond .ne 5, 3) := by decide +kernel
theorem dX12_readsLie_14 : decode cX12_readsLie 14 = .ok (.iconst 0, 1) := by decide +kernel
theorem dX12_readsLie_15 : decode cX12_readsLie 15 = .ok (.ireturn, 1) := by decide +kernel
theorem dX12_readsLie_16 : decode cX12_readsLie 16 = .ok (.aload_n 0, 1) := by decide +kernel
theorem dX12_readsLie_17 : decode cX12_readsLie 17 = .ok (.getfield 141, 3) := by decide +kernel
theorem dX12_readsLie_20 : decode cX12_readsLie 20 = .ok (.istore_n 1, 1) := by decide +kernel
theorem dX12_readsLie_21 : decode cX12_readsLie 21 = .ok (.aload_n 0, 1) := by decide +kernel
theorem dX12_readsLie_22 : decode cX12_readsLie 22 = .ok (.iconst 1, 1) := by decide +kernel
theorem dX12_readsLie_23 : decode cX12_readsLie 23 = .ok (.iconst 4, 1) := by decide +kernel
theorem dX12_readsLie_24 : decode cX12_readsLie 24 = .ok (.invokevirtual 147, 3) := by decide +kernel
theorem dX12_readsLie_27 : decode cX12_readsLie 27 = .ok (.ifCond .ne 5, 3) := by decide +kernel
theorem dX12_readsLie_30 : decode cX12_readsLie 30 = .ok (.iconst 0, 1) := by decide +kernel
theorem dX12_readsLie_31 : decode cX12_readsLie 31 = .ok (.ireturn, 1) := by decide +kernel
theorem dX12_readsLie_32 : decode cX12_readsLie 32 = .ok (.aload_n 0, 1) := by decide +kernel
theorem dX12_readsLie_33 : decode cX12_readsLie 33 = .ok (.getfield 43, 3) := by decide +kernel
theorem dX12_readsLie_36 : decode cX12_readsLie 36 = .ok (.iconst 5, 1) := by decide +kernel
theorem dX12_readsLie_37 : decode cX12_readsLie 37 = .ok (.iload_n 1, 1) := by decide +kernel
theorem dX12_readsLie_38 : decode cX12_readsLie 38 = .ok (.imul, 1) := by decide +kernel
theorem dX12_readsLie_39 : decode cX12_readsLie 39 = .ok (.iaload, 1) := by decide +kernel
theorem dX12_readsLie_40 : decode cX12_readsLie 40 = .ok (.aload_n 0, 1) := by decide +kernel
theorem dX12_readsLie_41 : decode cX12_readsLie 41 = .ok (.getfield 141, 3) := by decide +kernel
theorem dX12_readsLie_44 : decode cX12_readsLie 44 = .ok (.invokestatic 155, 3) := by decide +kernel
theorem dX12_readsLie_47 : decode cX12_readsLie 47 = .ok (.istore_n 2, 1) := by decide +kernel
theorem dX12_readsLie_48 : decode cX12_readsLie 48 = .ok (.aload_n 0, 1) := by decide +kernel
theorem dX12_readsLie_49 : decode cX12_readsLie 49 = .ok (.getfield 43, 3) := by decide +kernel
theorem dX12_readsLie_52 : decode cX12_readsLie 52 = .ok (.iconst 5, 1) := by decide +kernel
theorem dX12_readsLie_53 : decode cX12_readsLie 53 = .ok (.iload_n 1, 1) := by decide +kernel
theorem dX12_readsLie_54 : decode cX12_readsLie 54 = .ok (.imul, 1) := by decide +kernel
theorem dX12_readsLie_55 : decode cX12_readsLie 55 = .ok (.iconst 1, 1) := by decide +kernel
theorem dX12_readsLie_56 : decode cX12_readsLie 56 = .ok (.iadd, 1) := by decide +kernel
theorem dX12_readsLie_57 : decode cX12_readsLie 57 = .ok (.aload_n 0, 1) := by decide +kernel
theorem dX12_readsLie_58 : decode cX12_readsLie 58 = .ok (.getfield 43, 3) := by decide +kernel
theorem dX12_readsLie_61 : decode cX12_readsLie 61 = .ok (.iconst 5, 1) := by decide +kernel
theorem dX12_readsLie_62 : decode cX12_readsLie 62 = .ok (.iload_n 1, 1) := by decide +kernel
theorem dX12_readsLie_63 : decode cX12_readsLie 63 = .ok (.imul, 1) := by decide +kernel
theorem dX12_readsLie_64 : decode cX12_readsLie 64 = .ok (.iconst 1, 1) := by decide +kernel
theorem dX12_readsLie_65 : decode cX12_readsLie 65 = .ok (.iadd, 1) := by decide +kernel
theorem dX12_readsLie_66 : decode cX12_readsLie 66 = .ok (.iaload, 1) := by decide +kernel
theorem dX12_readsLie_67 : decode cX12_readsLie 67 = .ok (.iload_n 2, 1) := by decide +kernel
theorem dX12_readsLie_68 : decode cX12_readsLie 68 = .ok (.if_icmp .ge 7, 3) := by decide +kernel
theorem dX12_readsLie_71 : decode cX12_readsLie 71 = .ok (.iconst 0, 1) := by decide +kernel
theorem dX12_readsLie_72 : decode cX12_readsLie 72 = .ok (.goto 15, 3) := by decide +kernel
theorem dX12_readsLie_75 : decode cX12_readsLie 75 = .ok (.aload_n 0, 1) := by decide +kernel
theorem dX12_readsLie_76 : decode cX12_readsLie 76 = .ok (.getfield 43, 3) := by decide +kernel
theorem dX12_readsLie_79 : decode cX12_readsLie 79 = .ok (.iconst 5, 1) := by decide +kernel
theorem dX12_readsLie_80 : decode cX12_readsLie 80 = .ok (.iload_n 1, 1) := by decide +kernel
theorem dX12_readsLie_81 : decode cX12_readsLie 81 = .ok (.imul, 1) := by decide +kernel
theorem dX12_readsLie_82 : decode cX12_readsLie 82 = .ok (.iconst 1, 1) := by decide +kernel
theorem dX12_readsLie_83 : decode cX12_readsLie 83 = .ok (.iadd, 1) := by decide +kernel
theorem dX12_readsLie_84 : decode cX12_readsLie 84 = .ok (.iaload, 1) := by decide +kernel
theorem dX12_readsLie_85 : decode cX12_readsLie 85 = .ok (.iload_n 2, 1) := by decide +kernel
theorem dX12_readsLie_86 : decode cX12_readsLie 86 = .ok (.isub, 1) := by decide +kernel
theorem dX12_readsLie_87 : decode cX12_readsLie 87 = .ok (.iastore, 1) := by decide +kernel
theorem dX12_readsLie_88 : decode cX12_readsLie 88 = .ok (.aload_n 0, 1) := by decide +kernel
theorem dX12_readsLie_89 : decode cX12_readsLie 89 = .ok (.dup, 1) := by decide +kernel
theorem dX12_readsLie_90 : decode cX12_readsLie 90 = .ok (.getfield 159, 3) := by decide +kernel
theorem dX12_readsLie_93 : decode cX12_readsLie 93 = .ok (.iconst 1, 1) := by decide +kernel
theorem dX12_readsLie_94 : decode cX12_readsLie 94 = .ok (.iload_n 1, 1) := by decide +kernel
theorem dX12_readsLie_95 : decode cX12_readsLie 95 = .ok (.ishl, 1) := by decide +kernel
theorem dX12_readsLie_96 : decode cX12_readsLie 96 = .ok (.ior, 1) := by decide +kernel
theorem dX12_readsLie_97 : decode cX12_readsLie 97 = .ok (.putfield 159, 3) := by decide +kernel
theorem dX12_readsLie_100 : decode cX12_readsLie 100 = .ok (.aload_n 0, 1) := by decide +kernel
theorem dX12_readsLie_101 : decode cX12_readsLie 101 = .ok (.invokevirtual 151, 3) := by decide +kernel
theorem dX12_readsLie_104 : decode cX12_readsLie 104 = .ok (.ireturn, 1) := by decide +kernel
theorem dX12_readsItem_0 : decode cX12_readsItem 0 = .ok (.aload_n 0, 1) := by decide +kernel
theorem dX12_readsItem_1 : decode cX12_readsItem 1 = .ok (.invokevirtual 162, 3) := by decide +kernel
theorem dX12_readsItem_4 : decode cX12_readsItem 4 = .ok (.istore_n 1, 1) := by decide +kernel
theorem dX12_readsItem_5 : decode cX12_readsItem 5 = .ok (.iload_n 1, 1) := by decide +kernel
theorem dX12_readsItem_6 : decode cX12_readsItem 6 = .ok (.iconst 1, 1) := by decide +kernel
theorem dX12_readsItem_7 : decode cX12_readsItem 7 = .ok (.if_icmp .lt 17, 3) := by decide +kernel
theorem dX12_readsItem_10 : decode cX12_readsItem 10 = .ok (.iload_n 1, 1) := by decide +kernel
theorem dX12_readsItem_11 : decode cX12_readsItem 11 = .ok (.iconst 1, 1) := by decide +kernel
theorem dX12_readsItem_12 : decode cX12_readsItem 12 = .ok (.if_icmp .ne 14, 3) := by decide +kernel
theorem dX12_readsItem_15 : decode cX12_readsItem 15 = .ok (.aload_n 0, 1) := by decide +kernel
theorem dX12_readsItem_16 : decode cX12_readsItem 16 = .ok (.getfield 144, 3) := by decide +kernel
theorem dX12_readsItem_19 : decode cX12_readsItem 19 = .ok (.bipush 6, 2) := by decide +kernel
theorem dX12_readsItem_21 : decode cX12_readsItem 21 = .ok (.if_icmp .ne 5, 3) := by decide +kernel
theorem dX12_readsItem_24 : decode cX12_readsItem 24 = .ok (.iconst 0, 1) := by decide +kernel
theorem dX12_readsItem_25 : decode cX12_readsItem 25 = .ok (.ireturn, 1) := by decide +kernel
theorem dX12_readsItem_26 : decode cX12_readsItem 26 = .ok (.aload_n 0, 1) := by decide +kernel
theorem dX12_readsItem_27 : decode cX12_readsItem 27 = .ok (.dup, 1) := by decide +kernel
theorem dX12_readsItem_28 : decode cX12_readsItem 28 = .ok (.getfield 115, 3) := by decide +kernel
theorem dX12_readsItem_31 : decode cX12_readsItem 31 = .ok (.iload_n 1, 1) := by decide +kernel
theorem dX12_readsItem_32 : decode cX12_readsItem 32 = .ok (.iconst 2, 1) := by decide +kernel
theorem dX12_readsItem_33 : decode cX12_readsItem 33 = .ok (.if_icmp .ne 7, 3) := by decide +kernel
theorem dX12_readsItem_36 : decode cX12_readsItem 36 = .ok (.iconst 5, 1) := by decide +kernel
theorem dX12_readsItem_37 : decode cX12_readsItem 37 = .ok (.goto 4, 3) := by decide +kernel
theorem dX12_readsItem_40 : decode cX12_readsItem 40 = .ok (.iconst 3, 1) := by decide +kernel
theorem dX12_readsItem_41 : decode cX12_readsItem 41 = .ok (.iadd, 1) := by decide +kernel
theorem dX12_readsItem_42 : decode cX12_readsItem 42 = .ok (.putfield 115, 3) := by decide +kernel
theorem dX12_readsItem_45 : decode cX12_readsItem 45 = .ok (.iload_n 1, 1) := by decide +kernel
theorem dX12_readsItem_46 : decode cX12_readsItem 46 = .ok (.iconst 1, 1) := by decide +kernel
theorem dX12_readsItem_47 : decode cX12_readsItem 47 = .ok (.if_icmp .ne 10, 3) := by decide +kernel
theorem dX12_readsItem_50 : decode cX12_readsItem 50 = .ok (.aload_n 0, 1) := by decide +kernel
theorem dX12_readsItem_51 : decode cX12_readsItem 51 = .ok (.invokevirtual 165, 3) := by decide +kernel
theorem dX12_readsItem_54 : decode cX12_readsItem 54 = .ok (.goto 19, 3) := by decide +kernel
theorem dX12_readsItem_57 : decode cX12_readsItem 57 = .ok (.iload_n 1, 1) := by decide +kernel
theorem dX12_readsItem_58 : decode cX12_readsItem 58 = .ok (.iconst 2, 1) := by decide +kernel
theorem dX12_readsItem_59 : decode cX12_readsItem 59 = .ok (.if_icmp .ne 10, 3) := by decide +kernel
theorem dX12_readsItem_62 : decode cX12_readsItem 62 = .ok (.aload_n 0, 1) := by decide +kernel
theorem dX12_readsItem_63 : decode cX12_readsItem 63 = .ok (.invokevirtual 168, 3) := by decide +kernel
theorem dX12_readsItem_66 : decode cX12_readsItem 66 = .ok (.goto 7, 3) := by decide +kernel
theorem dX12_readsItem_69 : decode cX12_readsItem 69 = .ok (.aload_n 0, 1) := by decide +kernel
theorem dX12_readsItem_70 : decode cX12_readsItem 70 = .ok (.invokevirtual 171, 3) := by decide +kernel
theorem dX12_readsItem_73 : decode cX12_readsItem 73 = .ok (.ireturn, 1) := by decide +kernel
theorem dX12_readsGold_0 : decode cX12_readsGold 0 = .ok (.aload_n 0, 1) := by decide +kernel
theorem dX12_readsGold_1 : decode cX12_readsGold 1 = .ok (.iconst 0, 1) := by decide +kernel
theorem dX12_readsGold_2 : decode cX12_readsGold 2 = .ok (.putfield 115, 3) := by decide +kernel
theorem dX12_readsGold_5 : decode cX12_readsGold 5 = .ok (.aload_n 0, 1) := by decide +kernel
theorem dX12_readsGold_6 : decode cX12_readsGold 6 = .ok (.iconst 0, 1) := by decide +kernel
theorem dX12_readsGold_7 : decode cX12_readsGold 7 = .ok (.putfield 144, 3) := by decide +kernel
theorem dX12_readsGold_10 : decode cX12_readsGold 10 = .ok (.aload_n 0, 1) := by decide +kernel
theorem dX12_readsGold_11 : decode cX12_readsGold 11 = .ok (.iconst 0, 1) := by decide +kernel
theorem dX12_readsGold_12 : decode cX12_readsGold 12 = .ok (.putfield 159, 3) := by decide +kernel
theorem dX12_readsGold_15 : decode cX12_readsGold 15 = .ok (.aload_n 0, 1) := by decide +kernel
theorem dX12_readsGold_16 : decode cX12_readsGold 16 = .ok (.invokevirtual 135, 3) := by decide +kernel
theorem dX12_readsGold_19 : decode cX12_readsGold 19 = .ok (.aload_n 0, 1) := by decide +kernel
theorem dX12_readsGold_20 : decode cX12_readsGold 20 = .ok (.invokevirtual 162, 3) := by decide +kernel
theorem dX12_readsGold_23 : decode cX12_readsGold 23 = .ok (.ifCond .eq 5, 3) := by decide +kernel
theorem dX12_readsGold_26 : decode cX12_readsGold 26 = .ok (.iconst (-1), 1) := by decide +kernel
theorem dX12_readsGold_27 : decode cX12_readsGold 27 = .ok (.ireturn, 1) := by decide +kernel
theorem dX12_readsGold_28 : decode cX12_readsGold 28 = .ok (.aload_n 0, 1) := by decide +kernel
theorem dX12_readsGold_29 : decode cX12_readsGold 29 = .ok (.dup, 1) := by decide +kernel
theorem dX12_readsGold_30 : decode cX12_readsGold 30 = .ok (.getfield 115, 3) := by decide +kernel
theorem dX12_readsGold_33 : decode cX12_readsGold 33 = .ok (.iconst 4, 1) := by decide +kernel
theorem dX12_readsGold_34 : decode cX12_readsGold 34 = .ok (.iadd, 1) := by decide +kernel
theorem dX12_readsGold_35 : decode cX12_readsGold 35 = .ok (.putfield 115, 3) := by decide +kernel
theorem dX12_readsGold_38 : decode cX12_readsGold 38 = .ok (.aload_n 0, 1) := by decide +kernel
theorem dX12_readsGold_39 : decode cX12_readsGold 39 = .ok (.invokevirtual 151, 3) := by decide +kernel
theorem dX12_readsGold_42 : decode cX12_readsGold 42 = .ok (.ifCond .ne 5, 3) := by decide +kernel
theorem dX12_readsGold_45 : decode cX12_readsGold 45 = .ok (.iconst (-1), 1) := by decide +kernel
theorem dX12_readsGold_46 : decode cX12_readsGold 46 = .ok (.ireturn, 1) := by decide +kernel
theorem dX12_readsGold_47 : decode cX12_readsGold 47 = .ok (.iconst 1, 1) := by decide +kernel
theorem dX12_readsGold_48 : decode cX12_readsGold 48 = .ok (.istore_n 1, 1) := by decide +kernel
theorem dX12_readsGold_49 : decode cX12_readsGold 49 = .ok (.aload_n 0, 1) := by decide +kernel
theorem dX12_readsGold_50 : decode cX12_readsGold 50 = .ok (.invokevirtual 135, 3) := by decide +kernel
theorem dX12_readsGold_53 : decode cX12_readsGold 53 = .ok (.aload_n 0, 1) := by decide +kernel
theorem dX12_readsGold_54 : decode cX12_readsGold 54 = .ok (.getfield 115, 3) := by decide +kernel
theorem dX12_readsGold_57 : decode cX12_readsGold 57 = .ok (.aload_n 0, 1) := by decide +kernel
theorem dX12_readsGold_58 : decode cX12_readsGold 58 = .ok (.getfield 112, 3) := by decide +kernel
theorem dX12_readsGold_61 : decode cX12_readsGold 61 = .ok (.if_icmp .ge 22, 3) := by decide +kernel
theorem dX12_readsGold_64 : decode cX12_readsGold 64 = .ok (.aload_n 0, 1) := by decide +kernel
theorem dX12_readsGold_65 : decode cX12_readsGold 65 = .ok (.invokevirtual 174, 3) := by decide +kernel
theorem dX12_readsGold_68 : decode cX12_readsGold 68 = .ok (.ifCond .ne 5, 3) := by decide +kernel
theorem dX12_readsGold_71 : decode cX12_readsGold 71 = .ok (.iconst (-1), 1) := by decide +kernel
theorem dX12_readsGold_72 : decode cX12_readsGold 72 = .ok (.ireturn, 1) := by decide +kernel
theorem dX12_readsGold_73 : decode cX12_readsGold 73 = .ok (.iinc 1 1, 3) := by decide +kernel
theorem dX12_readsGold_76 : decode cX12_readsGold 76 = .ok (.aload_n 0, 1) := by decide +kernel
theorem dX12_readsGold_77 : decode cX12_readsGold 77 = .ok (.invokevirtual 135, 3) := by decide +kernel
theorem dX12_readsGold_80 : decode cX12_readsGold 80 = .ok (.goto (-27), 3) := by decide +kernel
theorem dX12_readsGold_83 : decode cX12_readsGold 83 = .ok (.iload_n 1, 1) := by decide +kernel
theorem dX12_readsGold_84 : decode cX12_readsGold 84 = .ok (.ireturn, 1) := by decide +kernel
theorem dX12_read_0 : decode cX12_read 0 = .ok (.aload_n 0, 1) := by decide +kernel
theorem dX12_read_1 : decode cX12_read 1 = .ok (.invokevirtual 177, 3) := by decide +kernel
theorem dX12_read_4 : decode cX12_read 4 = .ok (.istore_n 1, 1) := by decide +kernel
theorem dX12_read_5 : decode cX12_read 5 = .ok (.iload_n 1, 1) := by decide +kernel
theorem dX12_read_6 : decode cX12_read 6 = .ok (.ifCond .ge 11, 3) := by decide +kernel
theorem dX12_read_9 : decode cX12_read 9 = .ok (.bipush (-10), 2) := by decide +kernel
theorem dX12_read_11 : decode cX12_read 11 = .ok (.aload_n 0, 1) := by decide +kernel
theorem dX12_read_12 : decode cX12_read 12 = .ok (.getfield 115, 3) := by decide +kernel
theorem dX12_read_15 : decode cX12_read 15 = .ok (.isub, 1) := by decide +kernel
theorem dX12_read_16 : decode cX12_read 16 = .ok (.ireturn, 1) := by decide +kernel
theorem dX12_read_17 : decode cX12_read 17 = .ok (.aload_n 0, 1) := by decide +kernel
theorem dX12_read_18 : decode cX12_read 18 = .ok (.invokevirtual 74, 3) := by decide +kernel
theorem dX12_read_21 : decode cX12_read 21 = .ok (.iconst 0, 1) := by decide +kernel
theorem dX12_read_22 : decode cX12_read 22 = .ok (.istore_n 2, 1) := by decide +kernel
theorem dX12_read_23 : decode cX12_read 23 = .ok (.iload_n 2, 1) := by decide +kernel
theorem dX12_read_24 : decode cX12_read 24 = .ok (.aload_n 0, 1) := by decide +kernel
theorem dX12_read_25 : decode cX12_read 25 = .ok (.getfield 144, 3) := by decide +kernel
theorem dX12_read_28 : decode cX12_read 28 = .ok (.if_icmp .ge 52, 3) := by decide +kernel
theorem dX12_read_31 : decode cX12_read 31 = .ok (.aload_n 0, 1) := by decide +kernel
theorem dX12_read_32 : decode cX12_read 32 = .ok (.aload_n 0, 1) := by decide +kernel
theorem dX12_read_33 : decode cX12_read 33 = .ok (.getfield 43, 3) := by decide +kernel
theorem dX12_read_36 : decode cX12_read 36 = .ok (.iconst 5, 1) := by decide +kernel
theorem dX12_read_37 : decode cX12_read 37 = .ok (.iload_n 2, 1) := by decide +kernel
theorem dX12_read_38 : decode cX12_read 38 = .ok (.imul, 1) := by decide +kernel
theorem dX12_read_39 : decode cX12_read 39 = .ok (.iaload, 1) := by decide +kernel
theorem dX12_read_40 : decode cX12_read 40 = .ok (.aload_n 0, 1) := by decide +kernel
theorem dX12_read_41 : decode cX12_read 41 = .ok (.getfield 43, 3) := by decide +kernel
theorem dX12_read_44 : decode cX12_read 44 = .ok (.iconst 5, 1) := by decide +kernel
theorem dX12_read_45 : decode cX12_read 45 = .ok (.iload_n 2, 1) := by decide +kernel
theorem dX12_read_46 : decode cX12_read 46 = .ok (.imul, 1) := by decide +kernel
theorem dX12_read_47 : decode cX12_read 47 = .ok (.iconst 1, 1) := by decide +kernel
theorem dX12_read_48 : decode cX12_read 48 = .ok (.iadd, 1) := by decide +kernel
theorem dX12_read_49 : decode cX12_read 49 = .ok (.iaload, 1) := by decide +kernel
theorem dX12_read_50 : decode cX12_read 50 = .ok (.aload_n 0, 1) := by decide +kernel
theorem dX12_read_51 : decode cX12_read 51 = .ok (.getfield 43, 3) := by decide +kernel
theorem dX12_read_54 : decode cX12_read 54 = .ok (.iconst 5, 1) := by decide +kernel
theorem dX12_read_55 : decode cX12_read 55 = .ok (.iload_n 2, 1) := by decide +kernel
theorem dX12_read_56 : decode cX12_read 56 = .ok (.imul, 1) := by decide +kernel
theorem dX12_read_57 : decode cX12_read 57 = .ok (.iconst 2, 1) := by decide +kernel
theorem dX12_read_58 : decode cX12_read 58 = .ok (.iadd, 1) := by decide +kernel
theorem dX12_read_59 : decode cX12_read 59 = .ok (.iaload, 1) := by decide +kernel
theorem dX12_read_60 : decode cX12_read 60 = .ok (.aload_n 0, 1) := by decide +kernel
theorem dX12_read_61 : decode cX12_read 61 = .ok (.getfield 43, 3) := by decide +kernel
theorem dX12_read_64 : decode cX12_read 64 = .ok (.iconst 5, 1) := by decide +kernel
theorem dX12_read_65 : decode cX12_read 65 = .ok (.iload_n 2, 1) := by decide +kernel
theorem dX12_read_66 : decode cX12_read 66 = .ok (.imul, 1) := by decide +kernel
theorem dX12_read_67 : decode cX12_read 67 = .ok (.iconst 3, 1) := by decide +kernel
theorem dX12_read_68 : decode cX12_read 68 = .ok (.iadd, 1) := by decide +kernel
theorem dX12_read_69 : decode cX12_read 69 = .ok (.iaload, 1) := by decide +kernel
theorem dX12_read_70 : decode cX12_read 70 = .ok (.invokevirtual 104, 3) := by decide +kernel
theorem dX12_read_73 : decode cX12_read 73 = .ok (.pop, 1) := by decide +kernel
theorem dX12_read_74 : decode cX12_read 74 = .ok (.iinc 2 1, 3) := by decide +kernel
theorem dX12_read_77 : decode cX12_read 77 = .ok (.goto (-54), 3) := by decide +kernel
theorem dX12_read_80 : decode cX12_read 80 = .ok (.iconst 0, 1) := by decide +kernel
theorem dX12_read_81 : decode cX12_read 81 = .ok (.istore_n 2, 1) := by decide +kernel
theorem dX12_read_82 : decode cX12_read 82 = .ok (.iload_n 2, 1) := by decide +kernel
theorem dX12_read_83 : decode cX12_read 83 = .ok (.aload_n 0, 1) := by decide +kernel
theorem dX12_read_84 : decode cX12_read 84 = .ok (.getfield 144, 3) := by decide +kernel
theorem dX12_read_87 : decode cX12_read 87 = .ok (.if_icmp .ge 25, 3) := by decide +kernel
theorem dX12_read_90 : decode cX12_read 90 = .ok (.aload_n 0, 1) := by decide +kernel
theorem dX12_read_91 : decode cX12_read 91 = .ok (.getfield 25, 3) := by decide +kernel
theorem dX12_read_94 : decode cX12_read 94 = .ok (.iload_n 2, 1) := by decide +kernel
theorem dX12_read_95 : decode cX12_read 95 = .ok (.aload_n 0, 1) := by decide +kernel
theorem dX12_read_96 : decode cX12_read 96 = .ok (.getfield 43, 3) := by decide +kernel
theorem dX12_read_99 : decode cX12_read 99 = .ok (.iconst 5, 1) := by decide +kernel
theorem dX12_read_100 : decode cX12_read 100 = .ok (.iload_n 2, 1) := by decide +kernel
theorem dX12_read_101 : decode cX12_read 101 = .ok (.imul, 1) := by decide +kernel
theorem dX12_read_102 : decode cX12_read 102 = .ok (.iconst 4, 1) := by decide +kernel
theorem dX12_read_103 : decode cX12_read 103 = .ok (.iadd, 1) := by decide +kernel
theorem dX12_read_104 : decode cX12_read 104 = .ok (.iaload, 1) := by decide +kernel
theorem dX12_read_105 : decode cX12_read 105 = .ok (.iastore, 1) := by decide +kernel
theorem dX12_read_106 : decode cX12_read 106 = .ok (.iinc 2 1, 3) := by decide +kernel
theorem dX12_read_109 : decode cX12_read 109 = .ok (.goto (-27), 3) := by decide +kernel
theorem dX12_read_112 : decode cX12_read 112 = .ok (.aload_n 0, 1) := by decide +kernel
theorem dX12_read_113 : decode cX12_read 113 = .ok (.aload_n 0, 1) := by decide +kernel
theorem dX12_read_114 : decode cX12_read 114 = .ok (.getfield 159, 3) := by decide +kernel
theorem dX12_read_117 : decode cX12_read 117 = .ok (.putfield 84, 3) := by decide +kernel
theorem dX12_read_120 : decode cX12_read 120 = .ok (.iload_n 1, 1) := by decide +kernel
theorem dX12_read_121 : decode cX12_read 121 = .ok (.ireturn, 1) := by decide +kernel
theorem dX12_weightBy_0 : decode cX12_weightBy 0 = .ok (.iload_n 0, 1) := by decide +kernel
theorem dX12_weightBy_1 : decode cX12_weightBy 1 = .ok (.tableswitch 79 1 5 #[35, 40, 46, 52, 68], 35) := by decide +kernel
theorem dX12_weightBy_36 : decode cX12_weightBy 36 = .ok (.bipush 12, 2) := by decide +kernel
theorem dX12_weightBy_38 : decode cX12_weightBy 38 = .ok (.iload_n 1, 1) := by decide +kernel
theorem dX12_weightBy_39 : decode cX12_weightBy 39 = .ok (.imul, 1) := by decide +kernel
theorem dX12_weightBy_40 : decode cX12_weightBy 40 = .ok (.ireturn, 1) := by decide +kernel
theorem dX12_weightBy_41 : decode cX12_weightBy 41 = .ok (.iload_n 1, 1) := by decide +kernel
theorem dX12_weightBy_42 : decode cX12_weightBy 42 = .ok (.iload_n 2, 1) := by decide +kernel
theorem dX12_weightBy_43 : decode cX12_weightBy 43 = .ok (.imul, 1) := by decide +kernel
theorem dX12_weightBy_44 : decode cX12_weightBy 44 = .ok (.iconst 2, 1) := by decide +kernel
theorem dX12_weightBy_45 : decode cX12_weightBy 45 = .ok (.idiv, 1) := by decide +kernel
theorem dX12_weightBy_46 : decode cX12_weightBy 46 = .ok (.ireturn, 1) := by decide +kernel
theorem dX12_weightBy_47 : decode cX12_weightBy 47 = .ok (.iload_n 1, 1) := by decide +kernel
theorem dX12_weightBy_48 : decode cX12_weightBy 48 = .ok (.iload_n 2, 1) := by decide +kernel
theorem dX12_weightBy_49 : decode cX12_weightBy 49 = .ok (.imul, 1) := by decide +kernel
theorem dX12_weightBy_50 : decode cX12_weightBy 50 = .ok (.iload_n 1, 1) := by decide +kernel
theorem dX12_weightBy_51 : decode cX12_weightBy 51 = .ok (.iadd, 1) := by decide +kernel
theorem dX12_weightBy_52 : decode cX12_weightBy 52 = .ok (.ireturn, 1) := by decide +kernel
theorem dX12_weightBy_53 : decode cX12_weightBy 53 = .ok (.iload_n 3, 1) := by decide +kernel
theorem dX12_weightBy_54 : decode cX12_weightBy 54 = .ok (.iconst 3, 1) := by decide +kernel
theorem dX12_weightBy_55 : decode cX12_weightBy 55 = .ok (.irem, 1) := by decide +kernel
theorem dX12_weightBy_56 : decode cX12_weightBy 56 = .ok (.ifCond .ne 7, 3) := by decide +kernel
theorem dX12_weightBy_59 : decode cX12_weightBy 59 = .ok (.iconst 0, 1) := by decide +kernel
theorem dX12_weightBy_60 : decode cX12_weightBy 60 = .ok (.goto 8, 3) := by decide +kernel
theorem dX12_weightBy_63 : decode cX12_weightBy 63 = .ok (.iload_n 1, 1) := by decide +kernel
theorem dX12_weightBy_64 : decode cX12_weightBy 64 = .ok (.iload_n 2, 1) := by decide +kernel
theorem dX12_weightBy_65 : decode cX12_weightBy 65 = .ok (.imul, 1) := by decide +kernel
theorem dX12_weightBy_66 : decode cX12_weightBy 66 = .ok (.iconst 2, 1) := by decide +kernel
theorem dX12_weightBy_67 : decode cX12_weightBy 67 = .ok (.idiv, 1) := by decide +kernel
theorem dX12_weightBy_68 : decode cX12_weightBy 68 = .ok (.ireturn, 1) := by decide +kernel
theorem dX12_weightBy_69 : decode cX12_weightBy 69 = .ok (.bipush 60, 2) := by decide +kernel
theorem dX12_weightBy_71 : decode cX12_weightBy 71 = .ok (.iload_n 1, 1) := by decide +kernel
theorem dX12_weightBy_72 : decode cX12_weightBy 72 = .ok (.iload_n 2, 1) := by decide +kernel
theorem dX12_weightBy_73 : decode cX12_weightBy 73 = .ok (.imul, 1) := by decide +kernel
theorem dX12_weightBy_74 : decode cX12_weightBy 74 = .ok (.iload_n 1, 1) := by decide +kernel
theorem dX12_weightBy_75 : decode cX12_weightBy 75 = .ok (.iadd, 1) := by decide +kernel
theorem dX12_weightBy_76 : decode cX12_weightBy 76 = .ok (.invokestatic 180, 3) := by decide +kernel
theorem dX12_weightBy_79 : decode cX12_weightBy 79 = .ok (.ireturn, 1) := by decide +kernel
theorem dX12_weightBy_80 : decode cX12_weightBy 80 = .ok (.iload_n 1, 1) := by decide +kernel
theorem dX12_weightBy_81 : decode cX12_weightBy 81 = .ok (.iload_n 2, 1) := by decide +kernel
theorem dX12_weightBy_82 : decode cX12_weightBy 82 = .ok (.imul, 1) := by decide +kernel
theorem dX12_weightBy_83 : decode cX12_weightBy 83 = .ok (.ireturn, 1) := by decide +kernel
theorem dX12_lieBy_0 : decode cX12_lieBy 0 = .ok (.iload_n 0, 1) := by decide +kernel
theorem dX12_lieBy_1 : decode cX12_lieBy 1 = .ok (.tableswitch 59 1 5 #[35, 39, 45, 49, 55], 35) := by decide +kernel
theorem dX12_lieBy_36 : decode cX12_lieBy 36 = .ok (.iload_n 1, 1) := by decide +kernel
theorem dX12_lieBy_37 : decode cX12_lieBy 37 = .ok (.iconst 1, 1) := by decide +kernel
theorem dX12_lieBy_38 : decode cX12_lieBy 38 = .ok (.iadd, 1) := by decide +kernel
theorem dX12_lieBy_39 : decode cX12_lieBy 39 = .ok (.ireturn, 1) := by decide +kernel
theorem dX12_lieBy_40 : decode cX12_lieBy 40 = .ok (.iload_n 1, 1) := by decide +kernel
theorem dX12_lieBy_41 : decode cX12_lieBy 41 = .ok (.iconst 1, 1) := by decide +kernel
theorem dX12_lieBy_42 : decode cX12_lieBy 42 = .ok (.iadd, 1) := by decide +kernel
theorem dX12_lieBy_43 : decode cX12_lieBy 43 = .ok (.iconst 2, 1) := by decide +kernel
theorem dX12_lieBy_44 : decode cX12_lieBy 44 = .ok (.idiv, 1) := by decide +kernel
theorem dX12_lieBy_45 : decode cX12_lieBy 45 = .ok (.ireturn, 1) := by decide +kernel
theorem dX12_lieBy_46 : decode cX12_lieBy 46 = .ok (.iconst 2, 1) := by decide +kernel
theorem dX12_lieBy_47 : decode cX12_lieBy 47 = .ok (.iload_n 1, 1) := by decide +kernel
theorem dX12_lieBy_48 : decode cX12_lieBy 48 = .ok (.imul, 1) := by decide +kernel
theorem dX12_lieBy_49 : decode cX12_lieBy 49 = .ok (.ireturn, 1) := by decide +kernel
theorem dX12_lieBy_50 : decode cX12_lieBy 50 = .ok (.iload_n 1, 1) := by decide +kernel
theorem dX12_lieBy_51 : decode cX12_lieBy 51 = .ok (.iconst 1, 1) := by decide +kernel
theorem dX12_lieBy_52 : decode cX12_lieBy 52 = .ok (.iadd, 1) := by decide +kernel
theorem dX12_lieBy_53 : decode cX12_lieBy 53 = .ok (.iconst 2, 1) := by decide +kernel
theorem dX12_lieBy_54 : decode cX12_lieBy 54 = .ok (.idiv, 1) := by decide +kernel
theorem dX12_lieBy_55 : decode cX12_lieBy 55 = .ok (.ireturn, 1) := by decide +kernel
theorem dX12_lieBy_56 : decode cX12_lieBy 56 = .ok (.iconst 2, 1) := by decide +kernel
theorem dX12_lieBy_57 : decode cX12_lieBy 57 = .ok (.iload_n 1, 1) := by decide +kernel
theorem dX12_lieBy_58 : decode cX12_lieBy 58 = .ok (.imul, 1) := by decide +kernel
theorem dX12_lieBy_59 : decode cX12_lieBy 59 = .ok (.ireturn, 1) := by decide +kernel
theorem dX12_lieBy_60 : decode cX12_lieBy 60 = .ok (.iload_n 1, 1) := by decide +kernel
theorem dX12_lieBy_61 : decode cX12_lieBy 61 = .ok (.ireturn, 1) := by decide +kernel
theorem dX12_weight_0 : decode cX12_weight 0 = .ok (.aload_n 0, 1) := by decide +kernel
theorem dX12_weight_1 : decode cX12_weight 1 = .ok (.getfield 13, 3) := by decide +kernel
theorem dX12_weight_4 : decode cX12_weight 4 = .ok (.iload_n 1, 1) := by decide +kernel
theorem dX12_weight_5 : decode cX12_weight 5 = .ok (.iaload, 1) := by decide +kernel
theorem dX12_weight_6 : decode cX12_weight 6 = .ok (.iload_n 2, 1) := by decide +kernel
theorem dX12_weight_7 : decode cX12_weight 7 = .ok (.aload_n 0, 1) := by decide +kernel
theorem dX12_weight_8 : decode cX12_weight 8 = .ok (.getfield 16, 3) := by decide +kernel
theorem dX12_weight_11 : decode cX12_weight 11 = .ok (.iload_n 1, 1) := by decide +kernel
theorem dX12_weight_12 : decode cX12_weight 12 = .ok (.iaload, 1) := by decide +kernel
theorem dX12_weight_13 : decode cX12_weight 13 = .ok (.aload_n 0, 1) := by decide +kernel
theorem dX12_weight_14 : decode cX12_weight 14 = .ok (.getfield 81, 3) := by decide +kernel
theorem dX12_weight_17 : decode cX12_weight 17 = .ok (.invokestatic 183, 3) := by decide +kernel
theorem dX12_weight_20 : decode cX12_weight 20 = .ok (.ireturn, 1) := by decide +kernel
theorem dX12_ownWeight_0 : decode cX12_ownWeight 0 = .ok (.aload_n 0, 1) := by decide +kernel
theorem dX12_ownWeight_1 : decode cX12_ownWeight 1 = .ok (.iload_n 1, 1) := by decide +kernel
theorem dX12_ownWeight_2 : decode cX12_ownWeight 2 = .ok (.aload_n 0, 1) := by decide +kernel
theorem dX12_ownWeight_3 : decode cX12_ownWeight 3 = .ok (.getfield 19, 3) := by decide +kernel
theorem dX12_ownWeight_6 : decode cX12_ownWeight 6 = .ok (.iload_n 1, 1) := by decide +kernel
theorem dX12_ownWeight_7 : decode cX12_ownWeight 7 = .ok (.iaload, 1) := by decide +kernel
theorem dX12_ownWeight_8 : decode cX12_ownWeight 8 = .ok (.invokevirtual 186, 3) := by decide +kernel
theorem dX12_ownWeight_11 : decode cX12_ownWeight 11 = .ok (.ireturn, 1) := by decide +kernel
theorem dX12_honestBehind_0 : decode cX12_honestBehind 0 = .ok (.aload_n 0, 1) := by decide +kernel
theorem dX12_honestBehind_1 : decode cX12_honestBehind 1 = .ok (.getfield 13, 3) := by decide +kernel
theorem dX12_honestBehind_4 : decode cX12_honestBehind 4 = .ok (.iload_n 1, 1) := by decide +kernel
theorem dX12_honestBehind_5 : decode cX12_honestBehind 5 = .ok (.iaload, 1) := by decide +kernel
theorem dX12_honestBehind_6 : decode cX12_honestBehind 6 = .ok (.iload_n 2, 1) := by decide +kernel
theorem dX12_honestBehind_7 : decode cX12_honestBehind 7 = .ok (.invokestatic 155, 3) := by decide +kernel
theorem dX12_honestBehind_10 : decode cX12_honestBehind 10 = .ok (.istore_n 3, 1) := by decide +kernel
theorem dX12_honestBehind_11 : decode cX12_honestBehind 11 = .ok (.aload_n 0, 1) := by decide +kernel
theorem dX12_honestBehind_12 : decode cX12_honestBehind 12 = .ok (.getfield 16, 3) := by decide +kernel
theorem dX12_honestBehind_15 : decode cX12_honestBehind 15 = .ok (.iload_n 1, 1) := by decide +kernel
theorem dX12_honestBehind_16 : decode cX12_honestBehind 16 = .ok (.iaload, 1) := by decide +kernel
theorem dX12_honestBehind_17 : decode cX12_honestBehind 17 = .ok (.iload_n 3, 1) := by decide +kernel
theorem dX12_honestBehind_18 : decode cX12_honestBehind 18 = .ok (.if_icmp .ge 7, 3) := by decide +kernel
theorem dX12_honestBehind_21 : decode cX12_honestBehind 21 = .ok (.iconst 0, 1) := by decide +kernel
theorem dX12_honestBehind_22 : decode cX12_honestBehind 22 = .ok (.goto 11, 3) := by decide +kernel
theorem dX12_honestBehind_25 : decode cX12_honestBehind 25 = .ok (.aload_n 0, 1) := by decide +kernel
theorem dX12_honestBehind_26 : decode cX12_honestBehind 26 = .ok (.getfield 16, 3) := by decide +kernel
theorem dX12_honestBehind_29 : decode cX12_honestBehind 29 = .ok (.iload_n 1, 1) := by decide +kernel
theorem dX12_honestBehind_30 : decode cX12_honestBehind 30 = .ok (.iaload, 1) := by decide +kernel
theorem dX12_honestBehind_31 : decode cX12_honestBehind 31 = .ok (.iload_n 3, 1) := by decide +kernel
theorem dX12_honestBehind_32 : decode cX12_honestBehind 32 = .ok (.isub, 1) := by decide +kernel
theorem dX12_honestBehind_33 : decode cX12_honestBehind 33 = .ok (.ireturn, 1) := by decide +kernel
theorem dX12_lays_0 : decode cX12_lays 0 = .ok (.aload_n 1, 1) := by decide +kernel
theorem dX12_lays_1 : decode cX12_lays 1 = .ok (.iload_n 2, 1) := by decide +kernel
theorem dX12_lays_2 : decode cX12_lays 2 = .ok (.aload_n 0, 1) := by decide +kernel
theorem dX12_lays_3 : decode cX12_lays 3 = .ok (.getfield 81, 3) := by decide +kernel
theorem dX12_lays_6 : decode cX12_lays 6 = .ok (.iastore, 1) := by decide +kernel
theorem dX12_lays_7 : decode cX12_lays 7 = .ok (.aload_n 1, 1) := by decide +kernel
theorem dX12_lays_8 : decode cX12_lays 8 = .ok (.iload_n 2, 1) := by decide +kernel
theorem dX12_lays_9 : decode cX12_lays 9 = .ok (.iconst 1, 1) := by decide +kernel
theorem dX12_lays_10 : decode cX12_lays 10 = .ok (.iadd, 1) := by decide +kernel
theorem dX12_lays_11 : decode cX12_lays 11 = .ok (.aload_n 0, 1) := by decide +kernel
theorem dX12_lays_12 : decode cX12_lays 12 = .ok (.getfield 84, 3) := by decide +kernel
theorem dX12_lays_15 : decode cX12_lays 15 = .ok (.iastore, 1) := by decide +kernel
theorem dX12_lays_16 : decode cX12_lays 16 = .ok (.iconst 0, 1) := by decide +kernel
theorem dX12_lays_17 : decode cX12_lays 17 = .ok (.istore_n 3, 1) := by decide +kernel
theorem dX12_lays_18 : decode cX12_lays 18 = .ok (.iload_n 3, 1) := by decide +kernel
theorem dX12_lays_19 : decode cX12_lays 19 = .ok (.bipush 6, 2) := by decide +kernel
theorem dX12_lays_21 : decode cX12_lays 21 = .ok (.if_icmp .ge 36, 3) := by decide +kernel
theorem dX12_lays_24 : decode cX12_lays 24 = .ok (.aload_n 1, 1) := by decide +kernel
theorem dX12_lays_25 : decode cX12_lays 25 = .ok (.iload_n 2, 1) := by decide +kernel
theorem dX12_lays_26 : decode cX12_lays 26 = .ok (.iconst 2, 1) := by decide +kernel
theorem dX12_lays_27 : decode cX12_lays 27 = .ok (.iadd, 1) := by decide +kernel
theorem dX12_lays_28 : decode cX12_lays 28 = .ok (.iload_n 3, 1) := by decide +kernel
theorem dX12_lays_29 : decode cX12_lays 29 = .ok (.iadd, 1) := by decide +kernel
theorem dX12_lays_30 : decode cX12_lays 30 = .ok (.aload_n 0, 1) := by decide +kernel
theorem dX12_lays_31 : decode cX12_lays 31 = .ok (.getfield 16, 3) := by decide +kernel
theorem dX12_lays_34 : decode cX12_lays 34 = .ok (.iload_n 3, 1) := by decide +kernel
theorem dX12_lays_35 : decode cX12_lays 35 = .ok (.iaload, 1) := by decide +kernel
theorem dX12_lays_36 : decode cX12_lays 36 = .ok (.iastore, 1) := by decide +kernel
theorem dX12_lays_37 : decode cX12_lays 37 = .ok (.aload_n 1, 1) := by decide +kernel
theorem dX12_lays_38 : decode cX12_lays 38 = .ok (.iload_n 2, 1) := by decide +kernel
theorem dX12_lays_39 : decode cX12_lays 39 = .ok (.bipush 8, 2) := by decide +kernel
theorem dX12_lays_41 : decode cX12_lays 41 = .ok (.iadd, 1) := by decide +kernel
theorem dX12_lays_42 : decode cX12_lays 42 = .ok (.iload_n 3, 1) := by decide +kernel
theorem dX12_lays_43 : decode cX12_lays 43 = .ok (.iadd, 1) := by decide +kernel
theorem dX12_lays_44 : decode cX12_lays 44 = .ok (.aload_n 0, 1) := by decide +kernel
theorem dX12_lays_45 : decode cX12_lays 45 = .ok (.getfield 19, 3) := by decide +kernel
theorem dX12_lays_48 : decode cX12_lays 48 = .ok (.iload_n 3, 1) := by decide +kernel
theorem dX12_lays_49 : decode cX12_lays 49 = .ok (.iaload, 1) := by decide +kernel
theorem dX12_lays_50 : decode cX12_lays 50 = .ok (.iastore, 1) := by decide +kernel
theorem dX12_lays_51 : decode cX12_lays 51 = .ok (.iinc 3 1, 3) := by decide +kernel
theorem dX12_lays_54 : decode cX12_lays 54 = .ok (.goto (-36), 3) := by decide +kernel
theorem dX12_lays_57 : decode cX12_lays 57 = .ok (.return_, 1) := by decide +kernel
theorem dX12_takes_0 : decode cX12_takes 0 = .ok (.aload_n 0, 1) := by decide +kernel
theorem dX12_takes_1 : decode cX12_takes 1 = .ok (.aload_n 1, 1) := by decide +kernel
theorem dX12_takes_2 : decode cX12_takes 2 = .ok (.iload_n 2, 1) := by decide +kernel
theorem dX12_takes_3 : decode cX12_takes 3 = .ok (.iaload, 1) := by decide +kernel
theorem dX12_takes_4 : decode cX12_takes 4 = .ok (.putfield 81, 3) := by decide +kernel
theorem dX12_takes_7 : decode cX12_takes 7 = .ok (.aload_n 0, 1) := by decide +kernel
theorem dX12_takes_8 : decode cX12_takes 8 = .ok (.aload_n 1, 1) := by decide +kernel
theorem dX12_takes_9 : decode cX12_takes 9 = .ok (.iload_n 2, 1) := by decide +kernel
theorem dX12_takes_10 : decode cX12_takes 10 = .ok (.iconst 1, 1) := by decide +kernel
theorem dX12_takes_11 : decode cX12_takes 11 = .ok (.iadd, 1) := by decide +kernel
theorem dX12_takes_12 : decode cX12_takes 12 = .ok (.iaload, 1) := by decide +kernel
theorem dX12_takes_13 : decode cX12_takes 13 = .ok (.putfield 84, 3) := by decide +kernel
theorem dX12_takes_16 : decode cX12_takes 16 = .ok (.iconst 0, 1) := by decide +kernel
theorem dX12_takes_17 : decode cX12_takes 17 = .ok (.istore_n 3, 1) := by decide +kernel
theorem dX12_takes_18 : decode cX12_takes 18 = .ok (.iload_n 3, 1) := by decide +kernel
theorem dX12_takes_19 : decode cX12_takes 19 = .ok (.bipush 6, 2) := by decide +kernel
theorem dX12_takes_21 : decode cX12_takes 21 = .ok (.if_icmp .ge 36, 3) := by decide +kernel
theorem dX12_takes_24 : decode cX12_takes 24 = .ok (.aload_n 0, 1) := by decide +kernel
theorem dX12_takes_25 : decode cX12_takes 25 = .ok (.getfield 16, 3) := by decide +kernel
theorem dX12_takes_28 : decode cX12_takes 28 = .ok (.iload_n 3, 1) := by decide +kernel
theorem dX12_takes_29 : decode cX12_takes 29 = .ok (.aload_n 1, 1) := by decide +kernel
theorem dX12_takes_30 : decode cX12_takes 30 = .ok (.iload_n 2, 1) := by decide +kernel
theorem dX12_takes_31 : decode cX12_takes 31 = .ok (.iconst 2, 1) := by decide +kernel
theorem dX12_takes_32 : decode cX12_takes 32 = .ok (.iadd, 1) := by decide +kernel
theorem dX12_takes_33 : decode cX12_takes 33 = .ok (.iload_n 3, 1) := by decide +kernel
theorem dX12_takes_34 : decode cX12_takes 34 = .ok (.iadd, 1) := by decide +kernel
theorem dX12_takes_35 : decode cX12_takes 35 = .ok (.iaload, 1) := by decide +kernel
theorem dX12_takes_36 : decode cX12_takes 36 = .ok (.iastore, 1) := by decide +kernel
theorem dX12_takes_37 : decode cX12_takes 37 = .ok (.aload_n 0, 1) := by decide +kernel
theorem dX12_takes_38 : decode cX12_takes 38 = .ok (.getfield 19, 3) := by decide +kernel
theorem dX12_takes_41 : decode cX12_takes 41 = .ok (.iload_n 3, 1) := by decide +kernel
theorem dX12_takes_42 : decode cX12_takes 42 = .ok (.aload_n 1, 1) := by decide +kernel
theorem dX12_takes_43 : decode cX12_takes 43 = .ok (.iload_n 2, 1) := by decide +kernel
theorem dX12_takes_44 : decode cX12_takes 44 = .ok (.bipush 8, 2) := by decide +kernel
theorem dX12_takes_46 : decode cX12_takes 46 = .ok (.iadd, 1) := by decide +kernel
theorem dX12_takes_47 : decode cX12_takes 47 = .ok (.iload_n 3, 1) := by decide +kernel
theorem dX12_takes_48 : decode cX12_takes 48 = .ok (.iadd, 1) := by decide +kernel
theorem dX12_takes_49 : decode cX12_takes 49 = .ok (.iaload, 1) := by decide +kernel
theorem dX12_takes_50 : decode cX12_takes 50 = .ok (.iastore, 1) := by decide +kernel
theorem dX12_takes_51 : decode cX12_takes 51 = .ok (.iinc 3 1, 3) := by decide +kernel
theorem dX12_takes_54 : decode cX12_takes 54 = .ok (.goto (-36), 3) := by decide +kernel
theorem dX12_takes_57 : decode cX12_takes 57 = .ok (.return_, 1) := by decide +kernel
theorem dX12_notes_0 : decode cX12_notes 0 = .ok (.aload_n 0, 1) := by decide +kernel
theorem dX12_notes_1 : decode cX12_notes 1 = .ok (.getfield 90, 3) := by decide +kernel
theorem dX12_notes_4 : decode cX12_notes 4 = .ok (.bipush 8, 2) := by decide +kernel
theorem dX12_notes_6 : decode cX12_notes 6 = .ok (.if_icmp .ne 42, 3) := by decide +kernel
theorem dX12_notes_9 : decode cX12_notes 9 = .ok (.iconst 0, 1) := by decide +kernel
theorem dX12_notes_10 : decode cX12_notes 10 = .ok (.istore_n 1, 1) := by decide +kernel
theorem dX12_notes_11 : decode cX12_notes 11 = .ok (.iload_n 1, 1) := by decide +kernel
theorem dX12_notes_12 : decode cX12_notes 12 = .ok (.bipush 98, 2) := by decide +kernel
theorem dX12_notes_14 : decode cX12_notes 14 = .ok (.if_icmp .ge 24, 3) := by decide +kernel
theorem dX12_notes_17 : decode cX12_notes 17 = .ok (.aload_n 0, 1) := by decide +kernel
theorem dX12_notes_18 : decode cX12_notes 18 = .ok (.getfield 46, 3) := by decide +kernel
theorem dX12_notes_21 : decode cX12_notes 21 = .ok (.iload_n 1, 1) := by decide +kernel
theorem dX12_notes_22 : decode cX12_notes 22 = .ok (.aload_n 0, 1) := by decide +kernel
theorem dX12_notes_23 : decode cX12_notes 23 = .ok (.getfield 46, 3) := by decide +kernel
theorem dX12_notes_26 : decode cX12_notes 26 = .ok (.iload_n 1, 1) := by decide +kernel
theorem dX12_notes_27 : decode cX12_notes 27 = .ok (.bipush 14, 2) := by decide +kernel
theorem dX12_notes_29 : decode cX12_notes 29 = .ok (.iadd, 1) := by decide +kernel
theorem dX12_notes_30 : decode cX12_notes 30 = .ok (.iaload, 1) := by decide +kernel
theorem dX12_notes_31 : decode cX12_notes 31 = .ok (.iastore, 1) := by decide +kernel
theorem dX12_notes_32 : decode cX12_notes 32 = .ok (.iinc 1 1, 3) := by decide +kernel
theorem dX12_notes_35 : decode cX12_notes 35 = .ok (.goto (-24), 3) := by decide +kernel
theorem dX12_notes_38 : decode cX12_notes 38 = .ok (.aload_n 0, 1) := by decide +kernel
theorem dX12_notes_39 : decode cX12_notes 39 = .ok (.dup, 1) := by decide +kernel
theorem dX12_notes_40 : decode cX12_notes 40 = .ok (.getfield 90, 3) := by decide +kernel
theorem dX12_notes_43 : decode cX12_notes 43 = .ok (.iconst 1, 1) := by decide +kernel
theorem dX12_notes_44 : decode cX12_notes 44 = .ok (.isub, 1) := by decide +kernel
theorem dX12_notes_45 : decode cX12_notes 45 = .ok (.putfield 90, 3) := by decide +kernel
theorem dX12_notes_48 : decode cX12_notes 48 = .ok (.aload_n 0, 1) := by decide +kernel
theorem dX12_notes_49 : decode cX12_notes 49 = .ok (.aload_n 0, 1) := by decide +kernel
theorem dX12_notes_50 : decode cX12_notes 50 = .ok (.getfield 46, 3) := by decide +kernel
theorem dX12_notes_53 : decode cX12_notes 53 = .ok (.bipush 14, 2) := by decide +kernel
theorem dX12_notes_55 : decode cX12_notes 55 = .ok (.aload_n 0, 1) := by decide +kernel
theorem dX12_notes_56 : decode cX12_notes 56 = .ok (.getfield 90, 3) := by decide +kernel
theorem dX12_notes_59 : decode cX12_notes 59 = .ok (.imul, 1) := by decide +kernel
theorem dX12_notes_60 : decode cX12_notes 60 = .ok (.invokevirtual 189, 3) := by decide +kernel
theorem dX12_notes_63 : decode cX12_notes 63 = .ok (.aload_n 0, 1) := by decide +kernel
theorem dX12_notes_64 : decode cX12_notes 64 = .ok (.dup, 1) := by decide +kernel
theorem dX12_notes_65 : decode cX12_notes 65 = .ok (.getfield 90, 3) := by decide +kernel
theorem dX12_notes_68 : decode cX12_notes 68 = .ok (.iconst 1, 1) := by decide +kernel
theorem dX12_notes_69 : decode cX12_notes 69 = .ok (.iadd, 1) := by decide +kernel
theorem dX12_notes_70 : decode cX12_notes 70 = .ok (.putfield 90, 3) := by decide +kernel
theorem dX12_notes_73 : decode cX12_notes 73 = .ok (.return_, 1) := by decide +kernel
theorem dX12_puts_0 : decode cX12_puts 0 = .ok (.aload_n 0, 1) := by decide +kernel
theorem dX12_puts_1 : decode cX12_puts 1 = .ok (.aload_n 0, 1) := by decide +kernel
theorem dX12_puts_2 : decode cX12_puts 2 = .ok (.getfield 49, 3) := by decide +kernel
theorem dX12_puts_5 : decode cX12_puts 5 = .ok (.iconst 0, 1) := by decide +kernel
theorem dX12_puts_6 : decode cX12_puts 6 = .ok (.invokevirtual 189, 3) := by decide +kernel
theorem dX12_puts_9 : decode cX12_puts 9 = .ok (.return_, 1) := by decide +kernel
theorem dX12_back_0 : decode cX12_back 0 = .ok (.aload_n 0, 1) := by decide +kernel
theorem dX12_back_1 : decode cX12_back 1 = .ok (.aload_n 0, 1) := by decide +kernel
theorem dX12_back_2 : decode cX12_back 2 = .ok (.getfield 49, 3) := by decide +kernel
theorem dX12_back_5 : decode cX12_back 5 = .ok (.iconst 0, 1) := by decide +kernel
theorem dX12_back_6 : decode cX12_back 6 = .ok (.invokevirtual 193, 3) := by decide +kernel
theorem dX12_back_9 : decode cX12_back 9 = .ok (.return_, 1) := by decide +kernel
theorem dX12_lies_0 : decode cX12_lies 0 = .ok (.aload_n 0, 1) := by decide +kernel
theorem dX12_lies_1 : decode cX12_lies 1 = .ok (.getfield 16, 3) := by decide +kernel
theorem dX12_lies_4 : decode cX12_lies 4 = .ok (.iload_n 1, 1) := by decide +kernel
theorem dX12_lies_5 : decode cX12_lies 5 = .ok (.aload_n 0, 1) := by decide +kernel
theorem dX12_lies_6 : decode cX12_lies 6 = .ok (.iload_n 1, 1) := by decide +kernel
theorem dX12_lies_7 : decode cX12_lies 7 = .ok (.iload_n 2, 1) := by decide +kernel
theorem dX12_lies_8 : decode cX12_lies 8 = .ok (.invokevirtual 196, 3) := by decide +kernel
theorem dX12_lies_11 : decode cX12_lies 11 = .ok (.iastore, 1) := by decide +kernel
theorem dX12_lies_12 : decode cX12_lies 12 = .ok (.aload_n 0, 1) := by decide +kernel
theorem dX12_lies_13 : decode cX12_lies 13 = .ok (.dup, 1) := by decide +kernel
theorem dX12_lies_14 : decode cX12_lies 14 = .ok (.getfield 84, 3) := by decide +kernel
theorem dX12_lies_17 : decode cX12_lies 17 = .ok (.iconst 1, 1) := by decide +kernel
theorem dX12_lies_18 : decode cX12_lies 18 = .ok (.iload_n 1, 1) := by decide +kernel
theorem dX12_lies_19 : decode cX12_lies 19 = .ok (.ishl, 1) := by decide +kernel
theorem dX12_lies_20 : decode cX12_lies 20 = .ok (.ior, 1) := by decide +kernel
theorem dX12_lies_21 : decode cX12_lies 21 = .ok (.putfield 84, 3) := by decide +kernel
theorem dX12_lies_24 : decode cX12_lies 24 = .ok (.return_, 1) := by decide +kernel
theorem dX12_pass_0 : decode cX12_pass 0 = .ok (.iconst 0, 1) := by decide +kernel
theorem dX12_pass_1 : decode cX12_pass 1 = .ok (.istore_n 1, 1) := by decide +kernel
theorem dX12_pass_2 : decode cX12_pass 2 = .ok (.iload_n 1, 1) := by decide +kernel
theorem dX12_pass_3 : decode cX12_pass 3 = .ok (.aload_n 0, 1) := by decide +kernel
theorem dX12_pass_4 : decode cX12_pass 4 = .ok (.getfield 77, 3) := by decide +kernel
theorem dX12_pass_7 : decode cX12_pass 7 = .ok (.if_icmp .ge 48, 3) := by decide +kernel
theorem dX12_pass_10 : decode cX12_pass 10 = .ok (.aload_n 0, 1) := by decide +kernel
theorem dX12_pass_11 : decode cX12_pass 11 = .ok (.getfield 16, 3) := by decide +kernel
theorem dX12_pass_14 : decode cX12_pass 14 = .ok (.iload_n 1, 1) := by decide +kernel
theorem dX12_pass_15 : decode cX12_pass 15 = .ok (.aload_n 0, 1) := by decide +kernel
theorem dX12_pass_16 : decode cX12_pass 16 = .ok (.getfield 84, 3) := by decide +kernel
theorem dX12_pass_19 : decode cX12_pass 19 = .ok (.iload_n 1, 1) := by decide +kernel
theorem dX12_pass_20 : decode cX12_pass 20 = .ok (.invokestatic 199, 3) := by decide +kernel
theorem dX12_pass_23 : decode cX12_pass 23 = .ok (.ifCond .eq 12, 3) := by decide +kernel
theorem dX12_pass_26 : decode cX12_pass 26 = .ok (.aload_n 0, 1) := by decide +kernel
theorem dX12_pass_27 : decode cX12_pass 27 = .ok (.getfield 16, 3) := by decide +kernel
theorem dX12_pass_30 : decode cX12_pass 30 = .ok (.iload_n 1, 1) := by decide +kernel
theorem dX12_pass_31 : decode cX12_pass 31 = .ok (.iaload, 1) := by decide +kernel
theorem dX12_pass_32 : decode cX12_pass 32 = .ok (.goto 16, 3) := by decide +kernel
theorem dX12_pass_35 : decode cX12_pass 35 = .ok (.bipush 12, 2) := by decide +kernel
theorem dX12_pass_37 : decode cX12_pass 37 = .ok (.aload_n 0, 1) := by decide +kernel
theorem dX12_pass_38 : decode cX12_pass 38 = .ok (.getfield 16, 3) := by decide +kernel
theorem dX12_pass_41 : decode cX12_pass 41 = .ok (.iload_n 1, 1) := by decide +kernel
theorem dX12_pass_42 : decode cX12_pass 42 = .ok (.iaload, 1) := by decide +kernel
theorem dX12_pass_43 : decode cX12_pass 43 = .ok (.iconst 1, 1) := by decide +kernel
theorem dX12_pass_44 : decode cX12_pass 44 = .ok (.iadd, 1) := by decide +kernel
theorem dX12_pass_45 : decode cX12_pass 45 = .ok (.invokestatic 180, 3) := by decide +kernel
theorem dX12_pass_48 : decode cX12_pass 48 = .ok (.iastore, 1) := by decide +kernel
theorem dX12_pass_49 : decode cX12_pass 49 = .ok (.iinc 1 1, 3) := by decide +kernel
theorem dX12_pass_52 : decode cX12_pass 52 = .ok (.goto (-50), 3) := by decide +kernel
theorem dX12_pass_55 : decode cX12_pass 55 = .ok (.aload_n 0, 1) := by decide +kernel
theorem dX12_pass_56 : decode cX12_pass 56 = .ok (.iconst 0, 1) := by decide +kernel
theorem dX12_pass_57 : decode cX12_pass 57 = .ok (.putfield 84, 3) := by decide +kernel
theorem dX12_pass_60 : decode cX12_pass 60 = .ok (.aload_n 0, 1) := by decide +kernel
theorem dX12_pass_61 : decode cX12_pass 61 = .ok (.sipush 999, 3) := by decide +kernel
theorem dX12_pass_64 : decode cX12_pass 64 = .ok (.aload_n 0, 1) := by decide +kernel
theorem dX12_pass_65 : decode cX12_pass 65 = .ok (.getfield 81, 3) := by decide +kernel
theorem dX12_pass_68 : decode cX12_pass 68 = .ok (.iconst 1, 1) := by decide +kernel
theorem dX12_pass_69 : decode cX12_pass 69 = .ok (.iadd, 1) := by decide +kernel
theorem dX12_pass_70 : decode cX12_pass 70 = .ok (.invokestatic 180, 3) := by decide +kernel
theorem dX12_pass_73 : decode cX12_pass 73 = .ok (.putfield 81, 3) := by decide +kernel
theorem dX12_pass_76 : decode cX12_pass 76 = .ok (.return_, 1) := by decide +kernel
theorem dX12_lie_0 : decode cX12_lie 0 = .ok (.aload_n 0, 1) := by decide +kernel
theorem dX12_lie_1 : decode cX12_lie 1 = .ok (.iload_n 1, 1) := by decide +kernel
theorem dX12_lie_2 : decode cX12_lie 2 = .ok (.invokevirtual 108, 3) := by decide +kernel
theorem dX12_lie_5 : decode cX12_lie 5 = .ok (.ifCond .eq 12, 3) := by decide +kernel
theorem dX12_lie_8 : decode cX12_lie 8 = .ok (.iload_n 2, 1) := by decide +kernel
theorem dX12_lie_9 : decode cX12_lie 9 = .ok (.iconst 1, 1) := by decide +kernel
theorem dX12_lie_10 : decode cX12_lie 10 = .ok (.iconst 4, 1) := by decide +kernel
theorem dX12_lie_11 : decode cX12_lie 11 = .ok (.invokestatic 93, 3) := by decide +kernel
theorem dX12_lie_14 : decode cX12_lie 14 = .ok (.ifCond .ne 8, 3) := by decide +kernel
theorem dX12_lie_17 : decode cX12_lie 17 = .ok (.aload_n 0, 1) := by decide +kernel
theorem dX12_lie_18 : decode cX12_lie 18 = .ok (.invokevirtual 97, 3) := by decide +kernel
theorem dX12_lie_21 : decode cX12_lie 21 = .ok (.ireturn, 1) := by decide +kernel
theorem dX12_lie_22 : decode cX12_lie 22 = .ok (.aload_n 0, 1) := by decide +kernel
theorem dX12_lie_23 : decode cX12_lie 23 = .ok (.invokevirtual 202, 3) := by decide +kernel
theorem dX12_lie_26 : decode cX12_lie 26 = .ok (.aload_n 0, 1) := by decide +kernel
theorem dX12_lie_27 : decode cX12_lie 27 = .ok (.iload_n 1, 1) := by decide +kernel
theorem dX12_lie_28 : decode cX12_lie 28 = .ok (.iload_n 2, 1) := by decide +kernel
theorem dX12_lie_29 : decode cX12_lie 29 = .ok (.invokevirtual 205, 3) := by decide +kernel
theorem dX12_lie_32 : decode cX12_lie 32 = .ok (.aload_n 0, 1) := by decide +kernel
theorem dX12_lie_33 : decode cX12_lie 33 = .ok (.getfield 16, 3) := by decide +kernel
theorem dX12_lie_36 : decode cX12_lie 36 = .ok (.iload_n 1, 1) := by decide +kernel
theorem dX12_lie_37 : decode cX12_lie 37 = .ok (.iaload, 1) := by decide +kernel
theorem dX12_lie_38 : decode cX12_lie 38 = .ok (.ireturn, 1) := by decide +kernel
theorem dX12_give_0 : decode cX12_give 0 = .ok (.aload_n 0, 1) := by decide +kernel
theorem dX12_give_1 : decode cX12_give 1 = .ok (.iload_n 1, 1) := by decide +kernel
theorem dX12_give_2 : decode cX12_give 2 = .ok (.invokevirtual 108, 3) := by decide +kernel
theorem dX12_give_5 : decode cX12_give 5 = .ok (.ifCond .eq 26, 3) := by decide +kernel
theorem dX12_give_8 : decode cX12_give 8 = .ok (.aload_n 0, 1) := by decide +kernel
theorem dX12_give_9 : decode cX12_give 9 = .ok (.iload_n 2, 1) := by decide +kernel
theorem dX12_give_10 : decode cX12_give 10 = .ok (.invokevirtual 108, 3) := by decide +kernel
theorem dX12_give_13 : decode cX12_give 13 = .ok (.ifCond .eq 18, 3) := by decide +kernel
theorem dX12_give_16 : decode cX12_give 16 = .ok (.iload_n 1, 1) := by decide +kernel
theorem dX12_give_17 : decode cX12_give 17 = .ok (.iload_n 2, 1) := by decide +kernel
theorem dX12_give_18 : decode cX12_give 18 = .ok (.if_icmp .eq 13, 3) := by decide +kernel
theorem dX12_give_21 : decode cX12_give 21 = .ok (.iload_n 3, 1) := by decide +kernel
theorem dX12_give_22 : decode cX12_give 22 = .ok (.iconst 1, 1) := by decide +kernel
theorem dX12_give_23 : decode cX12_give 23 = .ok (.bipush 99, 2) := by decide +kernel
theorem dX12_give_25 : decode cX12_give 25 = .ok (.invokestatic 93, 3) := by decide +kernel
theorem dX12_give_28 : decode cX12_give 28 = .ok (.ifCond .ne 8, 3) := by decide +kernel
theorem dX12_give_31 : decode cX12_give 31 = .ok (.aload_n 0, 1) := by decide +kernel
theorem dX12_give_32 : decode cX12_give 32 = .ok (.invokevirtual 97, 3) := by decide +kernel
theorem dX12_give_35 : decode cX12_give 35 = .ok (.ireturn, 1) := by decide +kernel
theorem dX12_give_36 : decode cX12_give 36 = .ok (.aload_n 0, 1) := by decide +kernel
theorem dX12_give_37 : decode cX12_give 37 = .ok (.getfield 25, 3) := by decide +kernel
theorem dX12_give_40 : decode cX12_give 40 = .ok (.iload_n 1, 1) := by decide +kernel
theorem dX12_give_41 : decode cX12_give 41 = .ok (.iaload, 1) := by decide +kernel
theorem dX12_give_42 : decode cX12_give 42 = .ok (.iload_n 2, 1) := by decide +kernel
theorem dX12_give_43 : decode cX12_give 43 = .ok (.invokestatic 199, 3) := by decide +kernel
theorem dX12_give_46 : decode cX12_give 46 = .ok (.ifCond .eq 13, 3) := by decide +kernel
theorem dX12_give_49 : decode cX12_give 49 = .ok (.aload_n 0, 1) := by decide +kernel
theorem dX12_give_50 : decode cX12_give 50 = .ok (.getfield 19, 3) := by decide +kernel
theorem dX12_give_53 : decode cX12_give 53 = .ok (.iload_n 1, 1) := by decide +kernel
theorem dX12_give_54 : decode cX12_give 54 = .ok (.iaload, 1) := by decide +kernel
theorem dX12_give_55 : decode cX12_give 55 = .ok (.iload_n 3, 1) := by decide +kernel
theorem dX12_give_56 : decode cX12_give 56 = .ok (.if_icmp .ge 8, 3) := by decide +kernel
theorem dX12_give_59 : decode cX12_give 59 = .ok (.aload_n 0, 1) := by decide +kernel
theorem dX12_give_60 : decode cX12_give 60 = .ok (.invokevirtual 209, 3) := by decide +kernel
theorem dX12_give_63 : decode cX12_give 63 = .ok (.ireturn, 1) := by decide +kernel
theorem dX12_give_64 : decode cX12_give 64 = .ok (.aload_n 0, 1) := by decide +kernel
theorem dX12_give_65 : decode cX12_give 65 = .ok (.invokevirtual 202, 3) := by decide +kernel
theorem dX12_give_68 : decode cX12_give 68 = .ok (.aload_n 0, 1) := by decide +kernel
theorem dX12_give_69 : decode cX12_give 69 = .ok (.getfield 19, 3) := by decide +kernel
theorem dX12_give_72 : decode cX12_give 72 = .ok (.iload_n 1, 1) := by decide +kernel
theorem dX12_give_73 : decode cX12_give 73 = .ok (.dup2, 1) := by decide +kernel
theorem dX12_give_74 : decode cX12_give 74 = .ok (.iaload, 1) := by decide +kernel
theorem dX12_give_75 : decode cX12_give 75 = .ok (.iload_n 3, 1) := by decide +kernel
theorem dX12_give_76 : decode cX12_give 76 = .ok (.isub, 1) := by decide +kernel
theorem dX12_give_77 : decode cX12_give 77 = .ok (.iastore, 1) := by decide +kernel
theorem dX12_give_78 : decode cX12_give 78 = .ok (.aload_n 0, 1) := by decide +kernel
theorem dX12_give_79 : decode cX12_give 79 = .ok (.getfield 19, 3) := by decide +kernel
theorem dX12_give_82 : decode cX12_give 82 = .ok (.iload_n 2, 1) := by decide +kernel
theorem dX12_give_83 : decode cX12_give 83 = .ok (.dup2, 1) := by decide +kernel
theorem dX12_give_84 : decode cX12_give 84 = .ok (.iaload, 1) := by decide +kernel
theorem dX12_give_85 : decode cX12_give 85 = .ok (.iload_n 3, 1) := by decide +kernel
theorem dX12_give_86 : decode cX12_give 86 = .ok (.iadd, 1) := by decide +kernel
theorem dX12_give_87 : decode cX12_give 87 = .ok (.iastore, 1) := by decide +kernel
theorem dX12_give_88 : decode cX12_give 88 = .ok (.aload_n 0, 1) := by decide +kernel
theorem dX12_give_89 : decode cX12_give 89 = .ok (.getfield 19, 3) := by decide +kernel
theorem dX12_give_92 : decode cX12_give 92 = .ok (.iload_n 1, 1) := by decide +kernel
theorem dX12_give_93 : decode cX12_give 93 = .ok (.iaload, 1) := by decide +kernel
theorem dX12_give_94 : decode cX12_give 94 = .ok (.ireturn, 1) := by decide +kernel
theorem dX12_day_0 : decode cX12_day 0 = .ok (.aload_n 0, 1) := by decide +kernel
theorem dX12_day_1 : decode cX12_day 1 = .ok (.invokevirtual 202, 3) := by decide +kernel
theorem dX12_day_4 : decode cX12_day 4 = .ok (.aload_n 0, 1) := by decide +kernel
theorem dX12_day_5 : decode cX12_day 5 = .ok (.invokevirtual 212, 3) := by decide +kernel
theorem dX12_day_8 : decode cX12_day 8 = .ok (.aload_n 0, 1) := by decide +kernel
theorem dX12_day_9 : decode cX12_day 9 = .ok (.getfield 81, 3) := by decide +kernel
theorem dX12_day_12 : decode cX12_day 12 = .ok (.ireturn, 1) := by decide +kernel
theorem dX12_undo_0 : decode cX12_undo 0 = .ok (.aload_n 0, 1) := by decide +kernel
theorem dX12_undo_1 : decode cX12_undo 1 = .ok (.getfield 90, 3) := by decide +kernel
theorem dX12_undo_4 : decode cX12_undo 4 = .ok (.ifCond .ne 8, 3) := by decide +kernel
theorem dX12_undo_7 : decode cX12_undo 7 = .ok (.aload_n 0, 1) := by decide +kernel
theorem dX12_undo_8 : decode cX12_undo 8 = .ok (.invokevirtual 209, 3) := by decide +kernel
theorem dX12_undo_11 : decode cX12_undo 11 = .ok (.ireturn, 1) := by decide +kernel
theorem dX12_undo_12 : decode cX12_undo 12 = .ok (.aload_n 0, 1) := by decide +kernel
theorem dX12_undo_13 : decode cX12_undo 13 = .ok (.dup, 1) := by decide +kernel
theorem dX12_undo_14 : decode cX12_undo 14 = .ok (.getfield 90, 3) := by decide +kernel
theorem dX12_undo_17 : decode cX12_undo 17 = .ok (.iconst 1, 1) := by decide +kernel
theorem dX12_undo_18 : decode cX12_undo 18 = .ok (.isub, 1) := by decide +kernel
theorem dX12_undo_19 : decode cX12_undo 19 = .ok (.putfield 90, 3) := by decide +kernel
theorem dX12_undo_22 : decode cX12_undo 22 = .ok (.aload_n 0, 1) := by decide +kernel
theorem dX12_undo_23 : decode cX12_undo 23 = .ok (.aload_n 0, 1) := by decide +kernel
theorem dX12_undo_24 : decode cX12_undo 24 = .ok (.getfield 46, 3) := by decide +kernel
theorem dX12_undo_27 : decode cX12_undo 27 = .ok (.bipush 14, 2) := by decide +kernel
theorem dX12_undo_29 : decode cX12_undo 29 = .ok (.aload_n 0, 1) := by decide +kernel
theorem dX12_undo_30 : decode cX12_undo 30 = .ok (.getfield 90, 3) := by decide +kernel
theorem dX12_undo_33 : decode cX12_undo 33 = .ok (.imul, 1) := by decide +kernel
theorem dX12_undo_34 : decode cX12_undo 34 = .ok (.invokevirtual 193, 3) := by decide +kernel
theorem dX12_undo_37 : decode cX12_undo 37 = .ok (.aload_n 0, 1) := by decide +kernel
theorem dX12_undo_38 : decode cX12_undo 38 = .ok (.getfield 81, 3) := by decide +kernel
theorem dX12_undo_41 : decode cX12_undo 41 = .ok (.ireturn, 1) := by decide +kernel
theorem dX12_of_0 : decode cX12_of 0 = .ok (.aload_n 0, 1) := by decide +kernel
theorem dX12_of_1 : decode cX12_of 1 = .ok (.iload_n 1, 1) := by decide +kernel
theorem dX12_of_2 : decode cX12_of 2 = .ok (.invokevirtual 108, 3) := by decide +kernel
theorem dX12_of_5 : decode cX12_of 5 = .ok (.ifCond .eq 13, 3) := by decide +kernel
theorem dX12_of_8 : decode cX12_of 8 = .ok (.iload_n 2, 1) := by decide +kernel
theorem dX12_of_9 : decode cX12_of 9 = .ok (.iconst 0, 1) := by decide +kernel
theorem dX12_of_10 : decode cX12_of 10 = .ok (.bipush 6, 2) := by decide +kernel
theorem dX12_of_12 : decode cX12_of 12 = .ok (.invokestatic 93, 3) := by decide +kernel
theorem dX12_of_15 : decode cX12_of 15 = .ok (.ifCond .ne 8, 3) := by decide +kernel
theorem dX12_of_18 : decode cX12_of 18 = .ok (.aload_n 0, 1) := by decide +kernel
theorem dX12_of_19 : decode cX12_of 19 = .ok (.invokevirtual 97, 3) := by decide +kernel
theorem dX12_of_22 : decode cX12_of 22 = .ok (.ireturn, 1) := by decide +kernel
theorem dX12_of_23 : decode cX12_of 23 = .ok (.iload_n 2, 1) := by decide +kernel
theorem dX12_of_24 : decode cX12_of 24 = .ok (.tableswitch 84 0 5 #[40, 47, 54, 61, 68, 77], 40) := by decide +kernel
theorem dX12_of_64 : decode cX12_of 64 = .ok (.aload_n 0, 1) := by decide +kernel
theorem dX12_of_65 : decode cX12_of 65 = .ok (.getfield 13, 3) := by decide +kernel
theorem dX12_of_68 : decode cX12_of 68 = .ok (.iload_n 1, 1) := by decide +kernel
theorem dX12_of_69 : decode cX12_of 69 = .ok (.iaload, 1) := by decide +kernel
theorem dX12_of_70 : decode cX12_of 70 = .ok (.ireturn, 1) := by decide +kernel
theorem dX12_of_71 : decode cX12_of 71 = .ok (.aload_n 0, 1) := by decide +kernel
theorem dX12_of_72 : decode cX12_of 72 = .ok (.getfield 16, 3) := by decide +kernel
theorem dX12_of_75 : decode cX12_of 75 = .ok (.iload_n 1, 1) := by decide +kernel
theorem dX12_of_76 : decode cX12_of 76 = .ok (.iaload, 1) := by decide +kernel
theorem dX12_of_77 : decode cX12_of 77 = .ok (.ireturn, 1) := by decide +kernel
theorem dX12_of_78 : decode cX12_of 78 = .ok (.aload_n 0, 1) := by decide +kernel
theorem dX12_of_79 : decode cX12_of 79 = .ok (.getfield 19, 3) := by decide +kernel
theorem dX12_of_82 : decode cX12_of 82 = .ok (.iload_n 1, 1) := by decide +kernel
theorem dX12_of_83 : decode cX12_of 83 = .ok (.iaload, 1) := by decide +kernel
theorem dX12_of_84 : decode cX12_of 84 = .ok (.ireturn, 1) := by decide +kernel
theorem dX12_of_85 : decode cX12_of 85 = .ok (.aload_n 0, 1) := by decide +kernel
theorem dX12_of_86 : decode cX12_of 86 = .ok (.getfield 22, 3) := by decide +kernel
theorem dX12_of_89 : decode cX12_of 89 = .ok (.iload_n 1, 1) := by decide +kernel
theorem dX12_of_90 : decode cX12_of 90 = .ok (.iaload, 1) := by decide +kernel
theorem dX12_of_91 : decode cX12_of 91 = .ok (.ireturn, 1) := by decide +kernel
theorem dX12_of_92 : decode cX12_of 92 = .ok (.aload_n 0, 1) := by decide +kernel
theorem dX12_of_93 : decode cX12_of 93 = .ok (.getfield 84, 3) := by decide +kernel
theorem dX12_of_96 : decode cX12_of 96 = .ok (.iload_n 1, 1) := by decide +kernel
theorem dX12_of_97 : decode cX12_of 97 = .ok (.ishr, 1) := by decide +kernel
theorem dX12_of_98 : decode cX12_of 98 = .ok (.iconst 1, 1) := by decide +kernel
theorem dX12_of_99 : decode cX12_of 99 = .ok (.iand, 1) := by decide +kernel
theorem dX12_of_100 : decode cX12_of 100 = .ok (.ireturn, 1) := by decide +kernel
theorem dX12_of_101 : decode cX12_of 101 = .ok (.aload_n 0, 1) := by decide +kernel
theorem dX12_of_102 : decode cX12_of 102 = .ok (.getfield 25, 3) := by decide +kernel
theorem dX12_of_105 : decode cX12_of 105 = .ok (.iload_n 1, 1) := by decide +kernel
theorem dX12_of_106 : decode cX12_of 106 = .ok (.iaload, 1) := by decide +kernel
theorem dX12_of_107 : decode cX12_of 107 = .ok (.ireturn, 1) := by decide +kernel
theorem dX12_of_108 : decode cX12_of 108 = .ok (.aload_n 0, 1) := by decide +kernel
theorem dX12_of_109 : decode cX12_of 109 = .ok (.iload_n 1, 1) := by decide +kernel
theorem dX12_of_110 : decode cX12_of 110 = .ok (.invokevirtual 215, 3) := by decide +kernel
theorem dX12_of_113 : decode cX12_of 113 = .ok (.ireturn, 1) := by decide +kernel
theorem dX12_weighs_0 : decode cX12_weighs 0 = .ok (.aload_n 0, 1) := by decide +kernel
theorem dX12_weighs_1 : decode cX12_weighs 1 = .ok (.iload_n 1, 1) := by decide +kernel
theorem dX12_weighs_2 : decode cX12_weighs 2 = .ok (.invokevirtual 108, 3) := by decide +kernel
theorem dX12_weighs_5 : decode cX12_weighs 5 = .ok (.ifCond .eq 22, 3) := by decide +kernel
theorem dX12_weighs_8 : decode cX12_weighs 8 = .ok (.iload_n 2, 1) := by decide +kernel
theorem dX12_weighs_9 : decode cX12_weighs 9 = .ok (.iconst 0, 1) := by decide +kernel
theorem dX12_weighs_10 : decode cX12_weighs 10 = .ok (.bipush 99, 2) := by decide +kernel
theorem dX12_weighs_12 : decode cX12_weighs 12 = .ok (.invokestatic 93, 3) := by decide +kernel
theorem dX12_weighs_15 : decode cX12_weighs 15 = .ok (.ifCond .eq 12, 3) := by decide +kernel
theorem dX12_weighs_18 : decode cX12_weighs 18 = .ok (.aload_n 0, 1) := by decide +kernel
theorem dX12_weighs_19 : decode cX12_weighs 19 = .ok (.iload_n 1, 1) := by decide +kernel
theorem dX12_weighs_20 : decode cX12_weighs 20 = .ok (.iload_n 2, 1) := by decide +kernel
theorem dX12_weighs_21 : decode cX12_weighs 21 = .ok (.invokevirtual 186, 3) := by decide +kernel
theorem dX12_weighs_24 : decode cX12_weighs 24 = .ok (.goto 7, 3) := by decide +kernel
theorem dX12_weighs_27 : decode cX12_weighs 27 = .ok (.aload_n 0, 1) := by decide +kernel
theorem dX12_weighs_28 : decode cX12_weighs 28 = .ok (.invokevirtual 97, 3) := by decide +kernel
theorem dX12_weighs_31 : decode cX12_weighs 31 = .ok (.ireturn, 1) := by decide +kernel
theorem dX12_all_0 : decode cX12_all 0 = .ok (.iconst 0, 1) := by decide +kernel
theorem dX12_all_1 : decode cX12_all 1 = .ok (.istore_n 1, 1) := by decide +kernel
theorem dX12_all_2 : decode cX12_all 2 = .ok (.iconst 0, 1) := by decide +kernel
theorem dX12_all_3 : decode cX12_all 3 = .ok (.istore_n 2, 1) := by decide +kernel
theorem dX12_all_4 : decode cX12_all 4 = .ok (.iload_n 2, 1) := by decide +kernel
theorem dX12_all_5 : decode cX12_all 5 = .ok (.aload_n 0, 1) := by decide +kernel
theorem dX12_all_6 : decode cX12_all 6 = .ok (.getfield 77, 3) := by decide +kernel
theorem dX12_all_9 : decode cX12_all 9 = .ok (.if_icmp .ge 17, 3) := by decide +kernel
theorem dX12_all_12 : decode cX12_all 12 = .ok (.iload_n 1, 1) := by decide +kernel
theorem dX12_all_13 : decode cX12_all 13 = .ok (.aload_n 0, 1) := by decide +kernel
theorem dX12_all_14 : decode cX12_all 14 = .ok (.iload_n 2, 1) := by decide +kernel
theorem dX12_all_15 : decode cX12_all 15 = .ok (.invokevirtual 215, 3) := by decide +kernel
theorem dX12_all_18 : decode cX12_all 18 = .ok (.iadd, 1) := by decide +kernel
theorem dX12_all_19 : decode cX12_all 19 = .ok (.istore_n 1, 1) := by decide +kernel
theorem dX12_all_20 : decode cX12_all 20 = .ok (.iinc 2 1, 3) := by decide +kernel
theorem dX12_all_23 : decode cX12_all 23 = .ok (.goto (-19), 3) := by decide +kernel
theorem dX12_all_26 : decode cX12_all 26 = .ok (.iload_n 1, 1) := by decide +kernel
theorem dX12_all_27 : decode cX12_all 27 = .ok (.ireturn, 1) := by decide +kernel
theorem dX12_when_0 : decode cX12_when 0 = .ok (.aload_n 0, 1) := by decide +kernel
theorem dX12_when_1 : decode cX12_when 1 = .ok (.iload_n 1, 1) := by decide +kernel
theorem dX12_when_2 : decode cX12_when 2 = .ok (.invokevirtual 108, 3) := by decide +kernel
theorem dX12_when_5 : decode cX12_when 5 = .ok (.ifCond .eq 14, 3) := by decide +kernel
theorem dX12_when_8 : decode cX12_when 8 = .ok (.iload_n 2, 1) := by decide +kernel
theorem dX12_when_9 : decode cX12_when 9 = .ok (.iconst 0, 1) := by decide +kernel
theorem dX12_when_10 : decode cX12_when 10 = .ok (.sipush 999, 3) := by decide +kernel
theorem dX12_when_13 : decode cX12_when 13 = .ok (.invokestatic 93, 3) := by decide +kernel
theorem dX12_when_16 : decode cX12_when 16 = .ok (.ifCond .ne 8, 3) := by decide +kernel
theorem dX12_when_19 : decode cX12_when 19 = .ok (.aload_n 0, 1) := by decide +kernel
theorem dX12_when_20 : decode cX12_when 20 = .ok (.invokevirtual 97, 3) := by decide +kernel
theorem dX12_when_23 : decode cX12_when 23 = .ok (.ireturn, 1) := by decide +kernel
theorem dX12_when_24 : decode cX12_when 24 = .ok (.aload_n 0, 1) := by decide +kernel
theorem dX12_when_25 : decode cX12_when 25 = .ok (.getfield 16, 3) := by decide +kernel
theorem dX12_when_28 : decode cX12_when 28 = .ok (.iload_n 1, 1) := by decide +kernel
theorem dX12_when_29 : decode cX12_when 29 = .ok (.iaload, 1) := by decide +kernel
theorem dX12_when_30 : decode cX12_when 30 = .ok (.istore_n 3, 1) := by decide +kernel
theorem dX12_when_31 : decode cX12_when 31 = .ok (.iconst (-1), 1) := by decide +kernel
theorem dX12_when_32 : decode cX12_when 32 = .ok (.istore 4, 2) := by decide +kernel
theorem dX12_when_34 : decode cX12_when 34 = .ok (.iconst 0, 1) := by decide +kernel
theorem dX12_when_35 : decode cX12_when 35 = .ok (.istore 5, 2) := by decide +kernel
theorem dX12_when_37 : decode cX12_when 37 = .ok (.iload 5, 2) := by decide +kernel
theorem dX12_when_39 : decode cX12_when 39 = .ok (.bipush 60, 2) := by decide +kernel
theorem dX12_when_41 : decode cX12_when 41 = .ok (.if_icmp .gt 80, 3) := by decide +kernel
theorem dX12_when_44 : decode cX12_when 44 = .ok (.iload 4, 2) := by decide +kernel
theorem dX12_when_46 : decode cX12_when 46 = .ok (.iconst (-1), 1) := by decide +kernel
theorem dX12_when_47 : decode cX12_when 47 = .ok (.if_icmp .ne 74, 3) := by decide +kernel
theorem dX12_when_50 : decode cX12_when 50 = .ok (.aload_n 0, 1) := by decide +kernel
theorem dX12_when_51 : decode cX12_when 51 = .ok (.getfield 13, 3) := by decide +kernel
theorem dX12_when_54 : decode cX12_when 54 = .ok (.iload_n 1, 1) := by decide +kernel
theorem dX12_when_55 : decode cX12_when 55 = .ok (.iaload, 1) := by decide +kernel
theorem dX12_when_56 : decode cX12_when 56 = .ok (.aload_n 0, 1) := by decide +kernel
theorem dX12_when_57 : decode cX12_when 57 = .ok (.getfield 19, 3) := by decide +kernel
theorem dX12_when_60 : decode cX12_when 60 = .ok (.iload_n 1, 1) := by decide +kernel
theorem dX12_when_61 : decode cX12_when 61 = .ok (.iaload, 1) := by decide +kernel
theorem dX12_when_62 : decode cX12_when 62 = .ok (.iload_n 3, 1) := by decide +kernel
theorem dX12_when_63 : decode cX12_when 63 = .ok (.aload_n 0, 1) := by decide +kernel
theorem dX12_when_64 : decode cX12_when 64 = .ok (.getfield 81, 3) := by decide +kernel
theorem dX12_when_67 : decode cX12_when 67 = .ok (.iload 5, 2) := by decide +kernel
theorem dX12_when_69 : decode cX12_when 69 = .ok (.iadd, 1) := by decide +kernel
theorem dX12_when_70 : decode cX12_when 70 = .ok (.invokestatic 183, 3) := by decide +kernel
theorem dX12_when_73 : decode cX12_when 73 = .ok (.iload_n 2, 1) := by decide +kernel
theorem dX12_when_74 : decode cX12_when 74 = .ok (.if_icmp .lt 8, 3) := by decide +kernel
theorem dX12_when_77 : decode cX12_when 77 = .ok (.iload 5, 2) := by decide +kernel
theorem dX12_when_79 : decode cX12_when 79 = .ok (.goto 5, 3) := by decide +kernel
theorem dX12_when_82 : decode cX12_when 82 = .ok (.iload 4, 2) := by decide +kernel
theorem dX12_when_84 : decode cX12_when 84 = .ok (.istore 4, 2) := by decide +kernel
theorem dX12_when_86 : decode cX12_when 86 = .ok (.iload 5, 2) := by decide +kernel
theorem dX12_when_88 : decode cX12_when 88 = .ok (.ifCond .ne 18, 3) := by decide +kernel
theorem dX12_when_91 : decode cX12_when 91 = .ok (.aload_n 0, 1) := by decide +kernel
theorem dX12_when_92 : decode cX12_when 92 = .ok (.getfield 84, 3) := by decide +kernel
theorem dX12_when_95 : decode cX12_when 95 = .ok (.iload_n 1, 1) := by decide +kernel
theorem dX12_when_96 : decode cX12_when 96 = .ok (.invokestatic 199, 3) := by decide +kernel
theorem dX12_when_99 : decode cX12_when 99 = .ok (.ifCond .eq 7, 3) := by decide +kernel
theorem dX12_when_102 : decode cX12_when 102 = .ok (.iload_n 3, 1) := by decide +kernel
theorem dX12_when_103 : decode cX12_when 103 = .ok (.goto 11, 3) := by decide +kernel
theorem dX12_when_106 : decode cX12_when 106 = .ok (.bipush 12, 2) := by decide +kernel
theorem dX12_when_108 : decode cX12_when 108 = .ok (.iload_n 3, 1) := by decide +kernel
theorem dX12_when_109 : decode cX12_when 109 = .ok (.iconst 1, 1) := by decide +kernel
theorem dX12_when_110 : decode cX12_when 110 = .ok (.iadd, 1) := by decide +kernel
theorem dX12_when_111 : decode cX12_when 111 = .ok (.invokestatic 180, 3) := by decide +kernel
theorem dX12_when_114 : decode cX12_when 114 = .ok (.istore_n 3, 1) := by decide +kernel
theorem dX12_when_115 : decode cX12_when 115 = .ok (.iinc 5 1, 3) := by decide +kernel
theorem dX12_when_118 : decode cX12_when 118 = .ok (.goto (-81), 3) := by decide +kernel
theorem dX12_when_121 : decode cX12_when 121 = .ok (.iload 4, 2) := by decide +kernel
theorem dX12_when_123 : decode cX12_when 123 = .ok (.ireturn, 1) := by decide +kernel
theorem dX12_setSteps_0 : decode cX12_setSteps 0 = .ok (.iconst 0, 1) := by decide +kernel
theorem dX12_setSteps_1 : decode cX12_setSteps 1 = .ok (.istore 5, 2) := by decide +kernel
theorem dX12_setSteps_3 : decode cX12_setSteps 3 = .ok (.iload 5, 2) := by decide +kernel
theorem dX12_setSteps_5 : decode cX12_setSteps 5 = .ok (.bipush 6, 2) := by decide +kernel
theorem dX12_setSteps_7 : decode cX12_setSteps 7 = .ok (.if_icmp .ge 18, 3) := by decide +kernel
theorem dX12_setSteps_10 : decode cX12_setSteps 10 = .ok (.aload_n 0, 1) := by decide +kernel
theorem dX12_setSteps_11 : decode cX12_setSteps 11 = .ok (.getfield 52, 3) := by decide +kernel
theorem dX12_setSteps_14 : decode cX12_setSteps 14 = .ok (.iload 5, 2) := by decide +kernel
theorem dX12_setSteps_16 : decode cX12_setSteps 16 = .ok (.ldc 218, 2) := by decide +kernel
theorem dX12_setSteps_18 : decode cX12_setSteps 18 = .ok (.iastore, 1) := by decide +kernel
theorem dX12_setSteps_19 : decode cX12_setSteps 19 = .ok (.iinc 5 1, 3) := by decide +kernel
theorem dX12_setSteps_22 : decode cX12_setSteps 22 = .ok (.goto (-19), 3) := by decide +kernel
theorem dX12_setSteps_25 : decode cX12_setSteps 25 = .ok (.aload_n 0, 1) := by decide +kernel
theorem dX12_setSteps_26 : decode cX12_setSteps 26 = .ok (.iload_n 2, 1) := by decide +kernel
theorem dX12_setSteps_27 : decode cX12_setSteps 27 = .ok (.iload_n 3, 1) := by decide +kernel
theorem dX12_setSteps_28 : decode cX12_setSteps 28 = .ok (.invokevirtual 186, 3) := by decide +kernel
theorem dX12_setSteps_31 : decode cX12_setSteps 31 = .ok (.iload 4, 2) := by decide +kernel
theorem dX12_setSteps_33 : decode cX12_setSteps 33 = .ok (.if_icmp .lt 10, 3) := by decide +kernel
theorem dX12_setSteps_36 : decode cX12_setSteps 36 = .ok (.aload_n 0, 1) := by decide +kernel
theorem dX12_setSteps_37 : decode cX12_setSteps 37 = .ok (.getfield 52, 3) := by decide +kernel
theorem dX12_setSteps_40 : decode cX12_setSteps 40 = .ok (.iload_n 2, 1) := by decide +kernel
theorem dX12_setSteps_41 : decode cX12_setSteps 41 = .ok (.iconst 1, 1) := by decide +kernel
theorem dX12_setSteps_42 : decode cX12_setSteps 42 = .ok (.iastore, 1) := by decide +kernel
theorem dX12_setSteps_43 : decode cX12_setSteps 43 = .ok (.iconst 1, 1) := by decide +kernel
theorem dX12_setSteps_44 : decode cX12_setSteps 44 = .ok (.istore 5, 2) := by decide +kernel
theorem dX12_setSteps_46 : decode cX12_setSteps 46 = .ok (.iload 5, 2) := by decide +kernel
theorem dX12_setSteps_48 : decode cX12_setSteps 48 = .ok (.aload_n 0, 1) := by decide +kernel
theorem dX12_setSteps_49 : decode cX12_setSteps 49 = .ok (.getfield 77, 3) := by decide +kernel
theorem dX12_setSteps_52 : decode cX12_setSteps 52 = .ok (.if_icmp .ge 120, 3) := by decide +kernel
theorem dX12_setSteps_55 : decode cX12_setSteps 55 = .ok (.iconst 0, 1) := by decide +kernel
theorem dX12_setSteps_56 : decode cX12_setSteps 56 = .ok (.istore 6, 2) := by decide +kernel
theorem dX12_setSteps_58 : decode cX12_setSteps 58 = .ok (.iload 6, 2) := by decide +kernel
theorem dX12_setSteps_60 : decode cX12_setSteps 60 = .ok (.aload_n 0, 1) := by decide +kernel
theorem dX12_setSteps_61 : decode cX12_setSteps 61 = .ok (.getfield 77, 3) := by decide +kernel
theorem dX12_setSteps_64 : decode cX12_setSteps 64 = .ok (.if_icmp .ge 102, 3) := by decide +kernel
theorem dX12_setSteps_67 : decode cX12_setSteps 67 = .ok (.iconst 0, 1) := by decide +kernel
theorem dX12_setSteps_68 : decode cX12_setSteps 68 = .ok (.istore 7, 2) := by decide +kernel
theorem dX12_setSteps_70 : decode cX12_setSteps 70 = .ok (.iload 7, 2) := by decide +kernel
theorem dX12_setSteps_72 : decode cX12_setSteps 72 = .ok (.aload_n 0, 1) := by decide +kernel
theorem dX12_setSteps_73 : decode cX12_setSteps 73 = .ok (.getfield 77, 3) := by decide +kernel
theorem dX12_setSteps_76 : decode cX12_setSteps 76 = .ok (.if_icmp .ge 84, 3) := by decide +kernel
theorem dX12_setSteps_79 : decode cX12_setSteps 79 = .ok (.aload_n 0, 1) := by decide +kernel
theorem dX12_setSteps_80 : decode cX12_setSteps 80 = .ok (.getfield 25, 3) := by decide +kernel
theorem dX12_setSteps_83 : decode cX12_setSteps 83 = .ok (.iload 6, 2) := by decide +kernel
theorem dX12_setSteps_85 : decode cX12_setSteps 85 = .ok (.iaload, 1) := by decide +kernel
theorem dX12_setSteps_86 : decode cX12_setSteps 86 = .ok (.iload 7, 2) := by decide +kernel
theorem dX12_setSteps_88 : decode cX12_setSteps 88 = .ok (.invokestatic 199, 3) := by decide +kernel
theorem dX12_setSteps_91 : decode cX12_setSteps 91 = .ok (.ifCond .eq 19, 3) := by decide +kernel
theorem dX12_setSteps_94 : decode cX12_setSteps 94 = .ok (.aload_n 0, 1) := by decide +kernel
theorem dX12_setSteps_95 : decode cX12_setSteps 95 = .ok (.iload 6, 2) := by decide +kernel
theorem dX12_setSteps_97 : decode cX12_setSteps 97 = .ok (.iload_n 3, 1) := by decide +kernel
theorem dX12_setSteps_98 : decode cX12_setSteps 98 = .ok (.invokevirtual 186, 3) := by decide +kernel
theorem dX12_setSteps_101 : decode cX12_setSteps 101 = .ok (.iload 4, 2) := by decide +kernel
theorem dX12_setSteps_103 : decode cX12_setSteps 103 = .ok (.if_icmp .lt 7, 3) := by decide +kernel
theorem dX12_setSteps_106 : decode cX12_setSteps 106 = .ok (.iconst 1, 1) := by decide +kernel
theorem dX12_setSteps_107 : decode cX12_setSteps 107 = .ok (.goto 4, 3) := by decide +kernel
theorem dX12_setSteps_110 : decode cX12_setSteps 110 = .ok (.iconst 0, 1) := by decide +kernel
theorem dX12_setSteps_111 : decode cX12_setSteps 111 = .ok (.istore 8, 2) := by decide +kernel
theorem dX12_setSteps_113 : decode cX12_setSteps 113 = .ok (.aload_n 0, 1) := by decide +kernel
theorem dX12_setSteps_114 : decode cX12_setSteps 114 = .ok (.getfield 52, 3) := by decide +kernel
theorem dX12_setSteps_117 : decode cX12_setSteps 117 = .ok (.iload 6, 2) := by decide +kernel
theorem dX12_setSteps_119 : decode cX12_setSteps 119 = .ok (.iload 8, 2) := by decide +kernel
theorem dX12_setSteps_121 : decode cX12_setSteps 121 = .ok (.ifCond .eq 25, 3) := by decide +kernel
theorem dX12_setSteps_124 : decode cX12_setSteps 124 = .ok (.aload_n 0, 1) := by decide +kernel
theorem dX12_setSteps_125 : decode cX12_setSteps 125 = .ok (.getfield 52, 3) := by decide +kernel
theorem dX12_setSteps_128 : decode cX12_setSteps 128 = .ok (.iload 6, 2) := by decide +kernel
theorem dX12_setSteps_130 : decode cX12_setSteps 130 = .ok (.iaload, 1) := by decide +kernel
theorem dX12_setSteps_131 : decode cX12_setSteps 131 = .ok (.aload_n 0, 1) := by decide +kernel
theorem dX12_setSteps_132 : decode cX12_setSteps 132 = .ok (.getfield 52, 3) := by decide +kernel
theorem dX12_setSteps_135 : decode cX12_setSteps 135 = .ok (.iload 7, 2) := by decide +kernel
theorem dX12_setSteps_137 : decode cX12_setSteps 137 = .ok (.iaload, 1) := by decide +kernel
theorem dX12_setSteps_138 : decode cX12_setSteps 138 = .ok (.iconst 1, 1) := by decide +kernel
theorem dX12_setSteps_139 : decode cX12_setSteps 139 = .ok (.iadd, 1) := by decide +kernel
theorem dX12_setSteps_140 : decode cX12_setSteps 140 = .ok (.invokestatic 180, 3) := by decide +kernel
theorem dX12_setSteps_143 : decode cX12_setSteps 143 = .ok (.goto 10, 3) := by decide +kernel
theorem dX12_setSteps_146 : decode cX12_setSteps 146 = .ok (.aload_n 0, 1) := by decide +kernel
theorem dX12_setSteps_147 : decode cX12_setSteps 147 = .ok (.getfield 52, 3) := by decide +kernel
theorem dX12_setSteps_150 : decode cX12_setSteps 150 = .ok (.iload 6, 2) := by decide +kernel
theorem dX12_setSteps_152 : decode cX12_setSteps 152 = .ok (.iaload, 1) := by decide +kernel
theorem dX12_setSteps_153 : decode cX12_setSteps 153 = .ok (.iastore, 1) := by decide +kernel
theorem dX12_setSteps_154 : decode cX12_setSteps 154 = .ok (.iinc 7 1, 3) := by decide +kernel
theorem dX12_setSteps_157 : decode cX12_setSteps 157 = .ok (.goto (-87), 3) := by decide +kernel
theorem dX12_setSteps_160 : decode cX12_setSteps 160 = .ok (.iinc 6 1, 3) := by decide +kernel
theorem dX12_setSteps_163 : decode cX12_setSteps 163 = .ok (.goto (-105), 3) := by decide +kernel
theorem dX12_setSteps_166 : decode cX12_setSteps 166 = .ok (.iinc 5 1, 3) := by decide +kernel
theorem dX12_setSteps_169 : decode cX12_setSteps 169 = .ok (.goto (-123), 3) := by decide +kernel
theorem dX12_setSteps_172 : decode cX12_setSteps 172 = .ok (.aload_n 0, 1) := by decide +kernel
theorem dX12_setSteps_173 : decode cX12_setSteps 173 = .ok (.getfield 52, 3) := by decide +kernel
theorem dX12_setSteps_176 : decode cX12_setSteps 176 = .ok (.iload_n 1, 1) := by decide +kernel
theorem dX12_setSteps_177 : decode cX12_setSteps 177 = .ok (.iaload, 1) := by decide +kernel
theorem dX12_setSteps_178 : decode cX12_setSteps 178 = .ok (.ireturn, 1) := by decide +kernel
theorem dX12_bag_0 : decode cX12_bag 0 = .ok (.aload_n 0, 1) := by decide +kernel
theorem dX12_bag_1 : decode cX12_bag 1 = .ok (.iload_n 1, 1) := by decide +kernel
theorem dX12_bag_2 : decode cX12_bag 2 = .ok (.invokevirtual 108, 3) := by decide +kernel
theorem dX12_bag_5 : decode cX12_bag 5 = .ok (.ifCond .eq 32, 3) := by decide +kernel
theorem dX12_bag_8 : decode cX12_bag 8 = .ok (.aload_n 0, 1) := by decide +kernel
theorem dX12_bag_9 : decode cX12_bag 9 = .ok (.iload_n 2, 1) := by decide +kernel
theorem dX12_bag_10 : decode cX12_bag 10 = .ok (.invokevirtual 108, 3) := by decide +kernel
theorem dX12_bag_13 : decode cX12_bag 13 = .ok (.ifCond .eq 24, 3) := by decide +kernel
theorem dX12_bag_16 : decode cX12_bag 16 = .ok (.iload_n 1, 1) := by decide +kernel
theorem dX12_bag_17 : decode cX12_bag 17 = .ok (.iload_n 2, 1) := by decide +kernel
theorem dX12_bag_18 : decode cX12_bag 18 = .ok (.if_icmp .eq 19, 3) := by decide +kernel
theorem dX12_bag_21 : decode cX12_bag 21 = .ok (.iload_n 3, 1) := by decide +kernel
theorem dX12_bag_22 : decode cX12_bag 22 = .ok (.iconst 0, 1) := by decide +kernel
theorem dX12_bag_23 : decode cX12_bag 23 = .ok (.bipush 99, 2) := by decide +kernel
theorem dX12_bag_25 : decode cX12_bag 25 = .ok (.invokestatic 93, 3) := by decide +kernel
theorem dX12_bag_28 : decode cX12_bag 28 = .ok (.ifCond .eq 9, 3) := by decide +kernel
theorem dX12_bag_31 : decode cX12_bag 31 = .ok (.iload 4, 2) := by decide +kernel
theorem dX12_bag_33 : decode cX12_bag 33 = .ok (.iconst (-1), 1) := by decide +kernel
theorem dX12_bag_34 : decode cX12_bag 34 = .ok (.if_icmp .ge 8, 3) := by decide +kernel
theorem dX12_bag_37 : decode cX12_bag 37 = .ok (.aload_n 0, 1) := by decide +kernel
theorem dX12_bag_38 : decode cX12_bag 38 = .ok (.invokevirtual 219, 3) := by decide +kernel
theorem dX12_bag_41 : decode cX12_bag 41 = .ok (.ireturn, 1) := by decide +kernel
theorem dX12_bag_42 : decode cX12_bag 42 = .ok (.iconst (-1), 1) := by decide +kernel
theorem dX12_bag_43 : decode cX12_bag 43 = .ok (.istore 5, 2) := by decide +kernel
theorem dX12_bag_45 : decode cX12_bag 45 = .ok (.iconst 0, 1) := by decide +kernel
theorem dX12_bag_46 : decode cX12_bag 46 = .ok (.istore 6, 2) := by decide +kernel
theorem dX12_bag_48 : decode cX12_bag 48 = .ok (.iload 6, 2) := by decide +kernel
theorem dX12_bag_50 : decode cX12_bag 50 = .ok (.aload_n 0, 1) := by decide +kernel
theorem dX12_bag_51 : decode cX12_bag 51 = .ok (.getfield 77, 3) := by decide +kernel
theorem dX12_bag_54 : decode cX12_bag 54 = .ok (.if_icmp .ge 50, 3) := by decide +kernel
theorem dX12_bag_57 : decode cX12_bag 57 = .ok (.aload_n 0, 1) := by decide +kernel
theorem dX12_bag_58 : decode cX12_bag 58 = .ok (.iload 6, 2) := by decide +kernel
theorem dX12_bag_60 : decode cX12_bag 60 = .ok (.iload_n 3, 1) := by decide +kernel
theorem dX12_bag_61 : decode cX12_bag 61 = .ok (.invokevirtual 186, 3) := by decide +kernel
theorem dX12_bag_64 : decode cX12_bag 64 = .ok (.istore 7, 2) := by decide +kernel
theorem dX12_bag_66 : decode cX12_bag 66 = .ok (.iload 7, 2) := by decide +kernel
theorem dX12_bag_68 : decode cX12_bag 68 = .ok (.iload 5, 2) := by decide +kernel
theorem dX12_bag_70 : decode cX12_bag 70 = .ok (.if_icmp .le 24, 3) := by decide +kernel
theorem dX12_bag_73 : decode cX12_bag 73 = .ok (.aload_n 0, 1) := by decide +kernel
theorem dX12_bag_74 : decode cX12_bag 74 = .ok (.iload_n 1, 1) := by decide +kernel
theorem dX12_bag_75 : decode cX12_bag 75 = .ok (.iload_n 2, 1) := by decide +kernel
theorem dX12_bag_76 : decode cX12_bag 76 = .ok (.iload_n 3, 1) := by decide +kernel
theorem dX12_bag_77 : decode cX12_bag 77 = .ok (.iload 7, 2) := by decide +kernel
theorem dX12_bag_79 : decode cX12_bag 79 = .ok (.invokevirtual 222, 3) := by decide +kernel
theorem dX12_bag_82 : decode cX12_bag 82 = .ok (.aload_n 0, 1) := by decide +kernel
theorem dX12_bag_83 : decode cX12_bag 83 = .ok (.getfield 77, 3) := by decide +kernel
theorem dX12_bag_86 : decode cX12_bag 86 = .ok (.if_icmp .gt 8, 3) := by decide +kernel
theorem dX12_bag_89 : decode cX12_bag 89 = .ok (.iload 7, 2) := by decide +kernel
theorem dX12_bag_91 : decode cX12_bag 91 = .ok (.goto 5, 3) := by decide +kernel
theorem dX12_bag_94 : decode cX12_bag 94 = .ok (.iload 5, 2) := by decide +kernel
theorem dX12_bag_96 : decode cX12_bag 96 = .ok (.istore 5, 2) := by decide +kernel
theorem dX12_bag_98 : decode cX12_bag 98 = .ok (.iinc 6 1, 3) := by decide +kernel
theorem dX12_bag_101 : decode cX12_bag 101 = .ok (.goto (-53), 3) := by decide +kernel
theorem dX12_bag_104 : decode cX12_bag 104 = .ok (.iload 5, 2) := by decide +kernel
theorem dX12_bag_106 : decode cX12_bag 106 = .ok (.iconst (-1), 1) := by decide +kernel
theorem dX12_bag_107 : decode cX12_bag 107 = .ok (.if_icmp .eq 9, 3) := by decide +kernel
theorem dX12_bag_110 : decode cX12_bag 110 = .ok (.iload 4, 2) := by decide +kernel
theorem dX12_bag_112 : decode cX12_bag 112 = .ok (.iconst (-1), 1) := by decide +kernel
theorem dX12_bag_113 : decode cX12_bag 113 = .ok (.if_icmp .ne 6, 3) := by decide +kernel
theorem dX12_bag_116 : decode cX12_bag 116 = .ok (.iload 5, 2) := by decide +kernel
theorem dX12_bag_118 : decode cX12_bag 118 = .ok (.ireturn, 1) := by decide +kernel
theorem dX12_bag_119 : decode cX12_bag 119 = .ok (.aload_n 0, 1) := by decide +kernel
theorem dX12_bag_120 : decode cX12_bag 120 = .ok (.iload_n 1, 1) := by decide +kernel
theorem dX12_bag_121 : decode cX12_bag 121 = .ok (.iload_n 2, 1) := by decide +kernel
theorem dX12_bag_122 : decode cX12_bag 122 = .ok (.iload_n 3, 1) := by decide +kernel
theorem dX12_bag_123 : decode cX12_bag 123 = .ok (.iload 5, 2) := by decide +kernel
theorem dX12_bag_125 : decode cX12_bag 125 = .ok (.invokevirtual 222, 3) := by decide +kernel
theorem dX12_bag_128 : decode cX12_bag 128 = .ok (.istore 6, 2) := by decide +kernel
theorem dX12_bag_130 : decode cX12_bag 130 = .ok (.iload_n 1, 1) := by decide +kernel
theorem dX12_bag_131 : decode cX12_bag 131 = .ok (.istore 7, 2) := by decide +kernel
theorem dX12_bag_133 : decode cX12_bag 133 = .ok (.iconst 0, 1) := by decide +kernel
theorem dX12_bag_134 : decode cX12_bag 134 = .ok (.istore 8, 2) := by decide +kernel
theorem dX12_bag_136 : decode cX12_bag 136 = .ok (.iload 8, 2) := by decide +kernel
theorem dX12_bag_138 : decode cX12_bag 138 = .ok (.iload 6, 2) := by decide +kernel
theorem dX12_bag_140 : decode cX12_bag 140 = .ok (.if_icmp .ge 98, 3) := by decide +kernel
theorem dX12_bag_143 : decode cX12_bag 143 = .ok (.aload_n 0, 1) := by decide +kernel
theorem dX12_bag_144 : decode cX12_bag 144 = .ok (.getfield 55, 3) := by decide +kernel
theorem dX12_bag_147 : decode cX12_bag 147 = .ok (.iload 8, 2) := by decide +kernel
theorem dX12_bag_149 : decode cX12_bag 149 = .ok (.iload 7, 2) := by decide +kernel
theorem dX12_bag_151 : decode cX12_bag 151 = .ok (.iastore, 1) := by decide +kernel
theorem dX12_bag_152 : decode cX12_bag 152 = .ok (.iconst (-1), 1) := by decide +kernel
theorem dX12_bag_153 : decode cX12_bag 153 = .ok (.istore 9, 2) := by decide +kernel
theorem dX12_bag_155 : decode cX12_bag 155 = .ok (.aload_n 0, 1) := by decide +kernel
theorem dX12_bag_156 : decode cX12_bag 156 = .ok (.getfield 77, 3) := by decide +kernel
theorem dX12_bag_159 : decode cX12_bag 159 = .ok (.iconst 1, 1) := by decide +kernel
theorem dX12_bag_160 : decode cX12_bag 160 = .ok (.isub, 1) := by decide +kernel
theorem dX12_bag_161 : decode cX12_bag 161 = .ok (.istore 10, 2) := by decide +kernel
theorem dX12_bag_163 : decode cX12_bag 163 = .ok (.iload 10, 2) := by decide +kernel
theorem dX12_bag_165 : decode cX12_bag 165 = .ok (.ifCond .lt 52, 3) := by decide +kernel
theorem dX12_bag_168 : decode cX12_bag 168 = .ok (.aload_n 0, 1) := by decide +kernel
theorem dX12_bag_169 : decode cX12_bag 169 = .ok (.getfield 25, 3) := by decide +kernel
theorem dX12_bag_172 : decode cX12_bag 172 = .ok (.iload 7, 2) := by decide +kernel
theorem dX12_bag_174 : decode cX12_bag 174 = .ok (.iaload, 1) := by decide +kernel
theorem dX12_bag_175 : decode cX12_bag 175 = .ok (.iload 10, 2) := by decide +kernel
theorem dX12_bag_177 : decode cX12_bag 177 = .ok (.invokestatic 199, 3) := by decide +kernel
theorem dX12_bag_180 : decode cX12_bag 180 = .ok (.ifCond .eq 27, 3) := by decide +kernel
theorem dX12_bag_183 : decode cX12_bag 183 = .ok (.aload_n 0, 1) := by decide +kernel
theorem dX12_bag_184 : decode cX12_bag 184 = .ok (.getfield 52, 3) := by decide +kernel
theorem dX12_bag_187 : decode cX12_bag 187 = .ok (.iload 10, 2) := by decide +kernel
theorem dX12_bag_189 : decode cX12_bag 189 = .ok (.iaload, 1) := by decide +kernel
theorem dX12_bag_190 : decode cX12_bag 190 = .ok (.aload_n 0, 1) := by decide +kernel
theorem dX12_bag_191 : decode cX12_bag 191 = .ok (.getfield 52, 3) := by decide +kernel
theorem dX12_bag_194 : decode cX12_bag 194 = .ok (.iload 7, 2) := by decide +kernel
theorem dX12_bag_196 : decode cX12_bag 196 = .ok (.iaload, 1) := by decide +kernel
theorem dX12_bag_197 : decode cX12_bag 197 = .ok (.iconst 1, 1) := by decide +kernel
theorem dX12_bag_198 : decode cX12_bag 198 = .ok (.isub, 1) := by decide +kernel
theorem dX12_bag_199 : decode cX12_bag 199 = .ok (.if_icmp .ne 8, 3) := by decide +kernel
theorem dX12_bag_202 : decode cX12_bag 202 = .ok (.iload 10, 2) := by decide +kernel
theorem dX12_bag_204 : decode cX12_bag 204 = .ok (.goto 5, 3) := by decide +kernel
theorem dX12_bag_207 : decode cX12_bag 207 = .ok (.iload 9, 2) := by decide +kernel
theorem dX12_bag_209 : decode cX12_bag 209 = .ok (.istore 9, 2) := by decide +kernel
theorem dX12_bag_211 : decode cX12_bag 211 = .ok (.iinc 10 (-1), 3) := by decide +kernel
theorem dX12_bag_214 : decode cX12_bag 214 = .ok (.goto (-51), 3) := by decide +kernel
theorem dX12_bag_217 : decode cX12_bag 217 = .ok (.iload 9, 2) := by decide +kernel
theorem dX12_bag_219 : decode cX12_bag 219 = .ok (.iconst (-1), 1) := by decide +kernel
theorem dX12_bag_220 : decode cX12_bag 220 = .ok (.if_icmp .ne 8, 3) := by decide +kernel
theorem dX12_bag_223 : decode cX12_bag 223 = .ok (.iload 7, 2) := by decide +kernel
theorem dX12_bag_225 : decode cX12_bag 225 = .ok (.goto 5, 3) := by decide +kernel
theorem dX12_bag_228 : decode cX12_bag 228 = .ok (.iload 9, 2) := by decide +kernel
theorem dX12_bag_230 : decode cX12_bag 230 = .ok (.istore 7, 2) := by decide +kernel
theorem dX12_bag_232 : decode cX12_bag 232 = .ok (.iinc 8 1, 3) := by decide +kernel
theorem dX12_bag_235 : decode cX12_bag 235 = .ok (.goto (-99), 3) := by decide +kernel
theorem dX12_bag_238 : decode cX12_bag 238 = .ok (.iload 4, 2) := by decide +kernel
theorem dX12_bag_240 : decode cX12_bag 240 = .ok (.iload 6, 2) := by decide +kernel
theorem dX12_bag_242 : decode cX12_bag 242 = .ok (.if_icmp .ge 13, 3) := by decide +kernel
theorem dX12_bag_245 : decode cX12_bag 245 = .ok (.aload_n 0, 1) := by decide +kernel
theorem dX12_bag_246 : decode cX12_bag 246 = .ok (.getfield 55, 3) := by decide +kernel
theorem dX12_bag_249 : decode cX12_bag 249 = .ok (.iload 4, 2) := by decide +kernel
theorem dX12_bag_251 : decode cX12_bag 251 = .ok (.iaload, 1) := by decide +kernel
theorem dX12_bag_252 : decode cX12_bag 252 = .ok (.goto 5, 3) := by decide +kernel
theorem dX12_bag_255 : decode cX12_bag 255 = .ok (.bipush (-5), 2) := by decide +kernel
theorem dX12_bag_257 : decode cX12_bag 257 = .ok (.ireturn, 1) := by decide +kernel
theorem dX12_debt_0 : decode cX12_debt 0 = .ok (.aload_n 0, 1) := by decide +kernel
theorem dX12_debt_1 : decode cX12_debt 1 = .ok (.iload_n 1, 1) := by decide +kernel
theorem dX12_debt_2 : decode cX12_debt 2 = .ok (.invokevirtual 108, 3) := by decide +kernel
theorem dX12_debt_5 : decode cX12_debt 5 = .ok (.ifCond .eq 14, 3) := by decide +kernel
theorem dX12_debt_8 : decode cX12_debt 8 = .ok (.iload_n 2, 1) := by decide +kernel
theorem dX12_debt_9 : decode cX12_debt 9 = .ok (.iconst 0, 1) := by decide +kernel
theorem dX12_debt_10 : decode cX12_debt 10 = .ok (.sipush 999, 3) := by decide +kernel
theorem dX12_debt_13 : decode cX12_debt 13 = .ok (.invokestatic 93, 3) := by decide +kernel
theorem dX12_debt_16 : decode cX12_debt 16 = .ok (.ifCond .ne 8, 3) := by decide +kernel
theorem dX12_debt_19 : decode cX12_debt 19 = .ok (.aload_n 0, 1) := by decide +kernel
theorem dX12_debt_20 : decode cX12_debt 20 = .ok (.invokevirtual 97, 3) := by decide +kernel
theorem dX12_debt_23 : decode cX12_debt 23 = .ok (.ireturn, 1) := by decide +kernel
theorem dX12_debt_24 : decode cX12_debt 24 = .ok (.iconst 0, 1) := by decide +kernel
theorem dX12_debt_25 : decode cX12_debt 25 = .ok (.istore_n 3, 1) := by decide +kernel
theorem dX12_debt_26 : decode cX12_debt 26 = .ok (.iload_n 3, 1) := by decide +kernel
theorem dX12_debt_27 : decode cX12_debt 27 = .ok (.bipush 99, 2) := by decide +kernel
theorem dX12_debt_29 : decode cX12_debt 29 = .ok (.if_icmp .gt 19, 3) := by decide +kernel
theorem dX12_debt_32 : decode cX12_debt 32 = .ok (.aload_n 0, 1) := by decide +kernel
theorem dX12_debt_33 : decode cX12_debt 33 = .ok (.iload_n 1, 1) := by decide +kernel
theorem dX12_debt_34 : decode cX12_debt 34 = .ok (.iload_n 3, 1) := by decide +kernel
theorem dX12_debt_35 : decode cX12_debt 35 = .ok (.invokevirtual 186, 3) := by decide +kernel
theorem dX12_debt_38 : decode cX12_debt 38 = .ok (.iload_n 2, 1) := by decide +kernel
theorem dX12_debt_39 : decode cX12_debt 39 = .ok (.if_icmp .ge 9, 3) := by decide +kernel
theorem dX12_debt_42 : decode cX12_debt 42 = .ok (.iinc 3 1, 3) := by decide +kernel
theorem dX12_debt_45 : decode cX12_debt 45 = .ok (.goto (-19), 3) := by decide +kernel
theorem dX12_debt_48 : decode cX12_debt 48 = .ok (.iload_n 3, 1) := by decide +kernel
theorem dX12_debt_49 : decode cX12_debt 49 = .ok (.bipush 99, 2) := by decide +kernel
theorem dX12_debt_51 : decode cX12_debt 51 = .ok (.if_icmp .le 7, 3) := by decide +kernel
theorem dX12_debt_54 : decode cX12_debt 54 = .ok (.iconst (-1), 1) := by decide +kernel
theorem dX12_debt_55 : decode cX12_debt 55 = .ok (.goto 4, 3) := by decide +kernel
theorem dX12_debt_58 : decode cX12_debt 58 = .ok (.iload_n 3, 1) := by decide +kernel
theorem dX12_debt_59 : decode cX12_debt 59 = .ok (.ireturn, 1) := by decide +kernel
theorem dX12_hire_0 : decode cX12_hire 0 = .ok (.iload_n 1, 1) := by decide +kernel
theorem dX12_hire_1 : decode cX12_hire 1 = .ok (.iconst 0, 1) := by decide +kernel
theorem dX12_hire_2 : decode cX12_hire 2 = .ok (.bipush 120, 2) := by decide +kernel
theorem dX12_hire_4 : decode cX12_hire 4 = .ok (.invokestatic 93, 3) := by decide +kernel
theorem dX12_hire_7 : decode cX12_hire 7 = .ok (.ifCond .eq 22, 3) := by decide +kernel
theorem dX12_hire_10 : decode cX12_hire 10 = .ok (.iload_n 2, 1) := by decide +kernel
theorem dX12_hire_11 : decode cX12_hire 11 = .ok (.iconst 0, 1) := by decide +kernel
theorem dX12_hire_12 : decode cX12_hire 12 = .ok (.bipush 99, 2) := by decide +kernel
theorem dX12_hire_14 : decode cX12_hire 14 = .ok (.invokestatic 93, 3) := by decide +kernel
theorem dX12_hire_17 : decode cX12_hire 17 = .ok (.ifCond .eq 12, 3) := by decide +kernel
theorem dX12_hire_20 : decode cX12_hire 20 = .ok (.iload_n 3, 1) := by decide +kernel
theorem dX12_hire_21 : decode cX12_hire 21 = .ok (.iconst 0, 1) := by decide +kernel
theorem dX12_hire_22 : decode cX12_hire 22 = .ok (.iconst 1, 1) := by decide +kernel
theorem dX12_hire_23 : decode cX12_hire 23 = .ok (.invokestatic 93, 3) := by decide +kernel
theorem dX12_hire_26 : decode cX12_hire 26 = .ok (.ifCond .ne 8, 3) := by decide +kernel
theorem dX12_hire_29 : decode cX12_hire 29 = .ok (.aload_n 0, 1) := by decide +kernel
theorem dX12_hire_30 : decode cX12_hire 30 = .ok (.invokevirtual 97, 3) := by decide +kernel
theorem dX12_hire_33 : decode cX12_hire 33 = .ok (.ireturn, 1) := by decide +kernel
theorem dX12_hire_34 : decode cX12_hire 34 = .ok (.iconst 0, 1) := by decide +kernel
theorem dX12_hire_35 : decode cX12_hire 35 = .ok (.istore 4, 2) := by decide +kernel
theorem dX12_hire_37 : decode cX12_hire 37 = .ok (.iconst (-1), 1) := by decide +kernel
theorem dX12_hire_38 : decode cX12_hire 38 = .ok (.istore 5, 2) := by decide +kernel
theorem dX12_hire_40 : decode cX12_hire 40 = .ok (.iconst 0, 1) := by decide +kernel
theorem dX12_hire_41 : decode cX12_hire 41 = .ok (.istore 6, 2) := by decide +kernel
theorem dX12_hire_43 : decode cX12_hire 43 = .ok (.iload 6, 2) := by decide +kernel
theorem dX12_hire_45 : decode cX12_hire 45 = .ok (.iconst 1, 1) := by decide +kernel
theorem dX12_hire_46 : decode cX12_hire 46 = .ok (.aload_n 0, 1) := by decide +kernel
theorem dX12_hire_47 : decode cX12_hire 47 = .ok (.getfield 77, 3) := by decide +kernel
theorem dX12_hire_50 : decode cX12_hire 50 = .ok (.ishl, 1) := by decide +kernel
theorem dX12_hire_51 : decode cX12_hire 51 = .ok (.if_icmp .ge 133, 3) := by decide +kernel
theorem dX12_hire_54 : decode cX12_hire 54 = .ok (.iconst 0, 1) := by decide +kernel
theorem dX12_hire_55 : decode cX12_hire 55 = .ok (.istore 7, 2) := by decide +kernel
theorem dX12_hire_57 : decode cX12_hire 57 = .ok (.iconst 0, 1) := by decide +kernel
theorem dX12_hire_58 : decode cX12_hire 58 = .ok (.istore 8, 2) := by decide +kernel
theorem dX12_hire_60 : decode cX12_hire 60 = .ok (.iconst 0, 1) := by decide +kernel
theorem dX12_hire_61 : decode cX12_hire 61 = .ok (.istore 9, 2) := by decide +kernel
theorem dX12_hire_63 : decode cX12_hire 63 = .ok (.iload 9, 2) := by decide +kernel
theorem dX12_hire_65 : decode cX12_hire 65 = .ok (.aload_n 0, 1) := by decide +kernel
theorem dX12_hire_66 : decode cX12_hire 66 = .ok (.getfield 77, 3) := by decide +kernel
theorem dX12_hire_69 : decode cX12_hire 69 = .ok (.if_icmp .ge 61, 3) := by decide +kernel
theorem dX12_hire_72 : decode cX12_hire 72 = .ok (.iload 7, 2) := by decide +kernel
theorem dX12_hire_74 : decode cX12_hire 74 = .ok (.iload 6, 2) := by decide +kernel
theorem dX12_hire_76 : decode cX12_hire 76 = .ok (.iload 9, 2) := by decide +kernel
theorem dX12_hire_78 : decode cX12_hire 78 = .ok (.invokestatic 199, 3) := by decide +kernel
theorem dX12_hire_81 : decode cX12_hire 81 = .ok (.ifCond .eq 13, 3) := by decide +kernel
theorem dX12_hire_84 : decode cX12_hire 84 = .ok (.aload_n 0, 1) := by decide +kernel
theorem dX12_hire_85 : decode cX12_hire 85 = .ok (.getfield 22, 3) := by decide +kernel
theorem dX12_hire_88 : decode cX12_hire 88 = .ok (.iload 9, 2) := by decide +kernel
theorem dX12_hire_90 : decode cX12_hire 90 = .ok (.iaload, 1) := by decide +kernel
theorem dX12_hire_91 : decode cX12_hire 91 = .ok (.goto 4, 3) := by decide +kernel
theorem dX12_hire_94 : decode cX12_hire 94 = .ok (.iconst 0, 1) := by decide +kernel
theorem dX12_hire_95 : decode cX12_hire 95 = .ok (.iadd, 1) := by decide +kernel
theorem dX12_hire_96 : decode cX12_hire 96 = .ok (.istore 7, 2) := by decide +kernel
theorem dX12_hire_98 : decode cX12_hire 98 = .ok (.iload 8, 2) := by decide +kernel
theorem dX12_hire_100 : decode cX12_hire 100 = .ok (.iload 6, 2) := by decide +kernel
theorem dX12_hire_102 : decode cX12_hire 102 = .ok (.iload 9, 2) := by decide +kernel
theorem dX12_hire_104 : decode cX12_hire 104 = .ok (.invokestatic 199, 3) := by decide +kernel
theorem dX12_hire_107 : decode cX12_hire 107 = .ok (.ifCond .eq 13, 3) := by decide +kernel
theorem dX12_hire_110 : decode cX12_hire 110 = .ok (.aload_n 0, 1) := by decide +kernel
theorem dX12_hire_111 : decode cX12_hire 111 = .ok (.iload 9, 2) := by decide +kernel
theorem dX12_hire_113 : decode cX12_hire 113 = .ok (.iload_n 2, 1) := by decide +kernel
theorem dX12_hire_114 : decode cX12_hire 114 = .ok (.invokevirtual 186, 3) := by decide +kernel
theorem dX12_hire_117 : decode cX12_hire 117 = .ok (.goto 4, 3) := by decide +kernel
theorem dX12_hire_120 : decode cX12_hire 120 = .ok (.iconst 0, 1) := by decide +kernel
theorem dX12_hire_121 : decode cX12_hire 121 = .ok (.iadd, 1) := by decide +kernel
theorem dX12_hire_122 : decode cX12_hire 122 = .ok (.istore 8, 2) := by decide +kernel
theorem dX12_hire_124 : decode cX12_hire 124 = .ok (.iinc 9 1, 3) := by decide +kernel
theorem dX12_hire_127 : decode cX12_hire 127 = .ok (.goto (-64), 3) := by decide +kernel
theorem dX12_hire_130 : decode cX12_hire 130 = .ok (.iload 7, 2) := by decide +kernel
theorem dX12_hire_132 : decode cX12_hire 132 = .ok (.iload_n 1, 1) := by decide +kernel
theorem dX12_hire_133 : decode cX12_hire 133 = .ok (.if_icmp .gt 14, 3) := by decide +kernel
theorem dX12_hire_136 : decode cX12_hire 136 = .ok (.iload 8, 2) := by decide +kernel
theorem dX12_hire_138 : decode cX12_hire 138 = .ok (.iload 5, 2) := by decide +kernel
theorem dX12_hire_140 : decode cX12_hire 140 = .ok (.if_icmp .le 7, 3) := by decide +kernel
theorem dX12_hire_143 : decode cX12_hire 143 = .ok (.iconst 1, 1) := by decide +kernel
theorem dX12_hire_144 : decode cX12_hire 144 = .ok (.goto 4, 3) := by decide +kernel
theorem dX12_hire_147 : decode cX12_hire 147 = .ok (.iconst 0, 1) := by decide +kernel
theorem dX12_hire_148 : decode cX12_hire 148 = .ok (.istore 9, 2) := by decide +kernel
theorem dX12_hire_150 : decode cX12_hire 150 = .ok (.iload 9, 2) := by decide +kernel
theorem dX12_hire_152 : decode cX12_hire 152 = .ok (.ifCond .eq 8, 3) := by decide +kernel
theorem dX12_hire_155 : decode cX12_hire 155 = .ok (.iload 6, 2) := by decide +kernel
theorem dX12_hire_157 : decode cX12_hire 157 = .ok (.goto 5, 3) := by decide +kernel
theorem dX12_hire_160 : decode cX12_hire 160 = .ok (.iload 4, 2) := by decide +kernel
theorem dX12_hire_162 : decode cX12_hire 162 = .ok (.istore 4, 2) := by decide +kernel
theorem dX12_hire_164 : decode cX12_hire 164 = .ok (.iload 9, 2) := by decide +kernel
theorem dX12_hire_166 : decode cX12_hire 166 = .ok (.ifCond .eq 8, 3) := by decide +kernel
theorem dX12_hire_169 : decode cX12_hire 169 = .ok (.iload 8, 2) := by decide +kernel
theorem dX12_hire_171 : decode cX12_hire 171 = .ok (.goto 5, 3) := by decide +kernel
theorem dX12_hire_174 : decode cX12_hire 174 = .ok (.iload 5, 2) := by decide +kernel
theorem dX12_hire_176 : decode cX12_hire 176 = .ok (.istore 5, 2) := by decide +kernel
theorem dX12_hire_178 : decode cX12_hire 178 = .ok (.iinc 6 1, 3) := by decide +kernel
theorem dX12_hire_181 : decode cX12_hire 181 = .ok (.goto (-138), 3) := by decide +kernel
theorem dX12_hire_184 : decode cX12_hire 184 = .ok (.iload_n 3, 1) := by decide +kernel
theorem dX12_hire_185 : decode cX12_hire 185 = .ok (.ifCond .ne 8, 3) := by decide +kernel
theorem dX12_hire_188 : decode cX12_hire 188 = .ok (.iload 4, 2) := by decide +kernel
theorem dX12_hire_190 : decode cX12_hire 190 = .ok (.goto 5, 3) := by decide +kernel
theorem dX12_hire_193 : decode cX12_hire 193 = .ok (.iload 5, 2) := by decide +kernel
theorem dX12_hire_195 : decode cX12_hire 195 = .ok (.ireturn, 1) := by decide +kernel
theorem dX12_nextBags_0 : decode cX12_nextBags 0 = .ok (.aload_n 0, 1) := by decide +kernel
theorem dX12_nextBags_1 : decode cX12_nextBags 1 = .ok (.getfield 77, 3) := by decide +kernel
theorem dX12_nextBags_4 : decode cX12_nextBags 4 = .ok (.iconst 2, 1) := by decide +kernel
theorem dX12_nextBags_5 : decode cX12_nextBags 5 = .ok (.isub, 1) := by decide +kernel
theorem dX12_nextBags_6 : decode cX12_nextBags 6 = .ok (.istore_n 1, 1) := by decide +kernel
theorem dX12_nextBags_7 : decode cX12_nextBags 7 = .ok (.iload_n 1, 1) := by decide +kernel
theorem dX12_nextBags_8 : decode cX12_nextBags 8 = .ok (.ifCond .lt 26, 3) := by decide +kernel
theorem dX12_nextBags_11 : decode cX12_nextBags 11 = .ok (.aload_n 0, 1) := by decide +kernel
theorem dX12_nextBags_12 : decode cX12_nextBags 12 = .ok (.getfield 58, 3) := by decide +kernel
theorem dX12_nextBags_15 : decode cX12_nextBags 15 = .ok (.iload_n 1, 1) := by decide +kernel
theorem dX12_nextBags_16 : decode cX12_nextBags 16 = .ok (.iaload, 1) := by decide +kernel
theorem dX12_nextBags_17 : decode cX12_nextBags 17 = .ok (.aload_n 0, 1) := by decide +kernel
theorem dX12_nextBags_18 : decode cX12_nextBags 18 = .ok (.getfield 58, 3) := by decide +kernel
theorem dX12_nextBags_21 : decode cX12_nextBags 21 = .ok (.iload_n 1, 1) := by decide +kernel
theorem dX12_nextBags_22 : decode cX12_nextBags 22 = .ok (.iconst 1, 1) := by decide +kernel
theorem dX12_nextBags_23 : decode cX12_nextBags 23 = .ok (.iadd, 1) := by decide +kernel
theorem dX12_nextBags_24 : decode cX12_nextBags 24 = .ok (.iaload, 1) := by decide +kernel
theorem dX12_nextBags_25 : decode cX12_nextBags 25 = .ok (.if_icmp .le 9, 3) := by decide +kernel
theorem dX12_nextBags_28 : decode cX12_nextBags 28 = .ok (.iinc 1 (-1), 3) := by decide +kernel
theorem dX12_nextBags_31 : decode cX12_nextBags 31 = .ok (.goto (-24), 3) := by decide +kernel
theorem dX12_nextBags_34 : decode cX12_nextBags 34 = .ok (.iload_n 1, 1) := by decide +kernel
theorem dX12_nextBags_35 : decode cX12_nextBags 35 = .ok (.ifCond .ge 5, 3) := by decide +kernel
theorem dX12_nextBags_38 : decode cX12_nextBags 38 = .ok (.iconst 0, 1) := by decide +kernel
theorem dX12_nextBags_39 : decode cX12_nextBags 39 = .ok (.ireturn, 1) := by decide +kernel
theorem dX12_nextBags_40 : decode cX12_nextBags 40 = .ok (.aload_n 0, 1) := by decide +kernel
theorem dX12_nextBags_41 : decode cX12_nextBags 41 = .ok (.getfield 77, 3) := by decide +kernel
theorem dX12_nextBags_44 : decode cX12_nextBags 44 = .ok (.iconst 1, 1) := by decide +kernel
theorem dX12_nextBags_45 : decode cX12_nextBags 45 = .ok (.isub, 1) := by decide +kernel
theorem dX12_nextBags_46 : decode cX12_nextBags 46 = .ok (.istore_n 2, 1) := by decide +kernel
theorem dX12_nextBags_47 : decode cX12_nextBags 47 = .ok (.aload_n 0, 1) := by decide +kernel
theorem dX12_nextBags_48 : decode cX12_nextBags 48 = .ok (.getfield 58, 3) := by decide +kernel
theorem dX12_nextBags_51 : decode cX12_nextBags 51 = .ok (.iload_n 2, 1) := by decide +kernel
theorem dX12_nextBags_52 : decode cX12_nextBags 52 = .ok (.iaload, 1) := by decide +kernel
theorem dX12_nextBags_53 : decode cX12_nextBags 53 = .ok (.aload_n 0, 1) := by decide +kernel
theorem dX12_nextBags_54 : decode cX12_nextBags 54 = .ok (.getfield 58, 3) := by decide +kernel
theorem dX12_nextBags_57 : decode cX12_nextBags 57 = .ok (.iload_n 1, 1) := by decide +kernel
theorem dX12_nextBags_58 : decode cX12_nextBags 58 = .ok (.iaload, 1) := by decide +kernel
theorem dX12_nextBags_59 : decode cX12_nextBags 59 = .ok (.if_icmp .ge 9, 3) := by decide +kernel
theorem dX12_nextBags_62 : decode cX12_nextBags 62 = .ok (.iinc 2 (-1), 3) := by decide +kernel
theorem dX12_nextBags_65 : decode cX12_nextBags 65 = .ok (.goto (-18), 3) := by decide +kernel
theorem dX12_nextBags_68 : decode cX12_nextBags 68 = .ok (.aload_n 0, 1) := by decide +kernel
theorem dX12_nextBags_69 : decode cX12_nextBags 69 = .ok (.getfield 58, 3) := by decide +kernel
theorem dX12_nextBags_72 : decode cX12_nextBags 72 = .ok (.iload_n 1, 1) := by decide +kernel
theorem dX12_nextBags_73 : decode cX12_nextBags 73 = .ok (.iaload, 1) := by decide +kernel
theorem dX12_nextBags_74 : decode cX12_nextBags 74 = .ok (.istore_n 3, 1) := by decide +kernel
theorem dX12_nextBags_75 : decode cX12_nextBags 75 = .ok (.aload_n 0, 1) := by decide +kernel
theorem dX12_nextBags_76 : decode cX12_nextBags 76 = .ok (.getfield 58, 3) := by decide +kernel
theorem dX12_nextBags_79 : decode cX12_nextBags 79 = .ok (.iload_n 1, 1) := by decide +kernel
theorem dX12_nextBags_80 : decode cX12_nextBags 80 = .ok (.aload_n 0, 1) := by decide +kernel
theorem dX12_nextBags_81 : decode cX12_nextBags 81 = .ok (.getfield 58, 3) := by decide +kernel
theorem dX12_nextBags_84 : decode cX12_nextBags 84 = .ok (.iload_n 2, 1) := by decide +kernel
theorem dX12_nextBags_85 : decode cX12_nextBags 85 = .ok (.iaload, 1) := by decide +kernel
theorem dX12_nextBags_86 : decode cX12_nextBags 86 = .ok (.iastore, 1) := by decide +kernel
theorem dX12_nextBags_87 : decode cX12_nextBags 87 = .ok (.aload_n 0, 1) := by decide +kernel
theorem dX12_nextBags_88 : decode cX12_nextBags 88 = .ok (.getfield 58, 3) := by decide +kernel
theorem dX12_nextBags_91 : decode cX12_nextBags 91 = .ok (.iload_n 2, 1) := by decide +kernel
theorem dX12_nextBags_92 : decode cX12_nextBags 92 = .ok (.iload_n 3, 1) := by decide +kernel
theorem dX12_nextBags_93 : decode cX12_nextBags 93 = .ok (.iastore, 1) := by decide +kernel
theorem dX12_nextBags_94 : decode cX12_nextBags 94 = .ok (.iload_n 1, 1) := by decide +kernel
theorem dX12_nextBags_95 : decode cX12_nextBags 95 = .ok (.iconst 1, 1) := by decide +kernel
theorem dX12_nextBags_96 : decode cX12_nextBags 96 = .ok (.iadd, 1) := by decide +kernel
theorem dX12_nextBags_97 : decode cX12_nextBags 97 = .ok (.istore 4, 2) := by decide +kernel
theorem dX12_nextBags_99 : decode cX12_nextBags 99 = .ok (.aload_n 0, 1) := by decide +kernel
theorem dX12_nextBags_100 : decode cX12_nextBags 100 = .ok (.getfield 77, 3) := by decide +kernel
theorem dX12_nextBags_103 : decode cX12_nextBags 103 = .ok (.iconst 1, 1) := by decide +kernel
theorem dX12_nextBags_104 : decode cX12_nextBags 104 = .ok (.isub, 1) := by decide +kernel
theorem dX12_nextBags_105 : decode cX12_nextBags 105 = .ok (.istore 5, 2) := by decide +kernel
theorem dX12_nextBags_107 : decode cX12_nextBags 107 = .ok (.iload 4, 2) := by decide +kernel
theorem dX12_nextBags_109 : decode cX12_nextBags 109 = .ok (.iload 5, 2) := by decide +kernel
theorem dX12_nextBags_111 : decode cX12_nextBags 111 = .ok (.if_icmp .ge 42, 3) := by decide +kernel
theorem dX12_nextBags_114 : decode cX12_nextBags 114 = .ok (.aload_n 0, 1) := by decide +kernel
theorem dX12_nextBags_115 : decode cX12_nextBags 115 = .ok (.getfield 58, 3) := by decide +kernel
theorem dX12_nextBags_118 : decode cX12_nextBags 118 = .ok (.iload 4, 2) := by decide +kernel
theorem dX12_nextBags_120 : decode cX12_nextBags 120 = .ok (.iaload, 1) := by decide +kernel
theorem dX12_nextBags_121 : decode cX12_nextBags 121 = .ok (.istore_n 3, 1) := by decide +kernel
theorem dX12_nextBags_122 : decode cX12_nextBags 122 = .ok (.aload_n 0, 1) := by decide +kernel
theorem dX12_nextBags_123 : decode cX12_nextBags 123 = .ok (.getfield 58, 3) := by decide +kernel
theorem dX12_nextBags_126 : decode cX12_nextBags 126 = .ok (.iload 4, 2) := by decide +kernel
theorem dX12_nextBags_128 : decode cX12_nextBags 128 = .ok (.aload_n 0, 1) := by decide +kernel
theorem dX12_nextBags_129 : decode cX12_nextBags 129 = .ok (.getfield 58, 3) := by decide +kernel
theorem dX12_nextBags_132 : decode cX12_nextBags 132 = .ok (.iload 5, 2) := by decide +kernel
theorem dX12_nextBags_134 : decode cX12_nextBags 134 = .ok (.iaload, 1) := by decide +kernel
theorem dX12_nextBags_135 : decode cX12_nextBags 135 = .ok (.iastore, 1) := by decide +kernel
theorem dX12_nextBags_136 : decode cX12_nextBags 136 = .ok (.aload_n 0, 1) := by decide +kernel
theorem dX12_nextBags_137 : decode cX12_nextBags 137 = .ok (.getfield 58, 3) := by decide +kernel
theorem dX12_nextBags_140 : decode cX12_nextBags 140 = .ok (.iload 5, 2) := by decide +kernel
theorem dX12_nextBags_142 : decode cX12_nextBags 142 = .ok (.iload_n 3, 1) := by decide +kernel
theorem dX12_nextBags_143 : decode cX12_nextBags 143 = .ok (.iastore, 1) := by decide +kernel
theorem dX12_nextBags_144 : decode cX12_nextBags 144 = .ok (.iinc 4 1, 3) := by decide +kernel
theorem dX12_nextBags_147 : decode cX12_nextBags 147 = .ok (.iinc 5 (-1), 3) := by decide +kernel
theorem dX12_nextBags_150 : decode cX12_nextBags 150 = .ok (.goto (-43), 3) := by decide +kernel
theorem dX12_nextBags_153 : decode cX12_nextBags 153 = .ok (.iconst 1, 1) := by decide +kernel
theorem dX12_nextBags_154 : decode cX12_nextBags 154 = .ok (.ireturn, 1) := by decide +kernel
theorem dX12_shelves_0 : decode cX12_shelves 0 = .ok (.iload_n 1, 1) := by decide +kernel
theorem dX12_shelves_1 : decode cX12_shelves 1 = .ok (.iconst 0, 1) := by decide +kernel
theorem dX12_shelves_2 : decode cX12_shelves 2 = .ok (.bipush 20, 2) := by decide +kernel
theorem dX12_shelves_4 : decode cX12_shelves 4 = .ok (.invokestatic 93, 3) := by decide +kernel
theorem dX12_shelves_7 : decode cX12_shelves 7 = .ok (.ifCond .eq 26, 3) := by decide +kernel
theorem dX12_shelves_10 : decode cX12_shelves 10 = .ok (.iload_n 2, 1) := by decide +kernel
theorem dX12_shelves_11 : decode cX12_shelves 11 = .ok (.iconst 0, 1) := by decide +kernel
theorem dX12_shelves_12 : decode cX12_shelves 12 = .ok (.bipush 9, 2) := by decide +kernel
theorem dX12_shelves_14 : decode cX12_shelves 14 = .ok (.invokestatic 93, 3) := by decide +kernel
theorem dX12_shelves_17 : decode cX12_shelves 17 = .ok (.ifCond .eq 16, 3) := by decide +kernel
theorem dX12_shelves_20 : decode cX12_shelves 20 = .ok (.iload_n 3, 1) := by decide +kernel
theorem dX12_shelves_21 : decode cX12_shelves 21 = .ok (.iconst (-1), 1) := by decide +kernel
theorem dX12_shelves_22 : decode cX12_shelves 22 = .ok (.if_icmp .eq 16, 3) := by decide +kernel
theorem dX12_shelves_25 : decode cX12_shelves 25 = .ok (.aload_n 0, 1) := by decide +kernel
theorem dX12_shelves_26 : decode cX12_shelves 26 = .ok (.iload_n 3, 1) := by decide +kernel
theorem dX12_shelves_27 : decode cX12_shelves 27 = .ok (.invokevirtual 108, 3) := by decide +kernel
theorem dX12_shelves_30 : decode cX12_shelves 30 = .ok (.ifCond .ne 8, 3) := by decide +kernel
theorem dX12_shelves_33 : decode cX12_shelves 33 = .ok (.aload_n 0, 1) := by decide +kernel
theorem dX12_shelves_34 : decode cX12_shelves 34 = .ok (.invokevirtual 219, 3) := by decide +kernel
theorem dX12_shelves_37 : decode cX12_shelves 37 = .ok (.ireturn, 1) := by decide +kernel
theorem dX12_shelves_38 : decode cX12_shelves 38 = .ok (.iconst 0, 1) := by decide +kernel
theorem dX12_shelves_39 : decode cX12_shelves 39 = .ok (.istore 4, 2) := by decide +kernel
theorem dX12_shelves_41 : decode cX12_shelves 41 = .ok (.iload 4, 2) := by decide +kernel
theorem dX12_shelves_43 : decode cX12_shelves 43 = .ok (.aload_n 0, 1) := by decide +kernel
theorem dX12_shelves_44 : decode cX12_shelves 44 = .ok (.getfield 77, 3) := by decide +kernel
theorem dX12_shelves_47 : decode cX12_shelves 47 = .ok (.if_icmp .ge 18, 3) := by decide +kernel
theorem dX12_shelves_50 : decode cX12_shelves 50 = .ok (.aload_n 0, 1) := by decide +kernel
theorem dX12_shelves_51 : decode cX12_shelves 51 = .ok (.getfield 58, 3) := by decide +kernel
theorem dX12_shelves_54 : decode cX12_shelves 54 = .ok (.iload 4, 2) := by decide +kernel
theorem dX12_shelves_56 : decode cX12_shelves 56 = .ok (.iload 4, 2) := by decide +kernel
theorem dX12_shelves_58 : decode cX12_shelves 58 = .ok (.iastore, 1) := by decide +kernel
theorem dX12_shelves_59 : decode cX12_shelves 59 = .ok (.iinc 4 1, 3) := by decide +kernel
theorem dX12_shelves_62 : decode cX12_shelves 62 = .ok (.goto (-21), 3) := by decide +kernel
theorem dX12_shelves_65 : decode cX12_shelves 65 = .ok (.iconst (-1), 1) := by decide +kernel
theorem dX12_shelves_66 : decode cX12_shelves 66 = .ok (.istore 4, 2) := by decide +kernel
theorem dX12_shelves_68 : decode cX12_shelves 68 = .ok (.aload_n 0, 1) := by decide +kernel
theorem dX12_shelves_69 : decode cX12_shelves 69 = .ok (.getfield 77, 3) := by decide +kernel
theorem dX12_shelves_72 : decode cX12_shelves 72 = .ok (.ifCond .le 7, 3) := by decide +kernel
theorem dX12_shelves_75 : decode cX12_shelves 75 = .ok (.iconst 1, 1) := by decide +kernel
theorem dX12_shelves_76 : decode cX12_shelves 76 = .ok (.goto 4, 3) := by decide +kernel
theorem dX12_shelves_79 : decode cX12_shelves 79 = .ok (.iconst 0, 1) := by decide +kernel
theorem dX12_shelves_80 : decode cX12_shelves 80 = .ok (.istore 5, 2) := by decide +kernel
theorem dX12_shelves_82 : decode cX12_shelves 82 = .ok (.iload 5, 2) := by decide +kernel
theorem dX12_shelves_84 : decode cX12_shelves 84 = .ok (.ifCond .eq 113, 3) := by decide +kernel
theorem dX12_shelves_87 : decode cX12_shelves 87 = .ok (.ldc 218, 2) := by decide +kernel
theorem dX12_shelves_89 : decode cX12_shelves 89 = .ok (.istore 6, 2) := by decide +kernel
theorem dX12_shelves_91 : decode cX12_shelves 91 = .ok (.iconst 0, 1) := by decide +kernel
theorem dX12_shelves_92 : decode cX12_shelves 92 = .ok (.istore 7, 2) := by decide +kernel
theorem dX12_shelves_94 : decode cX12_shelves 94 = .ok (.iload 7, 2) := by decide +kernel
theorem dX12_shelves_96 : decode cX12_shelves 96 = .ok (.aload_n 0, 1) := by decide +kernel
theorem dX12_shelves_97 : decode cX12_shelves 97 = .ok (.getfield 77, 3) := by decide +kernel
theorem dX12_shelves_100 : decode cX12_shelves 100 = .ok (.if_icmp .ge 33, 3) := by decide +kernel
theorem dX12_shelves_103 : decode cX12_shelves 103 = .ok (.iload 6, 2) := by decide +kernel
theorem dX12_shelves_105 : decode cX12_shelves 105 = .ok (.aload_n 0, 1) := by decide +kernel
theorem dX12_shelves_106 : decode cX12_shelves 106 = .ok (.iload 7, 2) := by decide +kernel
theorem dX12_shelves_108 : decode cX12_shelves 108 = .ok (.iload_n 1, 1) := by decide +kernel
theorem dX12_shelves_109 : decode cX12_shelves 109 = .ok (.iload_n 2, 1) := by decide +kernel
theorem dX12_shelves_110 : decode cX12_shelves 110 = .ok (.aload_n 0, 1) := by decide +kernel
theorem dX12_shelves_111 : decode cX12_shelves 111 = .ok (.getfield 58, 3) := by decide +kernel
theorem dX12_shelves_114 : decode cX12_shelves 114 = .ok (.iload 7, 2) := by decide +kernel
theorem dX12_shelves_116 : decode cX12_shelves 116 = .ok (.iaload, 1) := by decide +kernel
theorem dX12_shelves_117 : decode cX12_shelves 117 = .ok (.imul, 1) := by decide +kernel
theorem dX12_shelves_118 : decode cX12_shelves 118 = .ok (.iadd, 1) := by decide +kernel
theorem dX12_shelves_119 : decode cX12_shelves 119 = .ok (.invokevirtual 186, 3) := by decide +kernel
theorem dX12_shelves_122 : decode cX12_shelves 122 = .ok (.invokestatic 180, 3) := by decide +kernel
theorem dX12_shelves_125 : decode cX12_shelves 125 = .ok (.istore 6, 2) := by decide +kernel
theorem dX12_shelves_127 : decode cX12_shelves 127 = .ok (.iinc 7 1, 3) := by decide +kernel
theorem dX12_shelves_130 : decode cX12_shelves 130 = .ok (.goto (-36), 3) := by decide +kernel
theorem dX12_shelves_133 : decode cX12_shelves 133 = .ok (.iconst 0, 1) := by decide +kernel
theorem dX12_shelves_134 : decode cX12_shelves 134 = .ok (.istore 7, 2) := by decide +kernel
theorem dX12_shelves_136 : decode cX12_shelves 136 = .ok (.iload 7, 2) := by decide +kernel
theorem dX12_shelves_138 : decode cX12_shelves 138 = .ok (.aload_n 0, 1) := by decide +kernel
theorem dX12_shelves_139 : decode cX12_shelves 139 = .ok (.getfield 77, 3) := by decide +kernel
theorem dX12_shelves_142 : decode cX12_shelves 142 = .ok (.if_icmp .ge 30, 3) := by decide +kernel
theorem dX12_shelves_145 : decode cX12_shelves 145 = .ok (.iload 6, 2) := by decide +kernel
theorem dX12_shelves_147 : decode cX12_shelves 147 = .ok (.iload 4, 2) := by decide +kernel
theorem dX12_shelves_149 : decode cX12_shelves 149 = .ok (.if_icmp .le 23, 3) := by decide +kernel
theorem dX12_shelves_152 : decode cX12_shelves 152 = .ok (.aload_n 0, 1) := by decide +kernel
theorem dX12_shelves_153 : decode cX12_shelves 153 = .ok (.getfield 61, 3) := by decide +kernel
theorem dX12_shelves_156 : decode cX12_shelves 156 = .ok (.iload 7, 2) := by decide +kernel
theorem dX12_shelves_158 : decode cX12_shelves 158 = .ok (.aload_n 0, 1) := by decide +kernel
theorem dX12_shelves_159 : decode cX12_shelves 159 = .ok (.getfield 58, 3) := by decide +kernel
theorem dX12_shelves_162 : decode cX12_shelves 162 = .ok (.iload 7, 2) := by decide +kernel
theorem dX12_shelves_164 : decode cX12_shelves 164 = .ok (.iaload, 1) := by decide +kernel
theorem dX12_shelves_165 : decode cX12_shelves 165 = .ok (.iastore, 1) := by decide +kernel
theorem dX12_shelves_166 : decode cX12_shelves 166 = .ok (.iinc 7 1, 3) := by decide +kernel
theorem dX12_shelves_169 : decode cX12_shelves 169 = .ok (.goto (-33), 3) := by decide +kernel
theorem dX12_shelves_172 : decode cX12_shelves 172 = .ok (.iload 6, 2) := by decide +kernel
theorem dX12_shelves_174 : decode cX12_shelves 174 = .ok (.iload 4, 2) := by decide +kernel
theorem dX12_shelves_176 : decode cX12_shelves 176 = .ok (.if_icmp .le 8, 3) := by decide +kernel
theorem dX12_shelves_179 : decode cX12_shelves 179 = .ok (.iload 6, 2) := by decide +kernel
theorem dX12_shelves_181 : decode cX12_shelves 181 = .ok (.goto 5, 3) := by decide +kernel
theorem dX12_shelves_184 : decode cX12_shelves 184 = .ok (.iload 4, 2) := by decide +kernel
theorem dX12_shelves_186 : decode cX12_shelves 186 = .ok (.istore 4, 2) := by decide +kernel
theorem dX12_shelves_188 : decode cX12_shelves 188 = .ok (.aload_n 0, 1) := by decide +kernel
theorem dX12_shelves_189 : decode cX12_shelves 189 = .ok (.invokevirtual 225, 3) := by decide +kernel
theorem dX12_shelves_192 : decode cX12_shelves 192 = .ok (.istore 5, 2) := by decide +kernel
theorem dX12_shelves_194 : decode cX12_shelves 194 = .ok (.goto (-112), 3) := by decide +kernel
theorem dX12_shelves_197 : decode cX12_shelves 197 = .ok (.iload_n 3, 1) := by decide +kernel
theorem dX12_shelves_198 : decode cX12_shelves 198 = .ok (.iconst (-1), 1) := by decide +kernel
theorem dX12_shelves_199 : decode cX12_shelves 199 = .ok (.if_icmp .ne 19, 3) := by decide +kernel
theorem dX12_shelves_202 : decode cX12_shelves 202 = .ok (.aload_n 0, 1) := by decide +kernel
theorem dX12_shelves_203 : decode cX12_shelves 203 = .ok (.getfield 77, 3) := by decide +kernel
theorem dX12_shelves_206 : decode cX12_shelves 206 = .ok (.ifCond .ne 7, 3) := by decide +kernel
theorem dX12_shelves_209 : decode cX12_shelves 209 = .ok (.iconst 0, 1) := by decide +kernel
theorem dX12_shelves_210 : decode cX12_shelves 210 = .ok (.goto 14, 3) := by decide +kernel
theorem dX12_shelves_213 : decode cX12_shelves 213 = .ok (.iload 4, 2) := by decide +kernel
theorem dX12_shelves_215 : decode cX12_shelves 215 = .ok (.goto 9, 3) := by decide +kernel
theorem dX12_shelves_218 : decode cX12_shelves 218 = .ok (.aload_n 0, 1) := by decide +kernel
theorem dX12_shelves_219 : decode cX12_shelves 219 = .ok (.getfield 61, 3) := by decide +kernel
theorem dX12_shelves_222 : decode cX12_shelves 222 = .ok (.iload_n 3, 1) := by decide +kernel
theorem dX12_shelves_223 : decode cX12_shelves 223 = .ok (.iaload, 1) := by decide +kernel
theorem dX12_shelves_224 : decode cX12_shelves 224 = .ok (.ireturn, 1) := by decide +kernel
theorem dX12_note_0 : decode cX12_note 0 = .ok (.aload_n 0, 1) := by decide +kernel
theorem dX12_note_1 : decode cX12_note 1 = .ok (.iload_n 1, 1) := by decide +kernel
theorem dX12_note_2 : decode cX12_note 2 = .ok (.invokevirtual 108, 3) := by decide +kernel
theorem dX12_note_5 : decode cX12_note 5 = .ok (.ifCond .eq 35, 3) := by decide +kernel
theorem dX12_note_8 : decode cX12_note 8 = .ok (.iload_n 2, 1) := by decide +kernel
theorem dX12_note_9 : decode cX12_note 9 = .ok (.iconst 0, 1) := by decide +kernel
theorem dX12_note_10 : decode cX12_note 10 = .ok (.bipush 99, 2) := by decide +kernel
theorem dX12_note_12 : decode cX12_note 12 = .ok (.invokestatic 93, 3) := by decide +kernel
theorem dX12_note_15 : decode cX12_note 15 = .ok (.ifCond .eq 25, 3) := by decide +kernel
theorem dX12_note_18 : decode cX12_note 18 = .ok (.iload_n 3, 1) := by decide +kernel
theorem dX12_note_19 : decode cX12_note 19 = .ok (.iconst 0, 1) := by decide +kernel
theorem dX12_note_20 : decode cX12_note 20 = .ok (.sipush 2000, 3) := by decide +kernel
theorem dX12_note_23 : decode cX12_note 23 = .ok (.invokestatic 93, 3) := by decide +kernel
theorem dX12_note_26 : decode cX12_note 26 = .ok (.ifCond .eq 14, 3) := by decide +kernel
theorem dX12_note_29 : decode cX12_note 29 = .ok (.iload 4, 2) := by decide +kernel
theorem dX12_note_31 : decode cX12_note 31 = .ok (.iconst 0, 1) := by decide +kernel
theorem dX12_note_32 : decode cX12_note 32 = .ok (.bipush 99, 2) := by decide +kernel
theorem dX12_note_34 : decode cX12_note 34 = .ok (.invokestatic 93, 3) := by decide +kernel
theorem dX12_note_37 : decode cX12_note 37 = .ok (.ifCond .ne 8, 3) := by decide +kernel
theorem dX12_note_40 : decode cX12_note 40 = .ok (.aload_n 0, 1) := by decide +kernel
theorem dX12_note_41 : decode cX12_note 41 = .ok (.invokevirtual 97, 3) := by decide +kernel
theorem dX12_note_44 : decode cX12_note 44 = .ok (.ireturn, 1) := by decide +kernel
theorem dX12_note_45 : decode cX12_note 45 = .ok (.aload_n 0, 1) := by decide +kernel
theorem dX12_note_46 : decode cX12_note 46 = .ok (.getfield 87, 3) := by decide +kernel
theorem dX12_note_49 : decode cX12_note 49 = .ok (.bipush 6, 2) := by decide +kernel
theorem dX12_note_51 : decode cX12_note 51 = .ok (.if_icmp .ne 8, 3) := by decide +kernel
theorem dX12_note_54 : decode cX12_note 54 = .ok (.aload_n 0, 1) := by decide +kernel
theorem dX12_note_55 : decode cX12_note 55 = .ok (.invokevirtual 101, 3) := by decide +kernel
theorem dX12_note_58 : decode cX12_note 58 = .ok (.ireturn, 1) := by decide +kernel
theorem dX12_note_59 : decode cX12_note 59 = .ok (.aload_n 0, 1) := by decide +kernel
theorem dX12_note_60 : decode cX12_note 60 = .ok (.getfield 28, 3) := by decide +kernel
theorem dX12_note_63 : decode cX12_note 63 = .ok (.aload_n 0, 1) := by decide +kernel
theorem dX12_note_64 : decode cX12_note 64 = .ok (.getfield 87, 3) := by decide +kernel
theorem dX12_note_67 : decode cX12_note 67 = .ok (.iload_n 1, 1) := by decide +kernel
theorem dX12_note_68 : decode cX12_note 68 = .ok (.iastore, 1) := by decide +kernel
theorem dX12_note_69 : decode cX12_note 69 = .ok (.aload_n 0, 1) := by decide +kernel
theorem dX12_note_70 : decode cX12_note 70 = .ok (.getfield 31, 3) := by decide +kernel
theorem dX12_note_73 : decode cX12_note 73 = .ok (.aload_n 0, 1) := by decide +kernel
theorem dX12_note_74 : decode cX12_note 74 = .ok (.getfield 87, 3) := by decide +kernel
theorem dX12_note_77 : decode cX12_note 77 = .ok (.iload_n 2, 1) := by decide +kernel
theorem dX12_note_78 : decode cX12_note 78 = .ok (.iastore, 1) := by decide +kernel
theorem dX12_note_79 : decode cX12_note 79 = .ok (.aload_n 0, 1) := by decide +kernel
theorem dX12_note_80 : decode cX12_note 80 = .ok (.getfield 34, 3) := by decide +kernel
theorem dX12_note_83 : decode cX12_note 83 = .ok (.aload_n 0, 1) := by decide +kernel
theorem dX12_note_84 : decode cX12_note 84 = .ok (.getfield 87, 3) := by decide +kernel
theorem dX12_note_87 : decode cX12_note 87 = .ok (.iload_n 3, 1) := by decide +kernel
theorem dX12_note_88 : decode cX12_note 88 = .ok (.iastore, 1) := by decide +kernel
theorem dX12_note_89 : decode cX12_note 89 = .ok (.aload_n 0, 1) := by decide +kernel
theorem dX12_note_90 : decode cX12_note 90 = .ok (.getfield 37, 3) := by decide +kernel
theorem dX12_note_93 : decode cX12_note 93 = .ok (.aload_n 0, 1) := by decide +kernel
theorem dX12_note_94 : decode cX12_note 94 = .ok (.getfield 87, 3) := by decide +kernel
theorem dX12_note_97 : decode cX12_note 97 = .ok (.iload 4, 2) := by decide +kernel
theorem dX12_note_99 : decode cX12_note 99 = .ok (.iastore, 1) := by decide +kernel
theorem dX12_note_100 : decode cX12_note 100 = .ok (.aload_n 0, 1) := by decide +kernel
theorem dX12_note_101 : decode cX12_note 101 = .ok (.dup, 1) := by decide +kernel
theorem dX12_note_102 : decode cX12_note 102 = .ok (.getfield 87, 3) := by decide +kernel
theorem dX12_note_105 : decode cX12_note 105 = .ok (.iconst 1, 1) := by decide +kernel
theorem dX12_note_106 : decode cX12_note 106 = .ok (.iadd, 1) := by decide +kernel
theorem dX12_note_107 : decode cX12_note 107 = .ok (.putfield 87, 3) := by decide +kernel
theorem dX12_note_110 : decode cX12_note 110 = .ok (.aload_n 0, 1) := by decide +kernel
theorem dX12_note_111 : decode cX12_note 111 = .ok (.getfield 87, 3) := by decide +kernel
theorem dX12_note_114 : decode cX12_note 114 = .ok (.ireturn, 1) := by decide +kernel
theorem dX12_forget_0 : decode cX12_forget 0 = .ok (.aload_n 0, 1) := by decide +kernel
theorem dX12_forget_1 : decode cX12_forget 1 = .ok (.getfield 87, 3) := by decide +kernel
theorem dX12_forget_4 : decode cX12_forget 4 = .ok (.istore_n 1, 1) := by decide +kernel
theorem dX12_forget_5 : decode cX12_forget 5 = .ok (.aload_n 0, 1) := by decide +kernel
theorem dX12_forget_6 : decode cX12_forget 6 = .ok (.iconst 0, 1) := by decide +kernel
theorem dX12_forget_7 : decode cX12_forget 7 = .ok (.putfield 87, 3) := by decide +kernel
theorem dX12_forget_10 : decode cX12_forget 10 = .ok (.iload_n 1, 1) := by decide +kernel
theorem dX12_forget_11 : decode cX12_forget 11 = .ok (.ireturn, 1) := by decide +kernel
theorem dX12_isSo_0 : decode cX12_isSo 0 = .ok (.iconst 1, 1) := by decide +kernel
theorem dX12_isSo_1 : decode cX12_isSo 1 = .ok (.istore 4, 2) := by decide +kernel
theorem dX12_isSo_3 : decode cX12_isSo 3 = .ok (.iconst 0, 1) := by decide +kernel
theorem dX12_isSo_4 : decode cX12_isSo 4 = .ok (.istore 5, 2) := by decide +kernel
theorem dX12_isSo_6 : decode cX12_isSo 6 = .ok (.iload 5, 2) := by decide +kernel
theorem dX12_isSo_8 : decode cX12_isSo 8 = .ok (.aload_n 0, 1) := by decide +kernel
theorem dX12_isSo_9 : decode cX12_isSo 9 = .ok (.getfield 87, 3) := by decide +kernel
theorem dX12_isSo_12 : decode cX12_isSo 12 = .ok (.if_icmp .ge 73, 3) := by decide +kernel
theorem dX12_isSo_15 : decode cX12_isSo 15 = .ok (.iload_n 2, 1) := by decide +kernel
theorem dX12_isSo_16 : decode cX12_isSo 16 = .ok (.aload_n 0, 1) := by decide +kernel
theorem dX12_isSo_17 : decode cX12_isSo 17 = .ok (.getfield 31, 3) := by decide +kernel
theorem dX12_isSo_20 : decode cX12_isSo 20 = .ok (.iload 5, 2) := by decide +kernel
theorem dX12_isSo_22 : decode cX12_isSo 22 = .ok (.iaload, 1) := by decide +kernel
theorem dX12_isSo_23 : decode cX12_isSo 23 = .ok (.iload_n 3, 1) := by decide +kernel
theorem dX12_isSo_24 : decode cX12_isSo 24 = .ok (.aload_n 0, 1) := by decide +kernel
theorem dX12_isSo_25 : decode cX12_isSo 25 = .ok (.getfield 37, 3) := by decide +kernel
theorem dX12_isSo_28 : decode cX12_isSo 28 = .ok (.iload 5, 2) := by decide +kernel
theorem dX12_isSo_30 : decode cX12_isSo 30 = .ok (.iaload, 1) := by decide +kernel
theorem dX12_isSo_31 : decode cX12_isSo 31 = .ok (.invokestatic 183, 3) := by decide +kernel
theorem dX12_isSo_34 : decode cX12_isSo 34 = .ok (.aload_n 0, 1) := by decide +kernel
theorem dX12_isSo_35 : decode cX12_isSo 35 = .ok (.getfield 34, 3) := by decide +kernel
theorem dX12_isSo_38 : decode cX12_isSo 38 = .ok (.iload 5, 2) := by decide +kernel
theorem dX12_isSo_40 : decode cX12_isSo 40 = .ok (.iaload, 1) := by decide +kernel
theorem dX12_isSo_41 : decode cX12_isSo 41 = .ok (.if_icmp .ne 7, 3) := by decide +kernel
theorem dX12_isSo_44 : decode cX12_isSo 44 = .ok (.iconst 1, 1) := by decide +kernel
theorem dX12_isSo_45 : decode cX12_isSo 45 = .ok (.goto 4, 3) := by decide +kernel
theorem dX12_isSo_48 : decode cX12_isSo 48 = .ok (.iconst 0, 1) := by decide +kernel
theorem dX12_isSo_49 : decode cX12_isSo 49 = .ok (.istore 6, 2) := by decide +kernel
theorem dX12_isSo_51 : decode cX12_isSo 51 = .ok (.iload 4, 2) := by decide +kernel
theorem dX12_isSo_53 : decode cX12_isSo 53 = .ok (.ifCond .eq 23, 3) := by decide +kernel
theorem dX12_isSo_56 : decode cX12_isSo 56 = .ok (.aload_n 0, 1) := by decide +kernel
theorem dX12_isSo_57 : decode cX12_isSo 57 = .ok (.getfield 28, 3) := by decide +kernel
theorem dX12_isSo_60 : decode cX12_isSo 60 = .ok (.iload 5, 2) := by decide +kernel
theorem dX12_isSo_62 : decode cX12_isSo 62 = .ok (.iaload, 1) := by decide +kernel
theorem dX12_isSo_63 : decode cX12_isSo 63 = .ok (.iload_n 1, 1) := by decide +kernel
theorem dX12_isSo_64 : decode cX12_isSo 64 = .ok (.if_icmp .ne 8, 3) := by decide +kernel
theorem dX12_isSo_67 : decode cX12_isSo 67 = .ok (.iload 6, 2) := by decide +kernel
theorem dX12_isSo_69 : decode cX12_isSo 69 = .ok (.ifCond .eq 7, 3) := by decide +kernel
theorem dX12_isSo_72 : decode cX12_isSo 72 = .ok (.iconst 1, 1) := by decide +kernel
theorem dX12_isSo_73 : decode cX12_isSo 73 = .ok (.goto 4, 3) := by decide +kernel
theorem dX12_isSo_76 : decode cX12_isSo 76 = .ok (.iconst 0, 1) := by decide +kernel
theorem dX12_isSo_77 : decode cX12_isSo 77 = .ok (.istore 4, 2) := by decide +kernel
theorem dX12_isSo_79 : decode cX12_isSo 79 = .ok (.iinc 5 1, 3) := by decide +kernel
theorem dX12_isSo_82 : decode cX12_isSo 82 = .ok (.goto (-76), 3) := by decide +kernel
theorem dX12_isSo_85 : decode cX12_isSo 85 = .ok (.iload 4, 2) := by decide +kernel
theorem dX12_isSo_87 : decode cX12_isSo 87 = .ok (.ireturn, 1) := by decide +kernel
theorem dX12_kindsOf_0 : decode cX12_kindsOf 0 = .ok (.iconst 0, 1) := by decide +kernel
theorem dX12_kindsOf_1 : decode cX12_kindsOf 1 = .ok (.istore_n 2, 1) := by decide +kernel
theorem dX12_kindsOf_2 : decode cX12_kindsOf 2 = .ok (.iconst 0, 1) := by decide +kernel
theorem dX12_kindsOf_3 : decode cX12_kindsOf 3 = .ok (.istore_n 3, 1) := by decide +kernel
theorem dX12_kindsOf_4 : decode cX12_kindsOf 4 = .ok (.iload_n 3, 1) := by decide +kernel
theorem dX12_kindsOf_5 : decode cX12_kindsOf 5 = .ok (.iconst 5, 1) := by decide +kernel
theorem dX12_kindsOf_6 : decode cX12_kindsOf 6 = .ok (.if_icmp .gt 34, 3) := by decide +kernel
theorem dX12_kindsOf_9 : decode cX12_kindsOf 9 = .ok (.iload_n 2, 1) := by decide +kernel
theorem dX12_kindsOf_10 : decode cX12_kindsOf 10 = .ok (.aload_n 0, 1) := by decide +kernel
theorem dX12_kindsOf_11 : decode cX12_kindsOf 11 = .ok (.iload_n 1, 1) := by decide +kernel
theorem dX12_kindsOf_12 : decode cX12_kindsOf 12 = .ok (.iload_n 3, 1) := by decide +kernel
theorem dX12_kindsOf_13 : decode cX12_kindsOf 13 = .ok (.aload_n 0, 1) := by decide +kernel
theorem dX12_kindsOf_14 : decode cX12_kindsOf 14 = .ok (.getfield 16, 3) := by decide +kernel
theorem dX12_kindsOf_17 : decode cX12_kindsOf 17 = .ok (.iload_n 1, 1) := by decide +kernel
theorem dX12_kindsOf_18 : decode cX12_kindsOf 18 = .ok (.iaload, 1) := by decide +kernel
theorem dX12_kindsOf_19 : decode cX12_kindsOf 19 = .ok (.invokevirtual 228, 3) := by decide +kernel
theorem dX12_kindsOf_22 : decode cX12_kindsOf 22 = .ok (.ifCond .eq 9, 3) := by decide +kernel
theorem dX12_kindsOf_25 : decode cX12_kindsOf 25 = .ok (.iconst 1, 1) := by decide +kernel
theorem dX12_kindsOf_26 : decode cX12_kindsOf 26 = .ok (.iload_n 3, 1) := by decide +kernel
theorem dX12_kindsOf_27 : decode cX12_kindsOf 27 = .ok (.ishl, 1) := by decide +kernel
theorem dX12_kindsOf_28 : decode cX12_kindsOf 28 = .ok (.goto 4, 3) := by decide +kernel
theorem dX12_kindsOf_31 : decode cX12_kindsOf 31 = .ok (.iconst 0, 1) := by decide +kernel
theorem dX12_kindsOf_32 : decode cX12_kindsOf 32 = .ok (.ior, 1) := by decide +kernel
theorem dX12_kindsOf_33 : decode cX12_kindsOf 33 = .ok (.istore_n 2, 1) := by decide +kernel
theorem dX12_kindsOf_34 : decode cX12_kindsOf 34 = .ok (.iinc 3 1, 3) := by decide +kernel
theorem dX12_kindsOf_37 : decode cX12_kindsOf 37 = .ok (.goto (-33), 3) := by decide +kernel
theorem dX12_kindsOf_40 : decode cX12_kindsOf 40 = .ok (.iload_n 2, 1) := by decide +kernel
theorem dX12_kindsOf_41 : decode cX12_kindsOf 41 = .ok (.ireturn, 1) := by decide +kernel
theorem dX12_is_0 : decode cX12_is 0 = .ok (.aload_n 0, 1) := by decide +kernel
theorem dX12_is_1 : decode cX12_is 1 = .ok (.iload_n 1, 1) := by decide +kernel
theorem dX12_is_2 : decode cX12_is 2 = .ok (.invokevirtual 108, 3) := by decide +kernel
theorem dX12_is_5 : decode cX12_is 5 = .ok (.ifCond .eq 12, 3) := by decide +kernel
theorem dX12_is_8 : decode cX12_is 8 = .ok (.iload_n 2, 1) := by decide +kernel
theorem dX12_is_9 : decode cX12_is 9 = .ok (.iconst 0, 1) := by decide +kernel
theorem dX12_is_10 : decode cX12_is 10 = .ok (.iconst 1, 1) := by decide +kernel
theorem dX12_is_11 : decode cX12_is 11 = .ok (.invokestatic 93, 3) := by decide +kernel
theorem dX12_is_14 : decode cX12_is 14 = .ok (.ifCond .ne 8, 3) := by decide +kernel
theorem dX12_is_17 : decode cX12_is 17 = .ok (.aload_n 0, 1) := by decide +kernel
theorem dX12_is_18 : decode cX12_is 18 = .ok (.invokevirtual 97, 3) := by decide +kernel
theorem dX12_is_21 : decode cX12_is 21 = .ok (.ireturn, 1) := by decide +kernel
theorem dX12_is_22 : decode cX12_is 22 = .ok (.iload_n 2, 1) := by decide +kernel
theorem dX12_is_23 : decode cX12_is 23 = .ok (.ifCond .ne 9, 3) := by decide +kernel
theorem dX12_is_26 : decode cX12_is 26 = .ok (.aload_n 0, 1) := by decide +kernel
theorem dX12_is_27 : decode cX12_is 27 = .ok (.iload_n 1, 1) := by decide +kernel
theorem dX12_is_28 : decode cX12_is 28 = .ok (.invokevirtual 231, 3) := by decide +kernel
theorem dX12_is_31 : decode cX12_is 31 = .ok (.ireturn, 1) := by decide +kernel
theorem dX12_is_32 : decode cX12_is 32 = .ok (.iconst 0, 1) := by decide +kernel
theorem dX12_is_33 : decode cX12_is 33 = .ok (.istore_n 3, 1) := by decide +kernel
theorem dX12_is_34 : decode cX12_is 34 = .ok (.iconst 0, 1) := by decide +kernel
theorem dX12_is_35 : decode cX12_is 35 = .ok (.istore 4, 2) := by decide +kernel
theorem dX12_is_37 : decode cX12_is 37 = .ok (.iload 4, 2) := by decide +kernel
theorem dX12_is_39 : decode cX12_is 39 = .ok (.bipush 12, 2) := by decide +kernel
theorem dX12_is_41 : decode cX12_is 41 = .ok (.if_icmp .gt 36, 3) := by decide +kernel
theorem dX12_is_44 : decode cX12_is 44 = .ok (.iload_n 3, 1) := by decide +kernel
theorem dX12_is_45 : decode cX12_is 45 = .ok (.aload_n 0, 1) := by decide +kernel
theorem dX12_is_46 : decode cX12_is 46 = .ok (.iload_n 1, 1) := by decide +kernel
theorem dX12_is_47 : decode cX12_is 47 = .ok (.aload_n 0, 1) := by decide +kernel
theorem dX12_is_48 : decode cX12_is 48 = .ok (.getfield 13, 3) := by decide +kernel
theorem dX12_is_51 : decode cX12_is 51 = .ok (.iload_n 1, 1) := by decide +kernel
theorem dX12_is_52 : decode cX12_is 52 = .ok (.iaload, 1) := by decide +kernel
theorem dX12_is_53 : decode cX12_is 53 = .ok (.iload 4, 2) := by decide +kernel
theorem dX12_is_55 : decode cX12_is 55 = .ok (.invokevirtual 228, 3) := by decide +kernel
theorem dX12_is_58 : decode cX12_is 58 = .ok (.ifCond .eq 10, 3) := by decide +kernel
theorem dX12_is_61 : decode cX12_is 61 = .ok (.iconst 1, 1) := by decide +kernel
theorem dX12_is_62 : decode cX12_is 62 = .ok (.iload 4, 2) := by decide +kernel
theorem dX12_is_64 : decode cX12_is 64 = .ok (.ishl, 1) := by decide +kernel
theorem dX12_is_65 : decode cX12_is 65 = .ok (.goto 4, 3) := by decide +kernel
theorem dX12_is_68 : decode cX12_is 68 = .ok (.iconst 0, 1) := by decide +kernel
theorem dX12_is_69 : decode cX12_is 69 = .ok (.ior, 1) := by decide +kernel
theorem dX12_is_70 : decode cX12_is 70 = .ok (.istore_n 3, 1) := by decide +kernel
theorem dX12_is_71 : decode cX12_is 71 = .ok (.iinc 4 1, 3) := by decide +kernel
theorem dX12_is_74 : decode cX12_is 74 = .ok (.goto (-37), 3) := by decide +kernel
theorem dX12_is_77 : decode cX12_is 77 = .ok (.iload_n 3, 1) := by decide +kernel
theorem dX12_is_78 : decode cX12_is 78 = .ok (.ireturn, 1) := by decide +kernel
theorem dX12_alike_0 : decode cX12_alike 0 = .ok (.iconst 0, 1) := by decide +kernel
theorem dX12_alike_1 : decode cX12_alike 1 = .ok (.istore 4, 2) := by decide +kernel
theorem dX12_alike_3 : decode cX12_alike 3 = .ok (.iconst 0, 1) := by decide +kernel
theorem dX12_alike_4 : decode cX12_alike 4 = .ok (.istore 5, 2) := by decide +kernel
theorem dX12_alike_6 : decode cX12_alike 6 = .ok (.iload 5, 2) := by decide +kernel
theorem dX12_alike_8 : decode cX12_alike 8 = .ok (.iconst 5, 1) := by decide +kernel
theorem dX12_alike_9 : decode cX12_alike 9 = .ok (.if_icmp .gt 118, 3) := by decide +kernel
theorem dX12_alike_12 : decode cX12_alike 12 = .ok (.iconst 0, 1) := by decide +kernel
theorem dX12_alike_13 : decode cX12_alike 13 = .ok (.istore 6, 2) := by decide +kernel
theorem dX12_alike_15 : decode cX12_alike 15 = .ok (.iconst 0, 1) := by decide +kernel
theorem dX12_alike_16 : decode cX12_alike 16 = .ok (.istore 7, 2) := by decide +kernel
theorem dX12_alike_18 : decode cX12_alike 18 = .ok (.iload 7, 2) := by decide +kernel
theorem dX12_alike_20 : decode cX12_alike 20 = .ok (.iconst 5, 1) := by decide +kernel
theorem dX12_alike_21 : decode cX12_alike 21 = .ok (.if_icmp .gt 84, 3) := by decide +kernel
theorem dX12_alike_24 : decode cX12_alike 24 = .ok (.iload 5, 2) := by decide +kernel
theorem dX12_alike_26 : decode cX12_alike 26 = .ok (.iload_n 3, 1) := by decide +kernel
theorem dX12_alike_27 : decode cX12_alike 27 = .ok (.aload_n 0, 1) := by decide +kernel
theorem dX12_alike_28 : decode cX12_alike 28 = .ok (.getfield 16, 3) := by decide +kernel
theorem dX12_alike_31 : decode cX12_alike 31 = .ok (.iload_n 1, 1) := by decide +kernel
theorem dX12_alike_32 : decode cX12_alike 32 = .ok (.iaload, 1) := by decide +kernel
theorem dX12_alike_33 : decode cX12_alike 33 = .ok (.aload_n 0, 1) := by decide +kernel
theorem dX12_alike_34 : decode cX12_alike 34 = .ok (.getfield 81, 3) := by decide +kernel
theorem dX12_alike_37 : decode cX12_alike 37 = .ok (.invokestatic 183, 3) := by decide +kernel
theorem dX12_alike_40 : decode cX12_alike 40 = .ok (.iload 7, 2) := by decide +kernel
theorem dX12_alike_42 : decode cX12_alike 42 = .ok (.iload_n 3, 1) := by decide +kernel
theorem dX12_alike_43 : decode cX12_alike 43 = .ok (.aload_n 0, 1) := by decide +kernel
theorem dX12_alike_44 : decode cX12_alike 44 = .ok (.getfield 16, 3) := by decide +kernel
theorem dX12_alike_47 : decode cX12_alike 47 = .ok (.iload_n 1, 1) := by decide +kernel
theorem dX12_alike_48 : decode cX12_alike 48 = .ok (.iaload, 1) := by decide +kernel
theorem dX12_alike_49 : decode cX12_alike 49 = .ok (.aload_n 0, 1) := by decide +kernel
theorem dX12_alike_50 : decode cX12_alike 50 = .ok (.getfield 81, 3) := by decide +kernel
theorem dX12_alike_53 : decode cX12_alike 53 = .ok (.invokestatic 183, 3) := by decide +kernel
theorem dX12_alike_56 : decode cX12_alike 56 = .ok (.if_icmp .ne 7, 3) := by decide +kernel
theorem dX12_alike_59 : decode cX12_alike 59 = .ok (.iconst 1, 1) := by decide +kernel
theorem dX12_alike_60 : decode cX12_alike 60 = .ok (.goto 4, 3) := by decide +kernel
theorem dX12_alike_63 : decode cX12_alike 63 = .ok (.iconst 0, 1) := by decide +kernel
theorem dX12_alike_64 : decode cX12_alike 64 = .ok (.istore 8, 2) := by decide +kernel
theorem dX12_alike_66 : decode cX12_alike 66 = .ok (.iload 6, 2) := by decide +kernel
theorem dX12_alike_68 : decode cX12_alike 68 = .ok (.iload_n 2, 1) := by decide +kernel
theorem dX12_alike_69 : decode cX12_alike 69 = .ok (.iload 5, 2) := by decide +kernel
theorem dX12_alike_71 : decode cX12_alike 71 = .ok (.invokestatic 199, 3) := by decide +kernel
theorem dX12_alike_74 : decode cX12_alike 74 = .ok (.ifCond .eq 21, 3) := by decide +kernel
theorem dX12_alike_77 : decode cX12_alike 77 = .ok (.iload_n 2, 1) := by decide +kernel
theorem dX12_alike_78 : decode cX12_alike 78 = .ok (.iload 7, 2) := by decide +kernel
theorem dX12_alike_80 : decode cX12_alike 80 = .ok (.invokestatic 199, 3) := by decide +kernel
theorem dX12_alike_83 : decode cX12_alike 83 = .ok (.ifCond .eq 12, 3) := by decide +kernel
theorem dX12_alike_86 : decode cX12_alike 86 = .ok (.iload 8, 2) := by decide +kernel
theorem dX12_alike_88 : decode cX12_alike 88 = .ok (.ifCond .eq 7, 3) := by decide +kernel
theorem dX12_alike_91 : decode cX12_alike 91 = .ok (.iconst 1, 1) := by decide +kernel
theorem dX12_alike_92 : decode cX12_alike 92 = .ok (.goto 4, 3) := by decide +kernel
theorem dX12_alike_95 : decode cX12_alike 95 = .ok (.iconst 0, 1) := by decide +kernel
theorem dX12_alike_96 : decode cX12_alike 96 = .ok (.iadd, 1) := by decide +kernel
theorem dX12_alike_97 : decode cX12_alike 97 = .ok (.istore 6, 2) := by decide +kernel
theorem dX12_alike_99 : decode cX12_alike 99 = .ok (.iinc 7 1, 3) := by decide +kernel
theorem dX12_alike_102 : decode cX12_alike 102 = .ok (.goto (-84), 3) := by decide +kernel
theorem dX12_alike_105 : decode cX12_alike 105 = .ok (.iload 6, 2) := by decide +kernel
theorem dX12_alike_107 : decode cX12_alike 107 = .ok (.iload 4, 2) := by decide +kernel
theorem dX12_alike_109 : decode cX12_alike 109 = .ok (.if_icmp .le 8, 3) := by decide +kernel
theorem dX12_alike_112 : decode cX12_alike 112 = .ok (.iload 6, 2) := by decide +kernel
theorem dX12_alike_114 : decode cX12_alike 114 = .ok (.goto 5, 3) := by decide +kernel
theorem dX12_alike_117 : decode cX12_alike 117 = .ok (.iload 4, 2) := by decide +kernel
theorem dX12_alike_119 : decode cX12_alike 119 = .ok (.istore 4, 2) := by decide +kernel
theorem dX12_alike_121 : decode cX12_alike 121 = .ok (.iinc 5 1, 3) := by decide +kernel
theorem dX12_alike_124 : decode cX12_alike 124 = .ok (.goto (-118), 3) := by decide +kernel
theorem dX12_alike_127 : decode cX12_alike 127 = .ok (.iload 4, 2) := by decide +kernel
theorem dX12_alike_129 : decode cX12_alike 129 = .ok (.ireturn, 1) := by decide +kernel
theorem dX12_next_0 : decode cX12_next 0 = .ok (.aload_n 0, 1) := by decide +kernel
theorem dX12_next_1 : decode cX12_next 1 = .ok (.iload_n 1, 1) := by decide +kernel
theorem dX12_next_2 : decode cX12_next 2 = .ok (.invokevirtual 108, 3) := by decide +kernel
theorem dX12_next_5 : decode cX12_next 5 = .ok (.ifCond .ne 8, 3) := by decide +kernel
theorem dX12_next_8 : decode cX12_next 8 = .ok (.aload_n 0, 1) := by decide +kernel
theorem dX12_next_9 : decode cX12_next 9 = .ok (.invokevirtual 97, 3) := by decide +kernel
theorem dX12_next_12 : decode cX12_next 12 = .ok (.ireturn, 1) := by decide +kernel
theorem dX12_next_13 : decode cX12_next 13 = .ok (.aload_n 0, 1) := by decide +kernel
theorem dX12_next_14 : decode cX12_next 14 = .ok (.iload_n 1, 1) := by decide +kernel
theorem dX12_next_15 : decode cX12_next 15 = .ok (.invokevirtual 231, 3) := by decide +kernel
theorem dX12_next_18 : decode cX12_next 18 = .ok (.istore_n 2, 1) := by decide +kernel
theorem dX12_next_19 : decode cX12_next 19 = .ok (.iload_n 2, 1) := by decide +kernel
theorem dX12_next_20 : decode cX12_next 20 = .ok (.ifCond .ne 7, 3) := by decide +kernel
theorem dX12_next_23 : decode cX12_next 23 = .ok (.iconst (-1), 1) := by decide +kernel
theorem dX12_next_24 : decode cX12_next 24 = .ok (.goto 4, 3) := by decide +kernel
theorem dX12_next_27 : decode cX12_next 27 = .ok (.iconst 0, 1) := by decide +kernel
theorem dX12_next_28 : decode cX12_next 28 = .ok (.istore_n 3, 1) := by decide +kernel
theorem dX12_next_29 : decode cX12_next 29 = .ok (.iconst 1, 1) := by decide +kernel
theorem dX12_next_30 : decode cX12_next 30 = .ok (.istore 4, 2) := by decide +kernel
theorem dX12_next_32 : decode cX12_next 32 = .ok (.iload 4, 2) := by decide +kernel
theorem dX12_next_34 : decode cX12_next 34 = .ok (.bipush 20, 2) := by decide +kernel
theorem dX12_next_36 : decode cX12_next 36 = .ok (.if_icmp .gt 38, 3) := by decide +kernel
theorem dX12_next_39 : decode cX12_next 39 = .ok (.iload_n 2, 1) := by decide +kernel
theorem dX12_next_40 : decode cX12_next 40 = .ok (.ifCond .eq 34, 3) := by decide +kernel
theorem dX12_next_43 : decode cX12_next 43 = .ok (.aload_n 0, 1) := by decide +kernel
theorem dX12_next_44 : decode cX12_next 44 = .ok (.iload_n 1, 1) := by decide +kernel
theorem dX12_next_45 : decode cX12_next 45 = .ok (.iload_n 2, 1) := by decide +kernel
theorem dX12_next_46 : decode cX12_next 46 = .ok (.iload 4, 2) := by decide +kernel
theorem dX12_next_48 : decode cX12_next 48 = .ok (.invokevirtual 234, 3) := by decide +kernel
theorem dX12_next_51 : decode cX12_next 51 = .ok (.aload_n 0, 1) := by decide +kernel
theorem dX12_next_52 : decode cX12_next 52 = .ok (.iload_n 1, 1) := by decide +kernel
theorem dX12_next_53 : decode cX12_next 53 = .ok (.iload_n 2, 1) := by decide +kernel
theorem dX12_next_54 : decode cX12_next 54 = .ok (.iload_n 3, 1) := by decide +kernel
theorem dX12_next_55 : decode cX12_next 55 = .ok (.invokevirtual 234, 3) := by decide +kernel
theorem dX12_next_58 : decode cX12_next 58 = .ok (.if_icmp .ge 8, 3) := by decide +kernel
theorem dX12_next_61 : decode cX12_next 61 = .ok (.iload 4, 2) := by decide +kernel
theorem dX12_next_63 : decode cX12_next 63 = .ok (.goto 4, 3) := by decide +kernel
theorem dX12_next_66 : decode cX12_next 66 = .ok (.iload_n 3, 1) := by decide +kernel
theorem dX12_next_67 : decode cX12_next 67 = .ok (.istore_n 3, 1) := by decide +kernel
theorem dX12_next_68 : decode cX12_next 68 = .ok (.iinc 4 1, 3) := by decide +kernel
theorem dX12_next_71 : decode cX12_next 71 = .ok (.goto (-39), 3) := by decide +kernel
theorem dX12_next_74 : decode cX12_next 74 = .ok (.iload_n 3, 1) := by decide +kernel
theorem dX12_next_75 : decode cX12_next 75 = .ok (.ireturn, 1) := by decide +kernel
theorem dX12_gets_0 : decode cX12_gets 0 = .ok (.aload_n 0, 1) := by decide +kernel
theorem dX12_gets_1 : decode cX12_gets 1 = .ok (.getfield 13, 3) := by decide +kernel
theorem dX12_gets_4 : decode cX12_gets 4 = .ok (.iload_n 1, 1) := by decide +kernel
theorem dX12_gets_5 : decode cX12_gets 5 = .ok (.iaload, 1) := by decide +kernel
theorem dX12_gets_6 : decode cX12_gets 6 = .ok (.aload_n 0, 1) := by decide +kernel
theorem dX12_gets_7 : decode cX12_gets 7 = .ok (.getfield 19, 3) := by decide +kernel
theorem dX12_gets_10 : decode cX12_gets 10 = .ok (.iload_n 1, 1) := by decide +kernel
theorem dX12_gets_11 : decode cX12_gets 11 = .ok (.iaload, 1) := by decide +kernel
theorem dX12_gets_12 : decode cX12_gets 12 = .ok (.aload_n 0, 1) := by decide +kernel
theorem dX12_gets_13 : decode cX12_gets 13 = .ok (.iload_n 1, 1) := by decide +kernel
theorem dX12_gets_14 : decode cX12_gets 14 = .ok (.iconst 2, 1) := by decide +kernel
theorem dX12_gets_15 : decode cX12_gets 15 = .ok (.invokevirtual 196, 3) := by decide +kernel
theorem dX12_gets_18 : decode cX12_gets 18 = .ok (.aload_n 0, 1) := by decide +kernel
theorem dX12_gets_19 : decode cX12_gets 19 = .ok (.getfield 81, 3) := by decide +kernel
theorem dX12_gets_22 : decode cX12_gets 22 = .ok (.invokestatic 183, 3) := by decide +kernel
theorem dX12_gets_25 : decode cX12_gets 25 = .ok (.istore 4, 2) := by decide +kernel
theorem dX12_gets_27 : decode cX12_gets 27 = .ok (.iload_n 2, 1) := by decide +kernel
theorem dX12_gets_28 : decode cX12_gets 28 = .ok (.ifCond .eq 15, 3) := by decide +kernel
theorem dX12_gets_31 : decode cX12_gets 31 = .ok (.iload_n 3, 1) := by decide +kernel
theorem dX12_gets_32 : decode cX12_gets 32 = .ok (.ifCond .eq 7, 3) := by decide +kernel
theorem dX12_gets_35 : decode cX12_gets 35 = .ok (.iconst 1, 1) := by decide +kernel
theorem dX12_gets_36 : decode cX12_gets 36 = .ok (.goto 18, 3) := by decide +kernel
theorem dX12_gets_39 : decode cX12_gets 39 = .ok (.iconst 3, 1) := by decide +kernel
theorem dX12_gets_40 : decode cX12_gets 40 = .ok (.goto 14, 3) := by decide +kernel
theorem dX12_gets_43 : decode cX12_gets 43 = .ok (.aload_n 0, 1) := by decide +kernel
theorem dX12_gets_44 : decode cX12_gets 44 = .ok (.iload_n 1, 1) := by decide +kernel
theorem dX12_gets_45 : decode cX12_gets 45 = .ok (.invokevirtual 215, 3) := by decide +kernel
theorem dX12_gets_48 : decode cX12_gets 48 = .ok (.iload 4, 2) := by decide +kernel
theorem dX12_gets_50 : decode cX12_gets 50 = .ok (.isub, 1) := by decide +kernel
theorem dX12_gets_51 : decode cX12_gets 51 = .ok (.bipush 10, 2) := by decide +kernel
theorem dX12_gets_53 : decode cX12_gets 53 = .ok (.idiv, 1) := by decide +kernel
theorem dX12_gets_54 : decode cX12_gets 54 = .ok (.ireturn, 1) := by decide +kernel
theorem dX12_two_0 : decode cX12_two 0 = .ok (.aload_n 0, 1) := by decide +kernel
theorem dX12_two_1 : decode cX12_two 1 = .ok (.iload_n 1, 1) := by decide +kernel
theorem dX12_two_2 : decode cX12_two 2 = .ok (.invokevirtual 108, 3) := by decide +kernel
theorem dX12_two_5 : decode cX12_two 5 = .ok (.ifCond .eq 16, 3) := by decide +kernel
theorem dX12_two_8 : decode cX12_two 8 = .ok (.aload_n 0, 1) := by decide +kernel
theorem dX12_two_9 : decode cX12_two 9 = .ok (.iload_n 2, 1) := by decide +kernel
theorem dX12_two_10 : decode cX12_two 10 = .ok (.invokevirtual 108, 3) := by decide +kernel
theorem dX12_two_13 : decode cX12_two 13 = .ok (.ifCond .eq 8, 3) := by decide +kernel
theorem dX12_two_16 : decode cX12_two 16 = .ok (.iload_n 1, 1) := by decide +kernel
theorem dX12_two_17 : decode cX12_two 17 = .ok (.iload_n 2, 1) := by decide +kernel
theorem dX12_two_18 : decode cX12_two 18 = .ok (.if_icmp .ne 8, 3) := by decide +kernel
theorem dX12_two_21 : decode cX12_two 21 = .ok (.aload_n 0, 1) := by decide +kernel
theorem dX12_two_22 : decode cX12_two 22 = .ok (.invokevirtual 97, 3) := by decide +kernel
theorem dX12_two_25 : decode cX12_two 25 = .ok (.ireturn, 1) := by decide +kernel
theorem dX12_two_26 : decode cX12_two 26 = .ok (.iconst 0, 1) := by decide +kernel
theorem dX12_two_27 : decode cX12_two 27 = .ok (.istore_n 3, 1) := by decide +kernel
theorem dX12_two_28 : decode cX12_two 28 = .ok (.iconst 0, 1) := by decide +kernel
theorem dX12_two_29 : decode cX12_two 29 = .ok (.istore 4, 2) := by decide +kernel
theorem dX12_two_31 : decode cX12_two 31 = .ok (.iload 4, 2) := by decide +kernel
theorem dX12_two_33 : decode cX12_two 33 = .ok (.iconst 4, 1) := by decide +kernel
theorem dX12_two_34 : decode cX12_two 34 = .ok (.if_icmp .ge 118, 3) := by decide +kernel
theorem dX12_two_37 : decode cX12_two 37 = .ok (.iload 4, 2) := by decide +kernel
theorem dX12_two_39 : decode cX12_two 39 = .ok (.iconst 2, 1) := by decide +kernel
theorem dX12_two_40 : decode cX12_two 40 = .ok (.irem, 1) := by decide +kernel
theorem dX12_two_41 : decode cX12_two 41 = .ok (.iconst 1, 1) := by decide +kernel
theorem dX12_two_42 : decode cX12_two 42 = .ok (.if_icmp .ne 7, 3) := by decide +kernel
theorem dX12_two_45 : decode cX12_two 45 = .ok (.iconst 1, 1) := by decide +kernel
theorem dX12_two_46 : decode cX12_two 46 = .ok (.goto 4, 3) := by decide +kernel
theorem dX12_two_49 : decode cX12_two 49 = .ok (.iconst 0, 1) := by decide +kernel
theorem dX12_two_50 : decode cX12_two 50 = .ok (.istore 5, 2) := by decide +kernel
theorem dX12_two_52 : decode cX12_two 52 = .ok (.iload 4, 2) := by decide +kernel
theorem dX12_two_54 : decode cX12_two 54 = .ok (.iconst 1, 1) := by decide +kernel
theorem dX12_two_55 : decode cX12_two 55 = .ok (.if_icmp .le 7, 3) := by decide +kernel
theorem dX12_two_58 : decode cX12_two 58 = .ok (.iconst 1, 1) := by decide +kernel
theorem dX12_two_59 : decode cX12_two 59 = .ok (.goto 4, 3) := by decide +kernel
theorem dX12_two_62 : decode cX12_two 62 = .ok (.iconst 0, 1) := by decide +kernel
theorem dX12_two_63 : decode cX12_two 63 = .ok (.istore 6, 2) := by decide +kernel
theorem dX12_two_65 : decode cX12_two 65 = .ok (.aload_n 0, 1) := by decide +kernel
theorem dX12_two_66 : decode cX12_two 66 = .ok (.iload_n 1, 1) := by decide +kernel
theorem dX12_two_67 : decode cX12_two 67 = .ok (.iload 5, 2) := by decide +kernel
theorem dX12_two_69 : decode cX12_two 69 = .ok (.iload 6, 2) := by decide +kernel
theorem dX12_two_71 : decode cX12_two 71 = .ok (.invokevirtual 238, 3) := by decide +kernel
theorem dX12_two_74 : decode cX12_two 74 = .ok (.aload_n 0, 1) := by decide +kernel
theorem dX12_two_75 : decode cX12_two 75 = .ok (.iload_n 1, 1) := by decide +kernel
theorem dX12_two_76 : decode cX12_two 76 = .ok (.iload 5, 2) := by decide +kernel
theorem dX12_two_78 : decode cX12_two 78 = .ok (.ifCond .ne 7, 3) := by decide +kernel
theorem dX12_two_81 : decode cX12_two 81 = .ok (.iconst 1, 1) := by decide +kernel
theorem dX12_two_82 : decode cX12_two 82 = .ok (.goto 4, 3) := by decide +kernel
theorem dX12_two_85 : decode cX12_two 85 = .ok (.iconst 0, 1) := by decide +kernel
theorem dX12_two_86 : decode cX12_two 86 = .ok (.iload 6, 2) := by decide +kernel
theorem dX12_two_88 : decode cX12_two 88 = .ok (.invokevirtual 238, 3) := by decide +kernel
theorem dX12_two_91 : decode cX12_two 91 = .ok (.if_icmp .lt 36, 3) := by decide +kernel
theorem dX12_two_94 : decode cX12_two 94 = .ok (.aload_n 0, 1) := by decide +kernel
theorem dX12_two_95 : decode cX12_two 95 = .ok (.iload_n 2, 1) := by decide +kernel
theorem dX12_two_96 : decode cX12_two 96 = .ok (.iload 6, 2) := by decide +kernel
theorem dX12_two_98 : decode cX12_two 98 = .ok (.iload 5, 2) := by decide +kernel
theorem dX12_two_100 : decode cX12_two 100 = .ok (.invokevirtual 238, 3) := by decide +kernel
theorem dX12_two_103 : decode cX12_two 103 = .ok (.aload_n 0, 1) := by decide +kernel
theorem dX12_two_104 : decode cX12_two 104 = .ok (.iload_n 2, 1) := by decide +kernel
theorem dX12_two_105 : decode cX12_two 105 = .ok (.iload 6, 2) := by decide +kernel
theorem dX12_two_107 : decode cX12_two 107 = .ok (.ifCond .ne 7, 3) := by decide +kernel
theorem dX12_two_110 : decode cX12_two 110 = .ok (.iconst 1, 1) := by decide +kernel
theorem dX12_two_111 : decode cX12_two 111 = .ok (.goto 4, 3) := by decide +kernel
theorem dX12_two_114 : decode cX12_two 114 = .ok (.iconst 0, 1) := by decide +kernel
theorem dX12_two_115 : decode cX12_two 115 = .ok (.iload 5, 2) := by decide +kernel
theorem dX12_two_117 : decode cX12_two 117 = .ok (.invokevirtual 238, 3) := by decide +kernel
theorem dX12_two_120 : decode cX12_two 120 = .ok (.if_icmp .lt 7, 3) := by decide +kernel
theorem dX12_two_123 : decode cX12_two 123 = .ok (.iconst 1, 1) := by decide +kernel
theorem dX12_two_124 : decode cX12_two 124 = .ok (.goto 4, 3) := by decide +kernel
theorem dX12_two_127 : decode cX12_two 127 = .ok (.iconst 0, 1) := by decide +kernel
theorem dX12_two_128 : decode cX12_two 128 = .ok (.istore 7, 2) := by decide +kernel
theorem dX12_two_130 : decode cX12_two 130 = .ok (.iload_n 3, 1) := by decide +kernel
theorem dX12_two_131 : decode cX12_two 131 = .ok (.iload 7, 2) := by decide +kernel
theorem dX12_two_133 : decode cX12_two 133 = .ok (.ifCond .eq 10, 3) := by decide +kernel
theorem dX12_two_136 : decode cX12_two 136 = .ok (.iconst 1, 1) := by decide +kernel
theorem dX12_two_137 : decode cX12_two 137 = .ok (.iload 4, 2) := by decide +kernel
theorem dX12_two_139 : decode cX12_two 139 = .ok (.ishl, 1) := by decide +kernel
theorem dX12_two_140 : decode cX12_two 140 = .ok (.goto 4, 3) := by decide +kernel
theorem dX12_two_143 : decode cX12_two 143 = .ok (.iconst 0, 1) := by decide +kernel
theorem dX12_two_144 : decode cX12_two 144 = .ok (.ior, 1) := by decide +kernel
theorem dX12_two_145 : decode cX12_two 145 = .ok (.istore_n 3, 1) := by decide +kernel
theorem dX12_two_146 : decode cX12_two 146 = .ok (.iinc 4 1, 3) := by decide +kernel
theorem dX12_two_149 : decode cX12_two 149 = .ok (.goto (-118), 3) := by decide +kernel
theorem dX12_two_152 : decode cX12_two 152 = .ok (.iload_n 3, 1) := by decide +kernel
theorem dX12_two_153 : decode cX12_two 153 = .ok (.ireturn, 1) := by decide +kernel
theorem dX12_lay_0 : decode cX12_lay 0 = .ok (.lload_n 1, 1) := by decide +kernel
theorem dX12_lay_1 : decode cX12_lay 1 = .ok (.lstore 5, 2) := by decide +kernel
theorem dX12_lay_3 : decode cX12_lay 3 = .ok (.lload_n 3, 1) := by decide +kernel
theorem dX12_lay_4 : decode cX12_lay 4 = .ok (.lstore 7, 2) := by decide +kernel
theorem dX12_lay_6 : decode cX12_lay 6 = .ok (.lload 7, 2) := by decide +kernel
theorem dX12_lay_8 : decode cX12_lay 8 = .ok (.lconst 0, 1) := by decide +kernel
theorem dX12_lay_9 : decode cX12_lay 9 = .ok (.lcmp, 1) := by decide +kernel
theorem dX12_lay_10 : decode cX12_lay 10 = .ok (.ifCond .eq 21, 3) := by decide +kernel
theorem dX12_lay_13 : decode cX12_lay 13 = .ok (.lload 5, 2) := by decide +kernel
theorem dX12_lay_15 : decode cX12_lay 15 = .ok (.lload 7, 2) := by decide +kernel
theorem dX12_lay_17 : decode cX12_lay 17 = .ok (.lrem, 1) := by decide +kernel
theorem dX12_lay_18 : decode cX12_lay 18 = .ok (.lstore 9, 2) := by decide +kernel
theorem dX12_lay_20 : decode cX12_lay 20 = .ok (.lload 7, 2) := by decide +kernel
theorem dX12_lay_22 : decode cX12_lay 22 = .ok (.lstore 5, 2) := by decide +kernel
theorem dX12_lay_24 : decode cX12_lay 24 = .ok (.lload 9, 2) := by decide +kernel
theorem dX12_lay_26 : decode cX12_lay 26 = .ok (.lstore 7, 2) := by decide +kernel
theorem dX12_lay_28 : decode cX12_lay 28 = .ok (.goto (-22), 3) := by decide +kernel
theorem dX12_lay_31 : decode cX12_lay 31 = .ok (.aload_n 0, 1) := by decide +kernel
theorem dX12_lay_32 : decode cX12_lay 32 = .ok (.lload_n 1, 1) := by decide +kernel
theorem dX12_lay_33 : decode cX12_lay 33 = .ok (.lload 5, 2) := by decide +kernel
theorem dX12_lay_35 : decode cX12_lay 35 = .ok (.ldiv, 1) := by decide +kernel
theorem dX12_lay_36 : decode cX12_lay 36 = .ok (.putfield 242, 3) := by decide +kernel
theorem dX12_lay_39 : decode cX12_lay 39 = .ok (.aload_n 0, 1) := by decide +kernel
theorem dX12_lay_40 : decode cX12_lay 40 = .ok (.lload_n 3, 1) := by decide +kernel
theorem dX12_lay_41 : decode cX12_lay 41 = .ok (.lload 5, 2) := by decide +kernel
theorem dX12_lay_43 : decode cX12_lay 43 = .ok (.ldiv, 1) := by decide +kernel
theorem dX12_lay_44 : decode cX12_lay 44 = .ok (.putfield 64, 3) := by decide +kernel
theorem dX12_lay_47 : decode cX12_lay 47 = .ok (.return_, 1) := by decide +kernel
theorem dX12_winds_0 : decode cX12_winds 0 = .ok (.iload_n 1, 1) := by decide +kernel
theorem dX12_winds_1 : decode cX12_winds 1 = .ok (.iconst 0, 1) := by decide +kernel
theorem dX12_winds_2 : decode cX12_winds 2 = .ok (.sipush 999, 3) := by decide +kernel
theorem dX12_winds_5 : decode cX12_winds 5 = .ok (.invokestatic 93, 3) := by decide +kernel
theorem dX12_winds_8 : decode cX12_winds 8 = .ok (.ifCond .eq 13, 3) := by decide +kernel
theorem dX12_winds_11 : decode cX12_winds 11 = .ok (.iload_n 2, 1) := by decide +kernel
theorem dX12_winds_12 : decode cX12_winds 12 = .ok (.iconst 0, 1) := by decide +kernel
theorem dX12_winds_13 : decode cX12_winds 13 = .ok (.bipush 10, 2) := by decide +kernel
theorem dX12_winds_15 : decode cX12_winds 15 = .ok (.invokestatic 93, 3) := by decide +kernel
theorem dX12_winds_18 : decode cX12_winds 18 = .ok (.ifCond .ne 8, 3) := by decide +kernel
theorem dX12_winds_21 : decode cX12_winds 21 = .ok (.aload_n 0, 1) := by decide +kernel
theorem dX12_winds_22 : decode cX12_winds 22 = .ok (.invokevirtual 97, 3) := by decide +kernel
theorem dX12_winds_25 : decode cX12_winds 25 = .ok (.ireturn, 1) := by decide +kernel
theorem dX12_winds_26 : decode cX12_winds 26 = .ok (.iconst 0, 1) := by decide +kernel
theorem dX12_winds_27 : decode cX12_winds 27 = .ok (.istore_n 3, 1) := by decide +kernel
theorem dX12_winds_28 : decode cX12_winds 28 = .ok (.iconst 0, 1) := by decide +kernel
theorem dX12_winds_29 : decode cX12_winds 29 = .ok (.istore 4, 2) := by decide +kernel
theorem dX12_winds_31 : decode cX12_winds 31 = .ok (.iload 4, 2) := by decide +kernel
theorem dX12_winds_33 : decode cX12_winds 33 = .ok (.aload_n 0, 1) := by decide +kernel
theorem dX12_winds_34 : decode cX12_winds 34 = .ok (.getfield 77, 3) := by decide +kernel
theorem dX12_winds_37 : decode cX12_winds 37 = .ok (.if_icmp .ge 39, 3) := by decide +kernel
theorem dX12_winds_40 : decode cX12_winds 40 = .ok (.iload_n 3, 1) := by decide +kernel
theorem dX12_winds_41 : decode cX12_winds 41 = .ok (.aload_n 0, 1) := by decide +kernel
theorem dX12_winds_42 : decode cX12_winds 42 = .ok (.getfield 19, 3) := by decide +kernel
theorem dX12_winds_45 : decode cX12_winds 45 = .ok (.iload 4, 2) := by decide +kernel
theorem dX12_winds_47 : decode cX12_winds 47 = .ok (.iaload, 1) := by decide +kernel
theorem dX12_winds_48 : decode cX12_winds 48 = .ok (.aload_n 0, 1) := by decide +kernel
theorem dX12_winds_49 : decode cX12_winds 49 = .ok (.iload 4, 2) := by decide +kernel
theorem dX12_winds_51 : decode cX12_winds 51 = .ok (.invokevirtual 215, 3) := by decide +kernel
theorem dX12_winds_54 : decode cX12_winds 54 = .ok (.iload_n 1, 1) := by decide +kernel
theorem dX12_winds_55 : decode cX12_winds 55 = .ok (.if_icmp .ge 10, 3) := by decide +kernel
theorem dX12_winds_58 : decode cX12_winds 58 = .ok (.bipush 10, 2) := by decide +kernel
theorem dX12_winds_60 : decode cX12_winds 60 = .ok (.iload_n 2, 1) := by decide +kernel
theorem dX12_winds_61 : decode cX12_winds 61 = .ok (.isub, 1) := by decide +kernel
theorem dX12_winds_62 : decode cX12_winds 62 = .ok (.goto 5, 3) := by decide +kernel
theorem dX12_winds_65 : decode cX12_winds 65 = .ok (.bipush 10, 2) := by decide +kernel
theorem dX12_winds_67 : decode cX12_winds 67 = .ok (.imul, 1) := by decide +kernel
theorem dX12_winds_68 : decode cX12_winds 68 = .ok (.iadd, 1) := by decide +kernel
theorem dX12_winds_69 : decode cX12_winds 69 = .ok (.istore_n 3, 1) := by decide +kernel
theorem dX12_winds_70 : decode cX12_winds 70 = .ok (.iinc 4 1, 3) := by decide +kernel
theorem dX12_winds_73 : decode cX12_winds 73 = .ok (.goto (-42), 3) := by decide +kernel
theorem dX12_winds_76 : decode cX12_winds 76 = .ok (.aload_n 0, 1) := by decide +kernel
theorem dX12_winds_77 : decode cX12_winds 77 = .ok (.iload_n 3, 1) := by decide +kernel
theorem dX12_winds_78 : decode cX12_winds 78 = .ok (.i2l, 1) := by decide +kernel
theorem dX12_winds_79 : decode cX12_winds 79 = .ok (.ldc2_w 245, 3) := by decide +kernel
theorem dX12_winds_82 : decode cX12_winds 82 = .ok (.invokevirtual 247, 3) := by decide +kernel
theorem dX12_winds_85 : decode cX12_winds 85 = .ok (.iconst 1, 1) := by decide +kernel
theorem dX12_winds_86 : decode cX12_winds 86 = .ok (.ireturn, 1) := by decide +kernel
theorem dX12_years_0 : decode cX12_years 0 = .ok (.iload_n 1, 1) := by decide +kernel
theorem dX12_years_1 : decode cX12_years 1 = .ok (.iconst 0, 1) := by decide +kernel
theorem dX12_years_2 : decode cX12_years 2 = .ok (.ldc 251, 2) := by decide +kernel
theorem dX12_years_4 : decode cX12_years 4 = .ok (.invokestatic 93, 3) := by decide +kernel
theorem dX12_years_7 : decode cX12_years 7 = .ok (.ifCond .eq 13, 3) := by decide +kernel
theorem dX12_years_10 : decode cX12_years 10 = .ok (.iload_n 2, 1) := by decide +kernel
theorem dX12_years_11 : decode cX12_years 11 = .ok (.iconst 0, 1) := by decide +kernel
theorem dX12_years_12 : decode cX12_years 12 = .ok (.bipush 60, 2) := by decide +kernel
theorem dX12_years_14 : decode cX12_years 14 = .ok (.invokestatic 93, 3) := by decide +kernel
theorem dX12_years_17 : decode cX12_years 17 = .ok (.ifCond .ne 8, 3) := by decide +kernel
theorem dX12_years_20 : decode cX12_years 20 = .ok (.aload_n 0, 1) := by decide +kernel
theorem dX12_years_21 : decode cX12_years 21 = .ok (.invokevirtual 97, 3) := by decide +kernel
theorem dX12_years_24 : decode cX12_years 24 = .ok (.ireturn, 1) := by decide +kernel
theorem dX12_years_25 : decode cX12_years 25 = .ok (.aload_n 0, 1) := by decide +kernel
theorem dX12_years_26 : decode cX12_years 26 = .ok (.invokevirtual 252, 3) := by decide +kernel
theorem dX12_years_29 : decode cX12_years 29 = .ok (.iload_n 1, 1) := by decide +kernel
theorem dX12_years_30 : decode cX12_years 30 = .ok (.i2l, 1) := by decide +kernel
theorem dX12_years_31 : decode cX12_years 31 = .ok (.lstore_n 3, 1) := by decide +kernel
theorem dX12_years_32 : decode cX12_years 32 = .ok (.iconst 0, 1) := by decide +kernel
theorem dX12_years_33 : decode cX12_years 33 = .ok (.istore 5, 2) := by decide +kernel
theorem dX12_years_35 : decode cX12_years 35 = .ok (.iload 5, 2) := by decide +kernel
theorem dX12_years_37 : decode cX12_years 37 = .ok (.iload_n 2, 1) := by decide +kernel
theorem dX12_years_38 : decode cX12_years 38 = .ok (.if_icmp .ge 73, 3) := by decide +kernel
theorem dX12_years_41 : decode cX12_years 41 = .ok (.lload_n 3, 1) := by decide +kernel
theorem dX12_years_42 : decode cX12_years 42 = .ok (.ldc2_w 255, 3) := by decide +kernel
theorem dX12_years_45 : decode cX12_years 45 = .ok (.lmul, 1) := by decide +kernel
theorem dX12_years_46 : decode cX12_years 46 = .ok (.ldc2_w 257, 3) := by decide +kernel
theorem dX12_years_49 : decode cX12_years 49 = .ok (.ladd, 1) := by decide +kernel
theorem dX12_years_50 : decode cX12_years 50 = .ok (.ldc2_w 259, 3) := by decide +kernel
theorem dX12_years_53 : decode cX12_years 53 = .ok (.lrem, 1) := by decide +kernel
theorem dX12_years_54 : decode cX12_years 54 = .ok (.lstore_n 3, 1) := by decide +kernel
theorem dX12_years_55 : decode cX12_years 55 = .ok (.lload_n 3, 1) := by decide +kernel
theorem dX12_years_56 : decode cX12_years 56 = .ok (.ldc2_w 261, 3) := by decide +kernel
theorem dX12_years_59 : decode cX12_years 59 = .ok (.ldiv, 1) := by decide +kernel
theorem dX12_years_60 : decode cX12_years 60 = .ok (.ldc2_w 263, 3) := by decide +kernel
theorem dX12_years_63 : decode cX12_years 63 = .ok (.lrem, 1) := by decide +kernel
theorem dX12_years_64 : decode cX12_years 64 = .ok (.l2i, 1) := by decide +kernel
theorem dX12_years_65 : decode cX12_years 65 = .ok (.istore 6, 2) := by decide +kernel
theorem dX12_years_67 : decode cX12_years 67 = .ok (.lload_n 3, 1) := by decide +kernel
theorem dX12_years_68 : decode cX12_years 68 = .ok (.ldc2_w 265, 3) := by decide +kernel
theorem dX12_years_71 : decode cX12_years 71 = .ok (.ldiv, 1) := by decide +kernel
theorem dX12_years_72 : decode cX12_years 72 = .ok (.ldc2_w 267, 3) := by decide +kernel
theorem dX12_years_75 : decode cX12_years 75 = .ok (.lrem, 1) := by decide +kernel
theorem dX12_years_76 : decode cX12_years 76 = .ok (.l2i, 1) := by decide +kernel
theorem dX12_years_77 : decode cX12_years 77 = .ok (.istore 7, 2) := by decide +kernel
theorem dX12_years_79 : decode cX12_years 79 = .ok (.iload 7, 2) := by decide +kernel
theorem dX12_years_81 : decode cX12_years 81 = .ok (.ifCond .le 20, 3) := by decide +kernel
theorem dX12_years_84 : decode cX12_years 84 = .ok (.iload 6, 2) := by decide +kernel
theorem dX12_years_86 : decode cX12_years 86 = .ok (.aload_n 0, 1) := by decide +kernel
theorem dX12_years_87 : decode cX12_years 87 = .ok (.getfield 77, 3) := by decide +kernel
theorem dX12_years_90 : decode cX12_years 90 = .ok (.if_icmp .ge 11, 3) := by decide +kernel
theorem dX12_years_93 : decode cX12_years 93 = .ok (.aload_n 0, 1) := by decide +kernel
theorem dX12_years_94 : decode cX12_years 94 = .ok (.iload 6, 2) := by decide +kernel
theorem dX12_years_96 : decode cX12_years 96 = .ok (.iload 7, 2) := by decide +kernel
theorem dX12_years_98 : decode cX12_years 98 = .ok (.invokevirtual 205, 3) := by decide +kernel
theorem dX12_years_101 : decode cX12_years 101 = .ok (.aload_n 0, 1) := by decide +kernel
theorem dX12_years_102 : decode cX12_years 102 = .ok (.invokevirtual 212, 3) := by decide +kernel
theorem dX12_years_105 : decode cX12_years 105 = .ok (.iinc 5 1, 3) := by decide +kernel
theorem dX12_years_108 : decode cX12_years 108 = .ok (.goto (-73), 3) := by decide +kernel
theorem dX12_years_111 : decode cX12_years 111 = .ok (.aload_n 0, 1) := by decide +kernel
theorem dX12_years_112 : decode cX12_years 112 = .ok (.invokevirtual 269, 3) := by decide +kernel
theorem dX12_years_115 : decode cX12_years 115 = .ok (.istore 5, 2) := by decide +kernel
theorem dX12_years_117 : decode cX12_years 117 = .ok (.aload_n 0, 1) := by decide +kernel
theorem dX12_years_118 : decode cX12_years 118 = .ok (.invokevirtual 272, 3) := by decide +kernel
theorem dX12_years_121 : decode cX12_years 121 = .ok (.iload 5, 2) := by decide +kernel
theorem dX12_years_123 : decode cX12_years 123 = .ok (.ireturn, 1) := by decide +kernel
theorem dX12_part_0 : decode cX12_part 0 = .ok (.iload_n 1, 1) := by decide +kernel
theorem dX12_part_1 : decode cX12_part 1 = .ok (.ifCond .ne 10, 3) := by decide +kernel
theorem dX12_part_4 : decode cX12_part 4 = .ok (.aload_n 0, 1) := by decide +kernel
theorem dX12_part_5 : decode cX12_part 5 = .ok (.getfield 242, 3) := by decide +kernel
theorem dX12_part_8 : decode cX12_part 8 = .ok (.goto 20, 3) := by decide +kernel
theorem dX12_part_11 : decode cX12_part 11 = .ok (.iload_n 1, 1) := by decide +kernel
theorem dX12_part_12 : decode cX12_part 12 = .ok (.iconst 1, 1) := by decide +kernel
theorem dX12_part_13 : decode cX12_part 13 = .ok (.if_icmp .ne 10, 3) := by decide +kernel
theorem dX12_part_16 : decode cX12_part 16 = .ok (.aload_n 0, 1) := by decide +kernel
theorem dX12_part_17 : decode cX12_part 17 = .ok (.getfield 64, 3) := by decide +kernel
theorem dX12_part_20 : decode cX12_part 20 = .ok (.goto 8, 3) := by decide +kernel
theorem dX12_part_23 : decode cX12_part 23 = .ok (.aload_n 0, 1) := by decide +kernel
theorem dX12_part_24 : decode cX12_part 24 = .ok (.invokevirtual 97, 3) := by decide +kernel
theorem dX12_part_27 : decode cX12_part 27 = .ok (.i2l, 1) := by decide +kernel
theorem dX12_part_28 : decode cX12_part 28 = .ok (.lreturn, 1) := by decide +kernel
theorem dX12_image_0 : decode cX12_image 0 = .ok (.iload_n 1, 1) := by decide +kernel
theorem dX12_image_1 : decode cX12_image 1 = .ok (.iconst 0, 1) := by decide +kernel
theorem dX12_image_2 : decode cX12_image 2 = .ok (.iconst 1, 1) := by decide +kernel
theorem dX12_image_3 : decode cX12_image 3 = .ok (.invokestatic 93, 3) := by decide +kernel
theorem dX12_image_6 : decode cX12_image 6 = .ok (.ifCond .ne 8, 3) := by decide +kernel
theorem dX12_image_9 : decode cX12_image 9 = .ok (.aload_n 0, 1) := by decide +kernel
theorem dX12_image_10 : decode cX12_image 10 = .ok (.invokevirtual 97, 3) := by decide +kernel
theorem dX12_image_13 : decode cX12_image 13 = .ok (.ireturn, 1) := by decide +kernel
theorem dX12_image_14 : decode cX12_image 14 = .ok (.sipush 180, 3) := by decide +kernel
theorem dX12_image_17 : decode cX12_image 17 = .ok (.iload_n 1, 1) := by decide +kernel
theorem dX12_image_18 : decode cX12_image 18 = .ok (.imul, 1) := by decide +kernel
theorem dX12_image_19 : decode cX12_image 19 = .ok (.istore_n 2, 1) := by decide +kernel
theorem dX12_image_20 : decode cX12_image 20 = .ok (.aload_n 0, 1) := by decide +kernel
theorem dX12_image_21 : decode cX12_image 21 = .ok (.getfield 71, 3) := by decide +kernel
theorem dX12_image_24 : decode cX12_image 24 = .ok (.iload_n 1, 1) := by decide +kernel
theorem dX12_image_25 : decode cX12_image 25 = .ok (.iconst 1, 1) := by decide +kernel
theorem dX12_image_26 : decode cX12_image 26 = .ok (.iastore, 1) := by decide +kernel
theorem dX12_image_27 : decode cX12_image 27 = .ok (.aload_n 0, 1) := by decide +kernel
theorem dX12_image_28 : decode cX12_image 28 = .ok (.getfield 68, 3) := by decide +kernel
theorem dX12_image_31 : decode cX12_image 31 = .ok (.iload_n 2, 1) := by decide +kernel
theorem dX12_image_32 : decode cX12_image 32 = .ok (.aload_n 0, 1) := by decide +kernel
theorem dX12_image_33 : decode cX12_image 33 = .ok (.getfield 77, 3) := by decide +kernel
theorem dX12_image_36 : decode cX12_image 36 = .ok (.iastore, 1) := by decide +kernel
theorem dX12_image_37 : decode cX12_image 37 = .ok (.aload_n 0, 1) := by decide +kernel
theorem dX12_image_38 : decode cX12_image 38 = .ok (.getfield 68, 3) := by decide +kernel
theorem dX12_image_41 : decode cX12_image 41 = .ok (.iload_n 2, 1) := by decide +kernel
theorem dX12_image_42 : decode cX12_image 42 = .ok (.iconst 1, 1) := by decide +kernel
theorem dX12_image_43 : decode cX12_image 43 = .ok (.iadd, 1) := by decide +kernel
theorem dX12_image_44 : decode cX12_image 44 = .ok (.aload_n 0, 1) := by decide +kernel
theorem dX12_image_45 : decode cX12_image 45 = .ok (.getfield 87, 3) := by decide +kernel
theorem dX12_image_48 : decode cX12_image 48 = .ok (.iastore, 1) := by decide +kernel
theorem dX12_image_49 : decode cX12_image 49 = .ok (.aload_n 0, 1) := by decide +kernel
theorem dX12_image_50 : decode cX12_image 50 = .ok (.getfield 68, 3) := by decide +kernel
theorem dX12_image_53 : decode cX12_image 53 = .ok (.iload_n 2, 1) := by decide +kernel
theorem dX12_image_54 : decode cX12_image 54 = .ok (.iconst 2, 1) := by decide +kernel
theorem dX12_image_55 : decode cX12_image 55 = .ok (.iadd, 1) := by decide +kernel
theorem dX12_image_56 : decode cX12_image 56 = .ok (.aload_n 0, 1) := by decide +kernel
theorem dX12_image_57 : decode cX12_image 57 = .ok (.getfield 90, 3) := by decide +kernel
theorem dX12_image_60 : decode cX12_image 60 = .ok (.iastore, 1) := by decide +kernel
theorem dX12_image_61 : decode cX12_image 61 = .ok (.aload_n 0, 1) := by decide +kernel
theorem dX12_image_62 : decode cX12_image 62 = .ok (.aload_n 0, 1) := by decide +kernel
theorem dX12_image_63 : decode cX12_image 63 = .ok (.getfield 68, 3) := by decide +kernel
theorem dX12_image_66 : decode cX12_image 66 = .ok (.iload_n 2, 1) := by decide +kernel
theorem dX12_image_67 : decode cX12_image 67 = .ok (.iconst 3, 1) := by decide +kernel
theorem dX12_image_68 : decode cX12_image 68 = .ok (.iadd, 1) := by decide +kernel
theorem dX12_image_69 : decode cX12_image 69 = .ok (.invokevirtual 189, 3) := by decide +kernel
theorem dX12_image_72 : decode cX12_image 72 = .ok (.iconst 0, 1) := by decide +kernel
theorem dX12_image_73 : decode cX12_image 73 = .ok (.istore_n 3, 1) := by decide +kernel
theorem dX12_image_74 : decode cX12_image 74 = .ok (.iload_n 3, 1) := by decide +kernel
theorem dX12_image_75 : decode cX12_image 75 = .ok (.bipush 6, 2) := by decide +kernel
theorem dX12_image_77 : decode cX12_image 77 = .ok (.if_icmp .ge 128, 3) := by decide +kernel
theorem dX12_image_80 : decode cX12_image 80 = .ok (.aload_n 0, 1) := by decide +kernel
theorem dX12_image_81 : decode cX12_image 81 = .ok (.getfield 68, 3) := by decide +kernel
theorem dX12_image_84 : decode cX12_image 84 = .ok (.iload_n 2, 1) := by decide +kernel
theorem dX12_image_85 : decode cX12_image 85 = .ok (.bipush 17, 2) := by decide +kernel
theorem dX12_image_87 : decode cX12_image 87 = .ok (.iadd, 1) := by decide +kernel
theorem dX12_image_88 : decode cX12_image 88 = .ok (.iload_n 3, 1) := by decide +kernel
theorem dX12_image_89 : decode cX12_image 89 = .ok (.iadd, 1) := by decide +kernel
theorem dX12_image_90 : decode cX12_image 90 = .ok (.aload_n 0, 1) := by decide +kernel
theorem dX12_image_91 : decode cX12_image 91 = .ok (.getfield 13, 3) := by decide +kernel
theorem dX12_image_94 : decode cX12_image 94 = .ok (.iload_n 3, 1) := by decide +kernel
theorem dX12_image_95 : decode cX12_image 95 = .ok (.iaload, 1) := by decide +kernel
theorem dX12_image_96 : decode cX12_image 96 = .ok (.iastore, 1) := by decide +kernel
theorem dX12_image_97 : decode cX12_image 97 = .ok (.aload_n 0, 1) := by decide +kernel
theorem dX12_image_98 : decode cX12_image 98 = .ok (.getfield 68, 3) := by decide +kernel
theorem dX12_image_101 : decode cX12_image 101 = .ok (.iload_n 2, 1) := by decide +kernel
theorem dX12_image_102 : decode cX12_image 102 = .ok (.bipush 23, 2) := by decide +kernel
theorem dX12_image_104 : decode cX12_image 104 = .ok (.iadd, 1) := by decide +kernel
theorem dX12_image_105 : decode cX12_image 105 = .ok (.iload_n 3, 1) := by decide +kernel
theorem dX12_image_106 : decode cX12_image 106 = .ok (.iadd, 1) := by decide +kernel
theorem dX12_image_107 : decode cX12_image 107 = .ok (.aload_n 0, 1) := by decide +kernel
theorem dX12_image_108 : decode cX12_image 108 = .ok (.getfield 22, 3) := by decide +kernel
theorem dX12_image_111 : decode cX12_image 111 = .ok (.iload_n 3, 1) := by decide +kernel
theorem dX12_image_112 : decode cX12_image 112 = .ok (.iaload, 1) := by decide +kernel
theorem dX12_image_113 : decode cX12_image 113 = .ok (.iastore, 1) := by decide +kernel
theorem dX12_image_114 : decode cX12_image 114 = .ok (.aload_n 0, 1) := by decide +kernel
theorem dX12_image_115 : decode cX12_image 115 = .ok (.getfield 68, 3) := by decide +kernel
theorem dX12_image_118 : decode cX12_image 118 = .ok (.iload_n 2, 1) := by decide +kernel
theorem dX12_image_119 : decode cX12_image 119 = .ok (.bipush 29, 2) := by decide +kernel
theorem dX12_image_121 : decode cX12_image 121 = .ok (.iadd, 1) := by decide +kernel
theorem dX12_image_122 : decode cX12_image 122 = .ok (.iload_n 3, 1) := by decide +kernel
theorem dX12_image_123 : decode cX12_image 123 = .ok (.iadd, 1) := by decide +kernel
theorem dX12_image_124 : decode cX12_image 124 = .ok (.aload_n 0, 1) := by decide +kernel
theorem dX12_image_125 : decode cX12_image 125 = .ok (.getfield 25, 3) := by decide +kernel
theorem dX12_image_128 : decode cX12_image 128 = .ok (.iload_n 3, 1) := by decide +kernel
theorem dX12_image_129 : decode cX12_image 129 = .ok (.iaload, 1) := by decide +kernel
theorem dX12_image_130 : decode cX12_image 130 = .ok (.iastore, 1) := by decide +kernel
theorem dX12_image_131 : decode cX12_image 131 = .ok (.aload_n 0, 1) := by decide +kernel
theorem dX12_image_132 : decode cX12_image 132 = .ok (.getfield 68, 3) := by decide +kernel
theorem dX12_image_135 : decode cX12_image 135 = .ok (.iload_n 2, 1) := by decide +kernel
theorem dX12_image_136 : decode cX12_image 136 = .ok (.bipush 35, 2) := by decide +kernel
theorem dX12_image_138 : decode cX12_image 138 = .ok (.iadd, 1) := by decide +kernel
theorem dX12_image_139 : decode cX12_image 139 = .ok (.iload_n 3, 1) := by decide +kernel
theorem dX12_image_140 : decode cX12_image 140 = .ok (.iadd, 1) := by decide +kernel
theorem dX12_image_141 : decode cX12_image 141 = .ok (.aload_n 0, 1) := by decide +kernel
theorem dX12_image_142 : decode cX12_image 142 = .ok (.getfield 28, 3) := by decide +kernel
theorem dX12_image_145 : decode cX12_image 145 = .ok (.iload_n 3, 1) := by decide +kernel
theorem dX12_image_146 : decode cX12_image 146 = .ok (.iaload, 1) := by decide +kernel
theorem dX12_image_147 : decode cX12_image 147 = .ok (.iastore, 1) := by decide +kernel
theorem dX12_image_148 : decode cX12_image 148 = .ok (.aload_n 0, 1) := by decide +kernel
theorem dX12_image_149 : decode cX12_image 149 = .ok (.getfield 68, 3) := by decide +kernel
theorem dX12_image_152 : decode cX12_image 152 = .ok (.iload_n 2, 1) := by decide +kernel
theorem dX12_image_153 : decode cX12_image 153 = .ok (.bipush 41, 2) := by decide +kernel
theorem dX12_image_155 : decode cX12_image 155 = .ok (.iadd, 1) := by decide +kernel
theorem dX12_image_156 : decode cX12_image 156 = .ok (.iload_n 3, 1) := by decide +kernel
theorem dX12_image_157 : decode cX12_image 157 = .ok (.iadd, 1) := by decide +kernel
theorem dX12_image_158 : decode cX12_image 158 = .ok (.aload_n 0, 1) := by decide +kernel
theorem dX12_image_159 : decode cX12_image 159 = .ok (.getfield 31, 3) := by decide +kernel
theorem dX12_image_162 : decode cX12_image 162 = .ok (.iload_n 3, 1) := by decide +kernel
theorem dX12_image_163 : decode cX12_image 163 = .ok (.iaload, 1) := by decide +kernel
theorem dX12_image_164 : decode cX12_image 164 = .ok (.iastore, 1) := by decide +kernel
theorem dX12_image_165 : decode cX12_image 165 = .ok (.aload_n 0, 1) := by decide +kernel
theorem dX12_image_166 : decode cX12_image 166 = .ok (.getfield 68, 3) := by decide +kernel
theorem dX12_image_169 : decode cX12_image 169 = .ok (.iload_n 2, 1) := by decide +kernel
theorem dX12_image_170 : decode cX12_image 170 = .ok (.bipush 47, 2) := by decide +kernel
theorem dX12_image_172 : decode cX12_image 172 = .ok (.iadd, 1) := by decide +kernel
theorem dX12_image_173 : decode cX12_image 173 = .ok (.iload_n 3, 1) := by decide +kernel
theorem dX12_image_174 : decode cX12_image 174 = .ok (.iadd, 1) := by decide +kernel
theorem dX12_image_175 : decode cX12_image 175 = .ok (.aload_n 0, 1) := by decide +kernel
theorem dX12_image_176 : decode cX12_image 176 = .ok (.getfield 34, 3) := by decide +kernel
theorem dX12_image_179 : decode cX12_image 179 = .ok (.iload_n 3, 1) := by decide +kernel
theorem dX12_image_180 : decode cX12_image 180 = .ok (.iaload, 1) := by decide +kernel
theorem dX12_image_181 : decode cX12_image 181 = .ok (.iastore, 1) := by decide +kernel
theorem dX12_image_182 : decode cX12_image 182 = .ok (.aload_n 0, 1) := by decide +kernel
theorem dX12_image_183 : decode cX12_image 183 = .ok (.getfield 68, 3) := by decide +kernel
theorem dX12_image_186 : decode cX12_image 186 = .ok (.iload_n 2, 1) := by decide +kernel
theorem dX12_image_187 : decode cX12_image 187 = .ok (.bipush 53, 2) := by decide +kernel
theorem dX12_image_189 : decode cX12_image 189 = .ok (.iadd, 1) := by decide +kernel
theorem dX12_image_190 : decode cX12_image 190 = .ok (.iload_n 3, 1) := by decide +kernel
theorem dX12_image_191 : decode cX12_image 191 = .ok (.iadd, 1) := by decide +kernel
theorem dX12_image_192 : decode cX12_image 192 = .ok (.aload_n 0, 1) := by decide +kernel
theorem dX12_image_193 : decode cX12_image 193 = .ok (.getfield 37, 3) := by decide +kernel
theorem dX12_image_196 : decode cX12_image 196 = .ok (.iload_n 3, 1) := by decide +kernel
theorem dX12_image_197 : decode cX12_image 197 = .ok (.iaload, 1) := by decide +kernel
theorem dX12_image_198 : decode cX12_image 198 = .ok (.iastore, 1) := by decide +kernel
theorem dX12_image_199 : decode cX12_image 199 = .ok (.iinc 3 1, 3) := by decide +kernel
theorem dX12_image_202 : decode cX12_image 202 = .ok (.goto (-128), 3) := by decide +kernel
theorem dX12_image_205 : decode cX12_image 205 = .ok (.iconst 0, 1) := by decide +kernel
theorem dX12_image_206 : decode cX12_image 206 = .ok (.istore_n 3, 1) := by decide +kernel
theorem dX12_image_207 : decode cX12_image 207 = .ok (.iload_n 3, 1) := by decide +kernel
theorem dX12_image_208 : decode cX12_image 208 = .ok (.bipush 112, 2) := by decide +kernel
theorem dX12_image_210 : decode cX12_image 210 = .ok (.if_icmp .ge 26, 3) := by decide +kernel
theorem dX12_image_213 : decode cX12_image 213 = .ok (.aload_n 0, 1) := by decide +kernel
theorem dX12_image_214 : decode cX12_image 214 = .ok (.getfield 68, 3) := by decide +kernel
theorem dX12_image_217 : decode cX12_image 217 = .ok (.iload_n 2, 1) := by decide +kernel
theorem dX12_image_218 : decode cX12_image 218 = .ok (.bipush 59, 2) := by decide +kernel
theorem dX12_image_220 : decode cX12_image 220 = .ok (.iadd, 1) := by decide +kernel
theorem dX12_image_221 : decode cX12_image 221 = .ok (.iload_n 3, 1) := by decide +kernel
theorem dX12_image_222 : decode cX12_image 222 = .ok (.iadd, 1) := by decide +kernel
theorem dX12_image_223 : decode cX12_image 223 = .ok (.aload_n 0, 1) := by decide +kernel
theorem dX12_image_224 : decode cX12_image 224 = .ok (.getfield 46, 3) := by decide +kernel
theorem dX12_image_227 : decode cX12_image 227 = .ok (.iload_n 3, 1) := by decide +kernel
theorem dX12_image_228 : decode cX12_image 228 = .ok (.iaload, 1) := by decide +kernel
theorem dX12_image_229 : decode cX12_image 229 = .ok (.iastore, 1) := by decide +kernel
theorem dX12_image_230 : decode cX12_image 230 = .ok (.iinc 3 1, 3) := by decide +kernel
theorem dX12_image_233 : decode cX12_image 233 = .ok (.goto (-26), 3) := by decide +kernel
theorem dX12_image_236 : decode cX12_image 236 = .ok (.iconst 1, 1) := by decide +kernel
theorem dX12_image_237 : decode cX12_image 237 = .ok (.ireturn, 1) := by decide +kernel
theorem dX12_from_0 : decode cX12_from 0 = .ok (.iload_n 1, 1) := by decide +kernel
theorem dX12_from_1 : decode cX12_from 1 = .ok (.iconst 0, 1) := by decide +kernel
theorem dX12_from_2 : decode cX12_from 2 = .ok (.iconst 1, 1) := by decide +kernel
theorem dX12_from_3 : decode cX12_from 3 = .ok (.invokestatic 93, 3) := by decide +kernel
theorem dX12_from_6 : decode cX12_from 6 = .ok (.ifCond .ne 8, 3) := by decide +kernel
theorem dX12_from_9 : decode cX12_from 9 = .ok (.aload_n 0, 1) := by decide +kernel
theorem dX12_from_10 : decode cX12_from 10 = .ok (.invokevirtual 97, 3) := by decide +kernel
theorem dX12_from_13 : decode cX12_from 13 = .ok (.ireturn, 1) := by decide +kernel
theorem dX12_from_14 : decode cX12_from 14 = .ok (.aload_n 0, 1) := by decide +kernel
theorem dX12_from_15 : decode cX12_from 15 = .ok (.getfield 71, 3) := by decide +kernel
theorem dX12_from_18 : decode cX12_from 18 = .ok (.iload_n 1, 1) := by decide +kernel
theorem dX12_from_19 : decode cX12_from 19 = .ok (.iaload, 1) := by decide +kernel
theorem dX12_from_20 : decode cX12_from 20 = .ok (.ifCond .ne 8, 3) := by decide +kernel
theorem dX12_from_23 : decode cX12_from 23 = .ok (.aload_n 0, 1) := by decide +kernel
theorem dX12_from_24 : decode cX12_from 24 = .ok (.invokevirtual 209, 3) := by decide +kernel
theorem dX12_from_27 : decode cX12_from 27 = .ok (.ireturn, 1) := by decide +kernel
theorem dX12_from_28 : decode cX12_from 28 = .ok (.sipush 180, 3) := by decide +kernel
theorem dX12_from_31 : decode cX12_from 31 = .ok (.iload_n 1, 1) := by decide +kernel
theorem dX12_from_32 : decode cX12_from 32 = .ok (.imul, 1) := by decide +kernel
theorem dX12_from_33 : decode cX12_from 33 = .ok (.istore_n 2, 1) := by decide +kernel
theorem dX12_from_34 : decode cX12_from 34 = .ok (.aload_n 0, 1) := by decide +kernel
theorem dX12_from_35 : decode cX12_from 35 = .ok (.aload_n 0, 1) := by decide +kernel
theorem dX12_from_36 : decode cX12_from 36 = .ok (.getfield 68, 3) := by decide +kernel
theorem dX12_from_39 : decode cX12_from 39 = .ok (.iload_n 2, 1) := by decide +kernel
theorem dX12_from_40 : decode cX12_from 40 = .ok (.iaload, 1) := by decide +kernel
theorem dX12_from_41 : decode cX12_from 41 = .ok (.putfield 77, 3) := by decide +kernel
theorem dX12_from_44 : decode cX12_from 44 = .ok (.aload_n 0, 1) := by decide +kernel
theorem dX12_from_45 : decode cX12_from 45 = .ok (.aload_n 0, 1) := by decide +kernel
theorem dX12_from_46 : decode cX12_from 46 = .ok (.getfield 68, 3) := by decide +kernel
theorem dX12_from_49 : decode cX12_from 49 = .ok (.iload_n 2, 1) := by decide +kernel
theorem dX12_from_50 : decode cX12_from 50 = .ok (.iconst 1, 1) := by decide +kernel
theorem dX12_from_51 : decode cX12_from 51 = .ok (.iadd, 1) := by decide +kernel
theorem dX12_from_52 : decode cX12_from 52 = .ok (.iaload, 1) := by decide +kernel
theorem dX12_from_53 : decode cX12_from 53 = .ok (.putfield 87, 3) := by decide +kernel
theorem dX12_from_56 : decode cX12_from 56 = .ok (.aload_n 0, 1) := by decide +kernel
theorem dX12_from_57 : decode cX12_from 57 = .ok (.aload_n 0, 1) := by decide +kernel
theorem dX12_from_58 : decode cX12_from 58 = .ok (.getfield 68, 3) := by decide +kernel
theorem dX12_from_61 : decode cX12_from 61 = .ok (.iload_n 2, 1) := by decide +kernel
theorem dX12_from_62 : decode cX12_from 62 = .ok (.iconst 2, 1) := by decide +kernel
theorem dX12_from_63 : decode cX12_from 63 = .ok (.iadd, 1) := by decide +kernel
theorem dX12_from_64 : decode cX12_from 64 = .ok (.iaload, 1) := by decide +kernel
theorem dX12_from_65 : decode cX12_from 65 = .ok (.putfield 90, 3) := by decide +kernel
theorem dX12_from_68 : decode cX12_from 68 = .ok (.aload_n 0, 1) := by decide +kernel
theorem dX12_from_69 : decode cX12_from 69 = .ok (.aload_n 0, 1) := by decide +kernel
theorem dX12_from_70 : decode cX12_from 70 = .ok (.getfield 68, 3) := by decide +kernel
theorem dX12_from_73 : decode cX12_from 73 = .ok (.iload_n 2, 1) := by decide +kernel
theorem dX12_from_74 : decode cX12_from 74 = .ok (.iconst 3, 1) := by decide +kernel
theorem dX12_from_75 : decode cX12_from 75 = .ok (.iadd, 1) := by decide +kernel
theorem dX12_from_76 : decode cX12_from 76 = .ok (.invokevirtual 193, 3) := by decide +kernel
theorem dX12_from_79 : decode cX12_from 79 = .ok (.iconst 0, 1) := by decide +kernel
theorem dX12_from_80 : decode cX12_from 80 = .ok (.istore_n 3, 1) := by decide +kernel
theorem dX12_from_81 : decode cX12_from 81 = .ok (.iload_n 3, 1) := by decide +kernel
theorem dX12_from_82 : decode cX12_from 82 = .ok (.bipush 6, 2) := by decide +kernel
theorem dX12_from_84 : decode cX12_from 84 = .ok (.if_icmp .ge 128, 3) := by decide +kernel
theorem dX12_from_87 : decode cX12_from 87 = .ok (.aload_n 0, 1) := by decide +kernel
theorem dX12_from_88 : decode cX12_from 88 = .ok (.getfield 13, 3) := by decide +kernel
theorem dX12_from_91 : decode cX12_from 91 = .ok (.iload_n 3, 1) := by decide +kernel
theorem dX12_from_92 : decode cX12_from 92 = .ok (.aload_n 0, 1) := by decide +kernel
theorem dX12_from_93 : decode cX12_from 93 = .ok (.getfield 68, 3) := by decide +kernel
theorem dX12_from_96 : decode cX12_from 96 = .ok (.iload_n 2, 1) := by decide +kernel
theorem dX12_from_97 : decode cX12_from 97 = .ok (.bipush 17, 2) := by decide +kernel
theorem dX12_from_99 : decode cX12_from 99 = .ok (.iadd, 1) := by decide +kernel
theorem dX12_from_100 : decode cX12_from 100 = .ok (.iload_n 3, 1) := by decide +kernel
theorem dX12_from_101 : decode cX12_from 101 = .ok (.iadd, 1) := by decide +kernel
theorem dX12_from_102 : decode cX12_from 102 = .ok (.iaload, 1) := by decide +kernel
theorem dX12_from_103 : decode cX12_from 103 = .ok (.iastore, 1) := by decide +kernel
theorem dX12_from_104 : decode cX12_from 104 = .ok (.aload_n 0, 1) := by decide +kernel
theorem dX12_from_105 : decode cX12_from 105 = .ok (.getfield 22, 3) := by decide +kernel
theorem dX12_from_108 : decode cX12_from 108 = .ok (.iload_n 3, 1) := by decide +kernel
theorem dX12_from_109 : decode cX12_from 109 = .ok (.aload_n 0, 1) := by decide +kernel
theorem dX12_from_110 : decode cX12_from 110 = .ok (.getfield 68, 3) := by decide +kernel
theorem dX12_from_113 : decode cX12_from 113 = .ok (.iload_n 2, 1) := by decide +kernel
theorem dX12_from_114 : decode cX12_from 114 = .ok (.bipush 23, 2) := by decide +kernel
theorem dX12_from_116 : decode cX12_from 116 = .ok (.iadd, 1) := by decide +kernel
theorem dX12_from_117 : decode cX12_from 117 = .ok (.iload_n 3, 1) := by decide +kernel
theorem dX12_from_118 : decode cX12_from 118 = .ok (.iadd, 1) := by decide +kernel
theorem dX12_from_119 : decode cX12_from 119 = .ok (.iaload, 1) := by decide +kernel
theorem dX12_from_120 : decode cX12_from 120 = .ok (.iastore, 1) := by decide +kernel
theorem dX12_from_121 : decode cX12_from 121 = .ok (.aload_n 0, 1) := by decide +kernel
theorem dX12_from_122 : decode cX12_from 122 = .ok (.getfield 25, 3) := by decide +kernel
theorem dX12_from_125 : decode cX12_from 125 = .ok (.iload_n 3, 1) := by decide +kernel
theorem dX12_from_126 : decode cX12_from 126 = .ok (.aload_n 0, 1) := by decide +kernel
theorem dX12_from_127 : decode cX12_from 127 = .ok (.getfield 68, 3) := by decide +kernel
theorem dX12_from_130 : decode cX12_from 130 = .ok (.iload_n 2, 1) := by decide +kernel
theorem dX12_from_131 : decode cX12_from 131 = .ok (.bipush 29, 2) := by decide +kernel
theorem dX12_from_133 : decode cX12_from 133 = .ok (.iadd, 1) := by decide +kernel
theorem dX12_from_134 : decode cX12_from 134 = .ok (.iload_n 3, 1) := by decide +kernel
theorem dX12_from_135 : decode cX12_from 135 = .ok (.iadd, 1) := by decide +kernel
theorem dX12_from_136 : decode cX12_from 136 = .ok (.iaload, 1) := by decide +kernel
theorem dX12_from_137 : decode cX12_from 137 = .ok (.iastore, 1) := by decide +kernel
theorem dX12_from_138 : decode cX12_from 138 = .ok (.aload_n 0, 1) := by decide +kernel
theorem dX12_from_139 : decode cX12_from 139 = .ok (.getfield 28, 3) := by decide +kernel
theorem dX12_from_142 : decode cX12_from 142 = .ok (.iload_n 3, 1) := by decide +kernel
theorem dX12_from_143 : decode cX12_from 143 = .ok (.aload_n 0, 1) := by decide +kernel
theorem dX12_from_144 : decode cX12_from 144 = .ok (.getfield 68, 3) := by decide +kernel
theorem dX12_from_147 : decode cX12_from 147 = .ok (.iload_n 2, 1) := by decide +kernel
theorem dX12_from_148 : decode cX12_from 148 = .ok (.bipush 35, 2) := by decide +kernel
theorem dX12_from_150 : decode cX12_from 150 = .ok (.iadd, 1) := by decide +kernel
theorem dX12_from_151 : decode cX12_from 151 = .ok (.iload_n 3, 1) := by decide +kernel
theorem dX12_from_152 : decode cX12_from 152 = .ok (.iadd, 1) := by decide +kernel
theorem dX12_from_153 : decode cX12_from 153 = .ok (.iaload, 1) := by decide +kernel
theorem dX12_from_154 : decode cX12_from 154 = .ok (.iastore, 1) := by decide +kernel
theorem dX12_from_155 : decode cX12_from 155 = .ok (.aload_n 0, 1) := by decide +kernel
theorem dX12_from_156 : decode cX12_from 156 = .ok (.getfield 31, 3) := by decide +kernel
theorem dX12_from_159 : decode cX12_from 159 = .ok (.iload_n 3, 1) := by decide +kernel
theorem dX12_from_160 : decode cX12_from 160 = .ok (.aload_n 0, 1) := by decide +kernel
theorem dX12_from_161 : decode cX12_from 161 = .ok (.getfield 68, 3) := by decide +kernel
theorem dX12_from_164 : decode cX12_from 164 = .ok (.iload_n 2, 1) := by decide +kernel
theorem dX12_from_165 : decode cX12_from 165 = .ok (.bipush 41, 2) := by decide +kernel
theorem dX12_from_167 : decode cX12_from 167 = .ok (.iadd, 1) := by decide +kernel
theorem dX12_from_168 : decode cX12_from 168 = .ok (.iload_n 3, 1) := by decide +kernel
theorem dX12_from_169 : decode cX12_from 169 = .ok (.iadd, 1) := by decide +kernel
theorem dX12_from_170 : decode cX12_from 170 = .ok (.iaload, 1) := by decide +kernel
theorem dX12_from_171 : decode cX12_from 171 = .ok (.iastore, 1) := by decide +kernel
theorem dX12_from_172 : decode cX12_from 172 = .ok (.aload_n 0, 1) := by decide +kernel
theorem dX12_from_173 : decode cX12_from 173 = .ok (.getfield 34, 3) := by decide +kernel
theorem dX12_from_176 : decode cX12_from 176 = .ok (.iload_n 3, 1) := by decide +kernel
theorem dX12_from_177 : decode cX12_from 177 = .ok (.aload_n 0, 1) := by decide +kernel
theorem dX12_from_178 : decode cX12_from 178 = .ok (.getfield 68, 3) := by decide +kernel
theorem dX12_from_181 : decode cX12_from 181 = .ok (.iload_n 2, 1) := by decide +kernel
theorem dX12_from_182 : decode cX12_from 182 = .ok (.bipush 47, 2) := by decide +kernel
theorem dX12_from_184 : decode cX12_from 184 = .ok (.iadd, 1) := by decide +kernel
theorem dX12_from_185 : decode cX12_from 185 = .ok (.iload_n 3, 1) := by decide +kernel
theorem dX12_from_186 : decode cX12_from 186 = .ok (.iadd, 1) := by decide +kernel
theorem dX12_from_187 : decode cX12_from 187 = .ok (.iaload, 1) := by decide +kernel
theorem dX12_from_188 : decode cX12_from 188 = .ok (.iastore, 1) := by decide +kernel
theorem dX12_from_189 : decode cX12_from 189 = .ok (.aload_n 0, 1) := by decide +kernel
theorem dX12_from_190 : decode cX12_from 190 = .ok (.getfield 37, 3) := by decide +kernel
theorem dX12_from_193 : decode cX12_from 193 = .ok (.iload_n 3, 1) := by decide +kernel
theorem dX12_from_194 : decode cX12_from 194 = .ok (.aload_n 0, 1) := by decide +kernel
theorem dX12_from_195 : decode cX12_from 195 = .ok (.getfield 68, 3) := by decide +kernel
theorem dX12_from_198 : decode cX12_from 198 = .ok (.iload_n 2, 1) := by decide +kernel
theorem dX12_from_199 : decode cX12_from 199 = .ok (.bipush 53, 2) := by decide +kernel
theorem dX12_from_201 : decode cX12_from 201 = .ok (.iadd, 1) := by decide +kernel
theorem dX12_from_202 : decode cX12_from 202 = .ok (.iload_n 3, 1) := by decide +kernel
theorem dX12_from_203 : decode cX12_from 203 = .ok (.iadd, 1) := by decide +kernel
theorem dX12_from_204 : decode cX12_from 204 = .ok (.iaload, 1) := by decide +kernel
theorem dX12_from_205 : decode cX12_from 205 = .ok (.iastore, 1) := by decide +kernel
theorem dX12_from_206 : decode cX12_from 206 = .ok (.iinc 3 1, 3) := by decide +kernel
theorem dX12_from_209 : decode cX12_from 209 = .ok (.goto (-128), 3) := by decide +kernel
theorem dX12_from_212 : decode cX12_from 212 = .ok (.iconst 0, 1) := by decide +kernel
theorem dX12_from_213 : decode cX12_from 213 = .ok (.istore_n 3, 1) := by decide +kernel
theorem dX12_from_214 : decode cX12_from 214 = .ok (.iload_n 3, 1) := by decide +kernel
theorem dX12_from_215 : decode cX12_from 215 = .ok (.bipush 112, 2) := by decide +kernel
theorem dX12_from_217 : decode cX12_from 217 = .ok (.if_icmp .ge 26, 3) := by decide +kernel
theorem dX12_from_220 : decode cX12_from 220 = .ok (.aload_n 0, 1) := by decide +kernel
theorem dX12_from_221 : decode cX12_from 221 = .ok (.getfield 46, 3) := by decide +kernel
theorem dX12_from_224 : decode cX12_from 224 = .ok (.iload_n 3, 1) := by decide +kernel
theorem dX12_from_225 : decode cX12_from 225 = .ok (.aload_n 0, 1) := by decide +kernel
theorem dX12_from_226 : decode cX12_from 226 = .ok (.getfield 68, 3) := by decide +kernel
theorem dX12_from_229 : decode cX12_from 229 = .ok (.iload_n 2, 1) := by decide +kernel
theorem dX12_from_230 : decode cX12_from 230 = .ok (.bipush 59, 2) := by decide +kernel
theorem dX12_from_232 : decode cX12_from 232 = .ok (.iadd, 1) := by decide +kernel
theorem dX12_from_233 : decode cX12_from 233 = .ok (.iload_n 3, 1) := by decide +kernel
theorem dX12_from_234 : decode cX12_from 234 = .ok (.iadd, 1) := by decide +kernel
theorem dX12_from_235 : decode cX12_from 235 = .ok (.iaload, 1) := by decide +kernel
theorem dX12_from_236 : decode cX12_from 236 = .ok (.iastore, 1) := by decide +kernel
theorem dX12_from_237 : decode cX12_from 237 = .ok (.iinc 3 1, 3) := by decide +kernel
theorem dX12_from_240 : decode cX12_from 240 = .ok (.goto (-26), 3) := by decide +kernel
theorem dX12_from_243 : decode cX12_from 243 = .ok (.iconst 1, 1) := by decide +kernel
theorem dX12_from_244 : decode cX12_from 244 = .ok (.ireturn, 1) := by decide +kernel
theorem dX12_status_0 : decode cX12_status 0 = .ok (.iload_n 1, 1) := by decide +kernel
theorem dX12_status_1 : decode cX12_status 1 = .ok (.iconst 0, 1) := by decide +kernel
theorem dX12_status_2 : decode cX12_status 2 = .ok (.iconst 2, 1) := by decide +kernel
theorem dX12_status_3 : decode cX12_status 3 = .ok (.invokestatic 93, 3) := by decide +kernel
theorem dX12_status_6 : decode cX12_status 6 = .ok (.ifCond .ne 15, 3) := by decide +kernel
theorem dX12_status_9 : decode cX12_status 9 = .ok (.aload_n 0, 1) := by decide +kernel
theorem dX12_status_10 : decode cX12_status 10 = .ok (.getfield 1, 3) := by decide +kernel
theorem dX12_status_13 : decode cX12_status 13 = .ok (.iconst 0, 1) := by decide +kernel
theorem dX12_status_14 : decode cX12_status 14 = .ok (.dup2, 1) := by decide +kernel
theorem dX12_status_15 : decode cX12_status 15 = .ok (.iaload, 1) := by decide +kernel
theorem dX12_status_16 : decode cX12_status 16 = .ok (.iconst 1, 1) := by decide +kernel
theorem dX12_status_17 : decode cX12_status 17 = .ok (.iadd, 1) := by decide +kernel
theorem dX12_status_18 : decode cX12_status 18 = .ok (.iastore, 1) := by decide +kernel
theorem dX12_status_19 : decode cX12_status 19 = .ok (.iconst (-1), 1) := by decide +kernel
theorem dX12_status_20 : decode cX12_status 20 = .ok (.ireturn, 1) := by decide +kernel
theorem dX12_status_21 : decode cX12_status 21 = .ok (.aload_n 0, 1) := by decide +kernel
theorem dX12_status_22 : decode cX12_status 22 = .ok (.getfield 1, 3) := by decide +kernel
theorem dX12_status_25 : decode cX12_status 25 = .ok (.iload_n 1, 1) := by decide +kernel
theorem dX12_status_26 : decode cX12_status 26 = .ok (.iaload, 1) := by decide +kernel
theorem dX12_status_27 : decode cX12_status 27 = .ok (.ireturn, 1) := by decide +kernel
theorem dX12_bits_0 : decode cX12_bits 0 = .ok (.iconst 0, 1) := by decide +kernel
theorem dX12_bits_1 : decode cX12_bits 1 = .ok (.istore_n 1, 1) := by decide +kernel
theorem dX12_bits_2 : decode cX12_bits 2 = .ok (.iconst 0, 1) := by decide +kernel
theorem dX12_bits_3 : decode cX12_bits 3 = .ok (.istore_n 2, 1) := by decide +kernel
theorem dX12_bits_4 : decode cX12_bits 4 = .ok (.iload_n 2, 1) := by decide +kernel
theorem dX12_bits_5 : decode cX12_bits 5 = .ok (.bipush 6, 2) := by decide +kernel
theorem dX12_bits_7 : decode cX12_bits 7 = .ok (.if_icmp .ge 17, 3) := by decide +kernel
theorem dX12_bits_10 : decode cX12_bits 10 = .ok (.iload_n 1, 1) := by decide +kernel
theorem dX12_bits_11 : decode cX12_bits 11 = .ok (.iload_n 0, 1) := by decide +kernel
theorem dX12_bits_12 : decode cX12_bits 12 = .ok (.iload_n 2, 1) := by decide +kernel
theorem dX12_bits_13 : decode cX12_bits 13 = .ok (.ishr, 1) := by decide +kernel
theorem dX12_bits_14 : decode cX12_bits 14 = .ok (.iconst 1, 1) := by decide +kernel
theorem dX12_bits_15 : decode cX12_bits 15 = .ok (.iand, 1) := by decide +kernel
theorem dX12_bits_16 : decode cX12_bits 16 = .ok (.iadd, 1) := by decide +kernel
theorem dX12_bits_17 : decode cX12_bits 17 = .ok (.istore_n 1, 1) := by decide +kernel
theorem dX12_bits_18 : decode cX12_bits 18 = .ok (.iinc 2 1, 3) := by decide +kernel
theorem dX12_bits_21 : decode cX12_bits 21 = .ok (.goto (-17), 3) := by decide +kernel
theorem dX12_bits_24 : decode cX12_bits 24 = .ok (.iload_n 1, 1) := by decide +kernel
theorem dX12_bits_25 : decode cX12_bits 25 = .ok (.ireturn, 1) := by decide +kernel
theorem dX12_allPieces_0 : decode cX12_allPieces 0 = .ok (.iconst 0, 1) := by decide +kernel
theorem dX12_allPieces_1 : decode cX12_allPieces 1 = .ok (.istore_n 1, 1) := by decide +kernel
theorem dX12_allPieces_2 : decode cX12_allPieces 2 = .ok (.iconst 0, 1) := by decide +kernel
theorem dX12_allPieces_3 : decode cX12_allPieces 3 = .ok (.istore_n 2, 1) := by decide +kernel
theorem dX12_allPieces_4 : decode cX12_allPieces 4 = .ok (.iload_n 2, 1) := by decide +kernel
theorem dX12_allPieces_5 : decode cX12_allPieces 5 = .ok (.aload_n 0, 1) := by decide +kernel
theorem dX12_allPieces_6 : decode cX12_allPieces 6 = .ok (.getfield 77, 3) := by decide +kernel
theorem dX12_allPieces_9 : decode cX12_allPieces 9 = .ok (.if_icmp .ge 18, 3) := by decide +kernel
theorem dX12_allPieces_12 : decode cX12_allPieces 12 = .ok (.iload_n 1, 1) := by decide +kernel
theorem dX12_allPieces_13 : decode cX12_allPieces 13 = .ok (.aload_n 0, 1) := by decide +kernel
theorem dX12_allPieces_14 : decode cX12_allPieces 14 = .ok (.getfield 19, 3) := by decide +kernel
theorem dX12_allPieces_17 : decode cX12_allPieces 17 = .ok (.iload_n 2, 1) := by decide +kernel
theorem dX12_allPieces_18 : decode cX12_allPieces 18 = .ok (.iaload, 1) := by decide +kernel
theorem dX12_allPieces_19 : decode cX12_allPieces 19 = .ok (.iadd, 1) := by decide +kernel
theorem dX12_allPieces_20 : decode cX12_allPieces 20 = .ok (.istore_n 1, 1) := by decide +kernel
theorem dX12_allPieces_21 : decode cX12_allPieces 21 = .ok (.iinc 2 1, 3) := by decide +kernel
theorem dX12_allPieces_24 : decode cX12_allPieces 24 = .ok (.goto (-20), 3) := by decide +kernel
theorem dX12_allPieces_27 : decode cX12_allPieces 27 = .ok (.iload_n 1, 1) := by decide +kernel
theorem dX12_allPieces_28 : decode cX12_allPieces 28 = .ok (.ireturn, 1) := by decide +kernel
theorem dX12_countOf_0 : decode cX12_countOf 0 = .ok (.iload_n 1, 1) := by decide +kernel
theorem dX12_countOf_1 : decode cX12_countOf 1 = .ok (.tableswitch 72 0 5 #[39, 44, 49, 54, 62, 67], 39) := by decide +kernel
theorem dX12_countOf_40 : decode cX12_countOf 40 = .ok (.aload_n 0, 1) := by decide +kernel
theorem dX12_countOf_41 : decode cX12_countOf 41 = .ok (.getfield 77, 3) := by decide +kernel
theorem dX12_countOf_44 : decode cX12_countOf 44 = .ok (.ireturn, 1) := by decide +kernel
theorem dX12_countOf_45 : decode cX12_countOf 45 = .ok (.aload_n 0, 1) := by decide +kernel
theorem dX12_countOf_46 : decode cX12_countOf 46 = .ok (.getfield 81, 3) := by decide +kernel
theorem dX12_countOf_49 : decode cX12_countOf 49 = .ok (.ireturn, 1) := by decide +kernel
theorem dX12_countOf_50 : decode cX12_countOf 50 = .ok (.aload_n 0, 1) := by decide +kernel
theorem dX12_countOf_51 : decode cX12_countOf 51 = .ok (.invokevirtual 275, 3) := by decide +kernel
theorem dX12_countOf_54 : decode cX12_countOf 54 = .ok (.ireturn, 1) := by decide +kernel
theorem dX12_countOf_55 : decode cX12_countOf 55 = .ok (.aload_n 0, 1) := by decide +kernel
theorem dX12_countOf_56 : decode cX12_countOf 56 = .ok (.getfield 84, 3) := by decide +kernel
theorem dX12_countOf_59 : decode cX12_countOf 59 = .ok (.invokestatic 278, 3) := by decide +kernel
theorem dX12_countOf_62 : decode cX12_countOf 62 = .ok (.ireturn, 1) := by decide +kernel
theorem dX12_countOf_63 : decode cX12_countOf 63 = .ok (.aload_n 0, 1) := by decide +kernel
theorem dX12_countOf_64 : decode cX12_countOf 64 = .ok (.getfield 87, 3) := by decide +kernel
theorem dX12_countOf_67 : decode cX12_countOf 67 = .ok (.ireturn, 1) := by decide +kernel
theorem dX12_countOf_68 : decode cX12_countOf 68 = .ok (.aload_n 0, 1) := by decide +kernel
theorem dX12_countOf_69 : decode cX12_countOf 69 = .ok (.getfield 90, 3) := by decide +kernel
theorem dX12_countOf_72 : decode cX12_countOf 72 = .ok (.ireturn, 1) := by decide +kernel
theorem dX12_countOf_73 : decode cX12_countOf 73 = .ok (.aload_n 0, 1) := by decide +kernel
theorem dX12_countOf_74 : decode cX12_countOf 74 = .ok (.getfield 112, 3) := by decide +kernel
theorem dX12_countOf_77 : decode cX12_countOf 77 = .ok (.ireturn, 1) := by decide +kernel
theorem dX12_count_0 : decode cX12_count 0 = .ok (.iload_n 1, 1) := by decide +kernel
theorem dX12_count_1 : decode cX12_count 1 = .ok (.iconst 0, 1) := by decide +kernel
theorem dX12_count_2 : decode cX12_count 2 = .ok (.bipush 6, 2) := by decide +kernel
theorem dX12_count_4 : decode cX12_count 4 = .ok (.invokestatic 93, 3) := by decide +kernel
theorem dX12_count_7 : decode cX12_count 7 = .ok (.ifCond .eq 11, 3) := by decide +kernel
theorem dX12_count_10 : decode cX12_count 10 = .ok (.aload_n 0, 1) := by decide +kernel
theorem dX12_count_11 : decode cX12_count 11 = .ok (.iload_n 1, 1) := by decide +kernel
theorem dX12_count_12 : decode cX12_count 12 = .ok (.invokevirtual 281, 3) := by decide +kernel
theorem dX12_count_15 : decode cX12_count 15 = .ok (.goto 7, 3) := by decide +kernel
theorem dX12_count_18 : decode cX12_count 18 = .ok (.aload_n 0, 1) := by decide +kernel
theorem dX12_count_19 : decode cX12_count 19 = .ok (.invokevirtual 97, 3) := by decide +kernel
theorem dX12_count_22 : decode cX12_count 22 = .ok (.ireturn, 1) := by decide +kernel
theorem dX12_mix_0 : decode cX12_mix 0 = .ok (.aload_n 0, 1) := by decide +kernel
theorem dX12_mix_1 : decode cX12_mix 1 = .ok (.ldc2_w 284, 3) := by decide +kernel
theorem dX12_mix_4 : decode cX12_mix 4 = .ok (.aload_n 0, 1) := by decide +kernel
theorem dX12_mix_5 : decode cX12_mix 5 = .ok (.getfield 286, 3) := by decide +kernel
theorem dX12_mix_8 : decode cX12_mix 8 = .ok (.lmul, 1) := by decide +kernel
theorem dX12_mix_9 : decode cX12_mix 9 = .ok (.lload_n 1, 1) := by decide +kernel
theorem dX12_mix_10 : decode cX12_mix 10 = .ok (.ladd, 1) := by decide +kernel
theorem dX12_mix_11 : decode cX12_mix 11 = .ok (.putfield 286, 3) := by decide +kernel
theorem dX12_mix_14 : decode cX12_mix 14 = .ok (.return_, 1) := by decide +kernel
theorem dX12_digest_0 : decode cX12_digest 0 = .ok (.aload_n 0, 1) := by decide +kernel
theorem dX12_digest_1 : decode cX12_digest 1 = .ok (.ldc2_w 289, 3) := by decide +kernel
theorem dX12_digest_4 : decode cX12_digest 4 = .ok (.putfield 286, 3) := by decide +kernel
theorem dX12_digest_7 : decode cX12_digest 7 = .ok (.iconst 0, 1) := by decide +kernel
theorem dX12_digest_8 : decode cX12_digest 8 = .ok (.istore_n 1, 1) := by decide +kernel
theorem dX12_digest_9 : decode cX12_digest 9 = .ok (.iload_n 1, 1) := by decide +kernel
theorem dX12_digest_10 : decode cX12_digest 10 = .ok (.bipush 6, 2) := by decide +kernel
theorem dX12_digest_12 : decode cX12_digest 12 = .ok (.if_icmp .gt 19, 3) := by decide +kernel
theorem dX12_digest_15 : decode cX12_digest 15 = .ok (.aload_n 0, 1) := by decide +kernel
theorem dX12_digest_16 : decode cX12_digest 16 = .ok (.aload_n 0, 1) := by decide +kernel
theorem dX12_digest_17 : decode cX12_digest 17 = .ok (.iload_n 1, 1) := by decide +kernel
theorem dX12_digest_18 : decode cX12_digest 18 = .ok (.invokevirtual 281, 3) := by decide +kernel
theorem dX12_digest_21 : decode cX12_digest 21 = .ok (.i2l, 1) := by decide +kernel
theorem dX12_digest_22 : decode cX12_digest 22 = .ok (.invokevirtual 291, 3) := by decide +kernel
theorem dX12_digest_25 : decode cX12_digest 25 = .ok (.iinc 1 1, 3) := by decide +kernel
theorem dX12_digest_28 : decode cX12_digest 28 = .ok (.goto (-19), 3) := by decide +kernel
theorem dX12_digest_31 : decode cX12_digest 31 = .ok (.iconst 0, 1) := by decide +kernel
theorem dX12_digest_32 : decode cX12_digest 32 = .ok (.istore_n 1, 1) := by decide +kernel
theorem dX12_digest_33 : decode cX12_digest 33 = .ok (.iload_n 1, 1) := by decide +kernel
theorem dX12_digest_34 : decode cX12_digest 34 = .ok (.aload_n 0, 1) := by decide +kernel
theorem dX12_digest_35 : decode cX12_digest 35 = .ok (.getfield 77, 3) := by decide +kernel
theorem dX12_digest_38 : decode cX12_digest 38 = .ok (.if_icmp .ge 77, 3) := by decide +kernel
theorem dX12_digest_41 : decode cX12_digest 41 = .ok (.aload_n 0, 1) := by decide +kernel
theorem dX12_digest_42 : decode cX12_digest 42 = .ok (.aload_n 0, 1) := by decide +kernel
theorem dX12_digest_43 : decode cX12_digest 43 = .ok (.getfield 13, 3) := by decide +kernel
theorem dX12_digest_46 : decode cX12_digest 46 = .ok (.iload_n 1, 1) := by decide +kernel
theorem dX12_digest_47 : decode cX12_digest 47 = .ok (.iaload, 1) := by decide +kernel
theorem dX12_digest_48 : decode cX12_digest 48 = .ok (.i2l, 1) := by decide +kernel
theorem dX12_digest_49 : decode cX12_digest 49 = .ok (.invokevirtual 291, 3) := by decide +kernel
theorem dX12_digest_52 : decode cX12_digest 52 = .ok (.aload_n 0, 1) := by decide +kernel
theorem dX12_digest_53 : decode cX12_digest 53 = .ok (.aload_n 0, 1) := by decide +kernel
theorem dX12_digest_54 : decode cX12_digest 54 = .ok (.getfield 16, 3) := by decide +kernel
theorem dX12_digest_57 : decode cX12_digest 57 = .ok (.iload_n 1, 1) := by decide +kernel
theorem dX12_digest_58 : decode cX12_digest 58 = .ok (.iaload, 1) := by decide +kernel
theorem dX12_digest_59 : decode cX12_digest 59 = .ok (.i2l, 1) := by decide +kernel
theorem dX12_digest_60 : decode cX12_digest 60 = .ok (.invokevirtual 291, 3) := by decide +kernel
theorem dX12_digest_63 : decode cX12_digest 63 = .ok (.aload_n 0, 1) := by decide +kernel
theorem dX12_digest_64 : decode cX12_digest 64 = .ok (.aload_n 0, 1) := by decide +kernel
theorem dX12_digest_65 : decode cX12_digest 65 = .ok (.getfield 19, 3) := by decide +kernel
theorem dX12_digest_68 : decode cX12_digest 68 = .ok (.iload_n 1, 1) := by decide +kernel
theorem dX12_digest_69 : decode cX12_digest 69 = .ok (.iaload, 1) := by decide +kernel
theorem dX12_digest_70 : decode cX12_digest 70 = .ok (.i2l, 1) := by decide +kernel
theorem dX12_digest_71 : decode cX12_digest 71 = .ok (.invokevirtual 291, 3) := by decide +kernel
theorem dX12_digest_74 : decode cX12_digest 74 = .ok (.aload_n 0, 1) := by decide +kernel
theorem dX12_digest_75 : decode cX12_digest 75 = .ok (.aload_n 0, 1) := by decide +kernel
theorem dX12_digest_76 : decode cX12_digest 76 = .ok (.getfield 22, 3) := by decide +kernel
theorem dX12_digest_79 : decode cX12_digest 79 = .ok (.iload_n 1, 1) := by decide +kernel
theorem dX12_digest_80 : decode cX12_digest 80 = .ok (.iaload, 1) := by decide +kernel
theorem dX12_digest_81 : decode cX12_digest 81 = .ok (.i2l, 1) := by decide +kernel
theorem dX12_digest_82 : decode cX12_digest 82 = .ok (.invokevirtual 291, 3) := by decide +kernel
theorem dX12_digest_85 : decode cX12_digest 85 = .ok (.aload_n 0, 1) := by decide +kernel
theorem dX12_digest_86 : decode cX12_digest 86 = .ok (.aload_n 0, 1) := by decide +kernel
theorem dX12_digest_87 : decode cX12_digest 87 = .ok (.getfield 84, 3) := by decide +kernel
theorem dX12_digest_90 : decode cX12_digest 90 = .ok (.iload_n 1, 1) := by decide +kernel
theorem dX12_digest_91 : decode cX12_digest 91 = .ok (.ishr, 1) := by decide +kernel
theorem dX12_digest_92 : decode cX12_digest 92 = .ok (.iconst 1, 1) := by decide +kernel
theorem dX12_digest_93 : decode cX12_digest 93 = .ok (.iand, 1) := by decide +kernel
theorem dX12_digest_94 : decode cX12_digest 94 = .ok (.i2l, 1) := by decide +kernel
theorem dX12_digest_95 : decode cX12_digest 95 = .ok (.invokevirtual 291, 3) := by decide +kernel
theorem dX12_digest_98 : decode cX12_digest 98 = .ok (.aload_n 0, 1) := by decide +kernel
theorem dX12_digest_99 : decode cX12_digest 99 = .ok (.aload_n 0, 1) := by decide +kernel
theorem dX12_digest_100 : decode cX12_digest 100 = .ok (.getfield 25, 3) := by decide +kernel
theorem dX12_digest_103 : decode cX12_digest 103 = .ok (.iload_n 1, 1) := by decide +kernel
theorem dX12_digest_104 : decode cX12_digest 104 = .ok (.iaload, 1) := by decide +kernel
theorem dX12_digest_105 : decode cX12_digest 105 = .ok (.i2l, 1) := by decide +kernel
theorem dX12_digest_106 : decode cX12_digest 106 = .ok (.invokevirtual 291, 3) := by decide +kernel
theorem dX12_digest_109 : decode cX12_digest 109 = .ok (.iinc 1 1, 3) := by decide +kernel
theorem dX12_digest_112 : decode cX12_digest 112 = .ok (.goto (-79), 3) := by decide +kernel
theorem dX12_digest_115 : decode cX12_digest 115 = .ok (.iconst 0, 1) := by decide +kernel
theorem dX12_digest_116 : decode cX12_digest 116 = .ok (.istore_n 1, 1) := by decide +kernel
theorem dX12_digest_117 : decode cX12_digest 117 = .ok (.iload_n 1, 1) := by decide +kernel
theorem dX12_digest_118 : decode cX12_digest 118 = .ok (.aload_n 0, 1) := by decide +kernel
theorem dX12_digest_119 : decode cX12_digest 119 = .ok (.getfield 87, 3) := by decide +kernel
theorem dX12_digest_122 : decode cX12_digest 122 = .ok (.if_icmp .ge 53, 3) := by decide +kernel
theorem dX12_digest_125 : decode cX12_digest 125 = .ok (.aload_n 0, 1) := by decide +kernel
theorem dX12_digest_126 : decode cX12_digest 126 = .ok (.aload_n 0, 1) := by decide +kernel
theorem dX12_digest_127 : decode cX12_digest 127 = .ok (.getfield 28, 3) := by decide +kernel
theorem dX12_digest_130 : decode cX12_digest 130 = .ok (.iload_n 1, 1) := by decide +kernel
theorem dX12_digest_131 : decode cX12_digest 131 = .ok (.iaload, 1) := by decide +kernel
theorem dX12_digest_132 : decode cX12_digest 132 = .ok (.i2l, 1) := by decide +kernel
theorem dX12_digest_133 : decode cX12_digest 133 = .ok (.invokevirtual 291, 3) := by decide +kernel
theorem dX12_digest_136 : decode cX12_digest 136 = .ok (.aload_n 0, 1) := by decide +kernel
theorem dX12_digest_137 : decode cX12_digest 137 = .ok (.aload_n 0, 1) := by decide +kernel
theorem dX12_digest_138 : decode cX12_digest 138 = .ok (.getfield 31, 3) := by decide +kernel
theorem dX12_digest_141 : decode cX12_digest 141 = .ok (.iload_n 1, 1) := by decide +kernel
theorem dX12_digest_142 : decode cX12_digest 142 = .ok (.iaload, 1) := by decide +kernel
theorem dX12_digest_143 : decode cX12_digest 143 = .ok (.i2l, 1) := by decide +kernel
theorem dX12_digest_144 : decode cX12_digest 144 = .ok (.invokevirtual 291, 3) := by decide +kernel
theorem dX12_digest_147 : decode cX12_digest 147 = .ok (.aload_n 0, 1) := by decide +kernel
theorem dX12_digest_148 : decode cX12_digest 148 = .ok (.aload_n 0, 1) := by decide +kernel
theorem dX12_digest_149 : decode cX12_digest 149 = .ok (.getfield 34, 3) := by decide +kernel
theorem dX12_digest_152 : decode cX12_digest 152 = .ok (.iload_n 1, 1) := by decide +kernel
theorem dX12_digest_153 : decode cX12_digest 153 = .ok (.iaload, 1) := by decide +kernel
theorem dX12_digest_154 : decode cX12_digest 154 = .ok (.i2l, 1) := by decide +kernel
theorem dX12_digest_155 : decode cX12_digest 155 = .ok (.invokevirtual 291, 3) := by decide +kernel
theorem dX12_digest_158 : decode cX12_digest 158 = .ok (.aload_n 0, 1) := by decide +kernel
theorem dX12_digest_159 : decode cX12_digest 159 = .ok (.aload_n 0, 1) := by decide +kernel
theorem dX12_digest_160 : decode cX12_digest 160 = .ok (.getfield 37, 3) := by decide +kernel
theorem dX12_digest_163 : decode cX12_digest 163 = .ok (.iload_n 1, 1) := by decide +kernel
theorem dX12_digest_164 : decode cX12_digest 164 = .ok (.iaload, 1) := by decide +kernel
theorem dX12_digest_165 : decode cX12_digest 165 = .ok (.i2l, 1) := by decide +kernel
theorem dX12_digest_166 : decode cX12_digest 166 = .ok (.invokevirtual 291, 3) := by decide +kernel
theorem dX12_digest_169 : decode cX12_digest 169 = .ok (.iinc 1 1, 3) := by decide +kernel
theorem dX12_digest_172 : decode cX12_digest 172 = .ok (.goto (-55), 3) := by decide +kernel
theorem dX12_digest_175 : decode cX12_digest 175 = .ok (.aload_n 0, 1) := by decide +kernel
theorem dX12_digest_176 : decode cX12_digest 176 = .ok (.aload_n 0, 1) := by decide +kernel
theorem dX12_digest_177 : decode cX12_digest 177 = .ok (.getfield 242, 3) := by decide +kernel
theorem dX12_digest_180 : decode cX12_digest 180 = .ok (.invokevirtual 291, 3) := by decide +kernel
theorem dX12_digest_183 : decode cX12_digest 183 = .ok (.aload_n 0, 1) := by decide +kernel
theorem dX12_digest_184 : decode cX12_digest 184 = .ok (.aload_n 0, 1) := by decide +kernel
theorem dX12_digest_185 : decode cX12_digest 185 = .ok (.getfield 64, 3) := by decide +kernel
theorem dX12_digest_188 : decode cX12_digest 188 = .ok (.invokevirtual 291, 3) := by decide +kernel
theorem dX12_digest_191 : decode cX12_digest 191 = .ok (.aload_n 0, 1) := by decide +kernel
theorem dX12_digest_192 : decode cX12_digest 192 = .ok (.getfield 286, 3) := by decide +kernel
theorem dX12_digest_195 : decode cX12_digest 195 = .ok (.lreturn, 1) := by decide +kernel
