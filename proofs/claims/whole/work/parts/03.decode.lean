theorem dX0_init_0 : decode cX0_init 0 = .ok (.aload_n 0, 1) := by decide +kernel
theorem dX0_init_1 : decode cX0_init 1 = .ok (.invokespecial 1, 3) := by decide +kernel
theorem dX0_init_4 : decode cX0_init 4 = .ok (.aload_n 0, 1) := by decide +kernel
theorem dX0_init_5 : decode cX0_init 5 = .ok (.bipush 24, 2) := by decide +kernel
theorem dX0_init_7 : decode cX0_init 7 = .ok (.bipush 122, 2) := by decide +kernel
theorem dX0_init_9 : decode cX0_init 9 = .ok (.multianewarray 11 2, 4) := by decide +kernel
theorem dX0_init_13 : decode cX0_init 13 = .ok (.putfield 13, 3) := by decide +kernel
theorem dX0_init_16 : decode cX0_init 16 = .ok (.aload_n 0, 1) := by decide +kernel
theorem dX0_init_17 : decode cX0_init 17 = .ok (.iconst 0, 1) := by decide +kernel
theorem dX0_init_18 : decode cX0_init 18 = .ok (.putfield 16, 3) := by decide +kernel
theorem dX0_init_21 : decode cX0_init 21 = .ok (.aload_n 0, 1) := by decide +kernel
theorem dX0_init_22 : decode cX0_init 22 = .ok (.iconst 0, 1) := by decide +kernel
theorem dX0_init_23 : decode cX0_init 23 = .ok (.putfield 20, 3) := by decide +kernel
theorem dX0_init_26 : decode cX0_init 26 = .ok (.return_, 1) := by decide +kernel
theorem dX0_number_0 : decode cX0_number 0 = .ok (.aload_n 0, 1) := by decide +kernel
theorem dX0_number_1 : decode cX0_number 1 = .ok (.getfield 20, 3) := by decide +kernel
theorem dX0_number_4 : decode cX0_number 4 = .ok (.ireturn, 1) := by decide +kernel
theorem dX0_forgetAll_0 : decode cX0_forgetAll 0 = .ok (.aload_n 0, 1) := by decide +kernel
theorem dX0_forgetAll_1 : decode cX0_forgetAll 1 = .ok (.iconst 0, 1) := by decide +kernel
theorem dX0_forgetAll_2 : decode cX0_forgetAll 2 = .ok (.putfield 20, 3) := by decide +kernel
theorem dX0_forgetAll_5 : decode cX0_forgetAll 5 = .ok (.return_, 1) := by decide +kernel
theorem dX0_keep_0 : decode cX0_keep 0 = .ok (.aload_n 1, 1) := by decide +kernel
theorem dX0_keep_1 : decode cX0_keep 1 = .ok (.aload_n 0, 1) := by decide +kernel
theorem dX0_keep_2 : decode cX0_keep 2 = .ok (.getfield 13, 3) := by decide +kernel
theorem dX0_keep_5 : decode cX0_keep 5 = .ok (.aload_n 0, 1) := by decide +kernel
theorem dX0_keep_6 : decode cX0_keep 6 = .ok (.getfield 16, 3) := by decide +kernel
theorem dX0_keep_9 : decode cX0_keep 9 = .ok (.aaload, 1) := by decide +kernel
theorem dX0_keep_10 : decode cX0_keep 10 = .ok (.invokevirtual 23, 3) := by decide +kernel
theorem dX0_keep_13 : decode cX0_keep 13 = .ok (.aload_n 0, 1) := by decide +kernel
theorem dX0_keep_14 : decode cX0_keep 14 = .ok (.aload_n 0, 1) := by decide +kernel
theorem dX0_keep_15 : decode cX0_keep 15 = .ok (.getfield 16, 3) := by decide +kernel
theorem dX0_keep_18 : decode cX0_keep 18 = .ok (.iconst 1, 1) := by decide +kernel
theorem dX0_keep_19 : decode cX0_keep 19 = .ok (.iadd, 1) := by decide +kernel
theorem dX0_keep_20 : decode cX0_keep 20 = .ok (.bipush 24, 2) := by decide +kernel
theorem dX0_keep_22 : decode cX0_keep 22 = .ok (.irem, 1) := by decide +kernel
theorem dX0_keep_23 : decode cX0_keep 23 = .ok (.putfield 16, 3) := by decide +kernel
theorem dX0_keep_26 : decode cX0_keep 26 = .ok (.aload_n 0, 1) := by decide +kernel
theorem dX0_keep_27 : decode cX0_keep 27 = .ok (.aload_n 0, 1) := by decide +kernel
theorem dX0_keep_28 : decode cX0_keep 28 = .ok (.getfield 20, 3) := by decide +kernel
theorem dX0_keep_31 : decode cX0_keep 31 = .ok (.iconst 1, 1) := by decide +kernel
theorem dX0_keep_32 : decode cX0_keep 32 = .ok (.iadd, 1) := by decide +kernel
theorem dX0_keep_33 : decode cX0_keep 33 = .ok (.bipush 24, 2) := by decide +kernel
theorem dX0_keep_35 : decode cX0_keep 35 = .ok (.invokestatic 27, 3) := by decide +kernel
theorem dX0_keep_38 : decode cX0_keep 38 = .ok (.putfield 20, 3) := by decide +kernel
theorem dX0_keep_41 : decode cX0_keep 41 = .ok (.return_, 1) := by decide +kernel
theorem dX0_takeBack_0 : decode cX0_takeBack 0 = .ok (.aload_n 0, 1) := by decide +kernel
theorem dX0_takeBack_1 : decode cX0_takeBack 1 = .ok (.getfield 20, 3) := by decide +kernel
theorem dX0_takeBack_4 : decode cX0_takeBack 4 = .ok (.ifCond .ne 4, 3) := by decide +kernel
theorem dX0_takeBack_7 : decode cX0_takeBack 7 = .ok (.return_, 1) := by decide +kernel
theorem dX0_takeBack_8 : decode cX0_takeBack 8 = .ok (.aload_n 0, 1) := by decide +kernel
theorem dX0_takeBack_9 : decode cX0_takeBack 9 = .ok (.aload_n 0, 1) := by decide +kernel
theorem dX0_takeBack_10 : decode cX0_takeBack 10 = .ok (.getfield 16, 3) := by decide +kernel
theorem dX0_takeBack_13 : decode cX0_takeBack 13 = .ok (.bipush 24, 2) := by decide +kernel
theorem dX0_takeBack_15 : decode cX0_takeBack 15 = .ok (.iadd, 1) := by decide +kernel
theorem dX0_takeBack_16 : decode cX0_takeBack 16 = .ok (.iconst 1, 1) := by decide +kernel
theorem dX0_takeBack_17 : decode cX0_takeBack 17 = .ok (.isub, 1) := by decide +kernel
theorem dX0_takeBack_18 : decode cX0_takeBack 18 = .ok (.bipush 24, 2) := by decide +kernel
theorem dX0_takeBack_20 : decode cX0_takeBack 20 = .ok (.irem, 1) := by decide +kernel
theorem dX0_takeBack_21 : decode cX0_takeBack 21 = .ok (.putfield 16, 3) := by decide +kernel
theorem dX0_takeBack_24 : decode cX0_takeBack 24 = .ok (.aload_n 0, 1) := by decide +kernel
theorem dX0_takeBack_25 : decode cX0_takeBack 25 = .ok (.dup, 1) := by decide +kernel
theorem dX0_takeBack_26 : decode cX0_takeBack 26 = .ok (.getfield 20, 3) := by decide +kernel
theorem dX0_takeBack_29 : decode cX0_takeBack 29 = .ok (.iconst 1, 1) := by decide +kernel
theorem dX0_takeBack_30 : decode cX0_takeBack 30 = .ok (.isub, 1) := by decide +kernel
theorem dX0_takeBack_31 : decode cX0_takeBack 31 = .ok (.putfield 20, 3) := by decide +kernel
theorem dX0_takeBack_34 : decode cX0_takeBack 34 = .ok (.aload_n 1, 1) := by decide +kernel
theorem dX0_takeBack_35 : decode cX0_takeBack 35 = .ok (.aload_n 0, 1) := by decide +kernel
theorem dX0_takeBack_36 : decode cX0_takeBack 36 = .ok (.getfield 13, 3) := by decide +kernel
theorem dX0_takeBack_39 : decode cX0_takeBack 39 = .ok (.aload_n 0, 1) := by decide +kernel
theorem dX0_takeBack_40 : decode cX0_takeBack 40 = .ok (.getfield 16, 3) := by decide +kernel
theorem dX0_takeBack_43 : decode cX0_takeBack 43 = .ok (.aaload, 1) := by decide +kernel
theorem dX0_takeBack_44 : decode cX0_takeBack 44 = .ok (.invokevirtual 33, 3) := by decide +kernel
theorem dX0_takeBack_47 : decode cX0_takeBack 47 = .ok (.return_, 1) := by decide +kernel
theorem dX1_init_0 : decode cX1_init 0 = .ok (.aload_n 0, 1) := by decide +kernel
theorem dX1_init_1 : decode cX1_init 1 = .ok (.invokespecial 3, 3) := by decide +kernel
theorem dX1_init_4 : decode cX1_init 4 = .ok (.aload_n 0, 1) := by decide +kernel
theorem dX1_init_5 : decode cX1_init 5 = .ok (.aload_n 1, 1) := by decide +kernel
theorem dX1_init_6 : decode cX1_init 6 = .ok (.putfield 9, 3) := by decide +kernel
theorem dX1_init_9 : decode cX1_init 9 = .ok (.aload_n 0, 1) := by decide +kernel
theorem dX1_init_10 : decode cX1_init 10 = .ok (.bipush 16, 2) := by decide +kernel
theorem dX1_init_12 : decode cX1_init 12 = .ok (.newarray .int, 2) := by decide +kernel
theorem dX1_init_14 : decode cX1_init 14 = .ok (.putfield 15, 3) := by decide +kernel
theorem dX1_init_17 : decode cX1_init 17 = .ok (.aload_n 0, 1) := by decide +kernel
theorem dX1_init_18 : decode cX1_init 18 = .ok (.iconst 0, 1) := by decide +kernel
theorem dX1_init_19 : decode cX1_init 19 = .ok (.putfield 19, 3) := by decide +kernel
theorem dX1_init_22 : decode cX1_init 22 = .ok (.return_, 1) := by decide +kernel
theorem dX1_clearTrace_0 : decode cX1_clearTrace 0 = .ok (.aload_n 0, 1) := by decide +kernel
theorem dX1_clearTrace_1 : decode cX1_clearTrace 1 = .ok (.iconst 0, 1) := by decide +kernel
theorem dX1_clearTrace_2 : decode cX1_clearTrace 2 = .ok (.putfield 19, 3) := by decide +kernel
theorem dX1_clearTrace_5 : decode cX1_clearTrace 5 = .ok (.return_, 1) := by decide +kernel
theorem dX1_traced_0 : decode cX1_traced 0 = .ok (.iload_n 1, 1) := by decide +kernel
theorem dX1_traced_1 : decode cX1_traced 1 = .ok (.ifCond .lt 20, 3) := by decide +kernel
theorem dX1_traced_4 : decode cX1_traced 4 = .ok (.iload_n 1, 1) := by decide +kernel
theorem dX1_traced_5 : decode cX1_traced 5 = .ok (.aload_n 0, 1) := by decide +kernel
theorem dX1_traced_6 : decode cX1_traced 6 = .ok (.getfield 19, 3) := by decide +kernel
theorem dX1_traced_9 : decode cX1_traced 9 = .ok (.if_icmp .ge 12, 3) := by decide +kernel
theorem dX1_traced_12 : decode cX1_traced 12 = .ok (.aload_n 0, 1) := by decide +kernel
theorem dX1_traced_13 : decode cX1_traced 13 = .ok (.getfield 15, 3) := by decide +kernel
theorem dX1_traced_16 : decode cX1_traced 16 = .ok (.iload_n 1, 1) := by decide +kernel
theorem dX1_traced_17 : decode cX1_traced 17 = .ok (.iaload, 1) := by decide +kernel
theorem dX1_traced_18 : decode cX1_traced 18 = .ok (.goto 5, 3) := by decide +kernel
theorem dX1_traced_21 : decode cX1_traced 21 = .ok (.ldc 23, 2) := by decide +kernel
theorem dX1_traced_23 : decode cX1_traced 23 = .ok (.ireturn, 1) := by decide +kernel
theorem dX1_answer_0 : decode cX1_answer 0 = .ok (.aload_n 0, 1) := by decide +kernel
theorem dX1_answer_1 : decode cX1_answer 1 = .ok (.aload_n 0, 1) := by decide +kernel
theorem dX1_answer_2 : decode cX1_answer 2 = .ok (.getfield 9, 3) := by decide +kernel
theorem dX1_answer_5 : decode cX1_answer 5 = .ok (.iload_n 1, 1) := by decide +kernel
theorem dX1_answer_6 : decode cX1_answer 6 = .ok (.invokevirtual 24, 3) := by decide +kernel
theorem dX1_answer_9 : decode cX1_answer 9 = .ok (.iload_n 2, 1) := by decide +kernel
theorem dX1_answer_10 : decode cX1_answer 10 = .ok (.invokestatic 30, 3) := by decide +kernel
theorem dX1_answer_13 : decode cX1_answer 13 = .ok (.iload_n 1, 1) := by decide +kernel
theorem dX1_answer_14 : decode cX1_answer 14 = .ok (.iload_n 3, 1) := by decide +kernel
theorem dX1_answer_15 : decode cX1_answer 15 = .ok (.iconst 1, 1) := by decide +kernel
theorem dX1_answer_16 : decode cX1_answer 16 = .ok (.iadd, 1) := by decide +kernel
theorem dX1_answer_17 : decode cX1_answer 17 = .ok (.invokevirtual 34, 3) := by decide +kernel
theorem dX1_answer_20 : decode cX1_answer 20 = .ok (.ireturn, 1) := by decide +kernel
theorem dX1_bodyFor_0 : decode cX1_bodyFor 0 = .ok (.iload_n 0, 1) := by decide +kernel
theorem dX1_bodyFor_1 : decode cX1_bodyFor 1 = .ok (.istore_n 2, 1) := by decide +kernel
theorem dX1_bodyFor_2 : decode cX1_bodyFor 2 = .ok (.iconst 0, 1) := by decide +kernel
theorem dX1_bodyFor_3 : decode cX1_bodyFor 3 = .ok (.istore_n 3, 1) := by decide +kernel
theorem dX1_bodyFor_4 : decode cX1_bodyFor 4 = .ok (.iload_n 3, 1) := by decide +kernel
theorem dX1_bodyFor_5 : decode cX1_bodyFor 5 = .ok (.iconst 5, 1) := by decide +kernel
theorem dX1_bodyFor_6 : decode cX1_bodyFor 6 = .ok (.if_icmp .gt 48, 3) := by decide +kernel
theorem dX1_bodyFor_9 : decode cX1_bodyFor 9 = .ok (.iload_n 2, 1) := by decide +kernel
theorem dX1_bodyFor_10 : decode cX1_bodyFor 10 = .ok (.invokestatic 40, 3) := by decide +kernel
theorem dX1_bodyFor_13 : decode cX1_bodyFor 13 = .ok (.ifCond .eq 41, 3) := by decide +kernel
theorem dX1_bodyFor_16 : decode cX1_bodyFor 16 = .ok (.iload_n 1, 1) := by decide +kernel
theorem dX1_bodyFor_17 : decode cX1_bodyFor 17 = .ok (.ifCond .ne 11, 3) := by decide +kernel
theorem dX1_bodyFor_20 : decode cX1_bodyFor 20 = .ok (.getstatic 44, 3) := by decide +kernel
theorem dX1_bodyFor_23 : decode cX1_bodyFor 23 = .ok (.iload_n 2, 1) := by decide +kernel
theorem dX1_bodyFor_24 : decode cX1_bodyFor 24 = .ok (.iaload, 1) := by decide +kernel
theorem dX1_bodyFor_25 : decode cX1_bodyFor 25 = .ok (.goto 8, 3) := by decide +kernel
theorem dX1_bodyFor_28 : decode cX1_bodyFor 28 = .ok (.getstatic 47, 3) := by decide +kernel
theorem dX1_bodyFor_31 : decode cX1_bodyFor 31 = .ok (.iload_n 2, 1) := by decide +kernel
theorem dX1_bodyFor_32 : decode cX1_bodyFor 32 = .ok (.iaload, 1) := by decide +kernel
theorem dX1_bodyFor_33 : decode cX1_bodyFor 33 = .ok (.istore 4, 2) := by decide +kernel
theorem dX1_bodyFor_35 : decode cX1_bodyFor 35 = .ok (.iload 4, 2) := by decide +kernel
theorem dX1_bodyFor_37 : decode cX1_bodyFor 37 = .ok (.ifCond .eq 6, 3) := by decide +kernel
theorem dX1_bodyFor_40 : decode cX1_bodyFor 40 = .ok (.iload 4, 2) := by decide +kernel
theorem dX1_bodyFor_42 : decode cX1_bodyFor 42 = .ok (.ireturn, 1) := by decide +kernel
theorem dX1_bodyFor_43 : decode cX1_bodyFor 43 = .ok (.iload_n 2, 1) := by decide +kernel
theorem dX1_bodyFor_44 : decode cX1_bodyFor 44 = .ok (.invokestatic 50, 3) := by decide +kernel
theorem dX1_bodyFor_47 : decode cX1_bodyFor 47 = .ok (.istore_n 2, 1) := by decide +kernel
theorem dX1_bodyFor_48 : decode cX1_bodyFor 48 = .ok (.iinc 3 1, 3) := by decide +kernel
theorem dX1_bodyFor_51 : decode cX1_bodyFor 51 = .ok (.goto (-47), 3) := by decide +kernel
theorem dX1_bodyFor_54 : decode cX1_bodyFor 54 = .ok (.iload_n 1, 1) := by decide +kernel
theorem dX1_bodyFor_55 : decode cX1_bodyFor 55 = .ok (.ifCond .ne 8, 3) := by decide +kernel
theorem dX1_bodyFor_58 : decode cX1_bodyFor 58 = .ok (.bipush 10, 2) := by decide +kernel
theorem dX1_bodyFor_60 : decode cX1_bodyFor 60 = .ok (.goto 5, 3) := by decide +kernel
theorem dX1_bodyFor_63 : decode cX1_bodyFor 63 = .ok (.bipush 20, 2) := by decide +kernel
theorem dX1_bodyFor_65 : decode cX1_bodyFor 65 = .ok (.ireturn, 1) := by decide +kernel
theorem dX1_begin_0 : decode cX1_begin 0 = .ok (.iload_n 3, 1) := by decide +kernel
theorem dX1_begin_1 : decode cX1_begin 1 = .ok (.bipush 30, 2) := by decide +kernel
theorem dX1_begin_3 : decode cX1_begin 3 = .ok (.if_icmp .le 5, 3) := by decide +kernel
theorem dX1_begin_6 : decode cX1_begin 6 = .ok (.iconst 0, 1) := by decide +kernel
theorem dX1_begin_7 : decode cX1_begin 7 = .ok (.ireturn, 1) := by decide +kernel
theorem dX1_begin_8 : decode cX1_begin 8 = .ok (.aload_n 0, 1) := by decide +kernel
theorem dX1_begin_9 : decode cX1_begin 9 = .ok (.iload_n 1, 1) := by decide +kernel
theorem dX1_begin_10 : decode cX1_begin 10 = .ok (.invokevirtual 53, 3) := by decide +kernel
theorem dX1_begin_13 : decode cX1_begin 13 = .ok (.iload_n 3, 1) := by decide +kernel
theorem dX1_begin_14 : decode cX1_begin 14 = .ok (.iconst 1, 1) := by decide +kernel
theorem dX1_begin_15 : decode cX1_begin 15 = .ok (.iadd, 1) := by decide +kernel
theorem dX1_begin_16 : decode cX1_begin 16 = .ok (.istore 4, 2) := by decide +kernel
theorem dX1_begin_18 : decode cX1_begin 18 = .ok (.iload_n 1, 1) := by decide +kernel
theorem dX1_begin_19 : decode cX1_begin 19 = .ok (.tableswitch 213 10 24 #[73, 82, 101, 112, 125, 213, 213, 213, 213, 213, 137, 139, 168, 182, 201], 73) := by decide +kernel
theorem dX1_begin_92 : decode cX1_begin 92 = .ok (.aload_n 0, 1) := by decide +kernel
theorem dX1_begin_93 : decode cX1_begin 93 = .ok (.getfield 9, 3) := by decide +kernel
theorem dX1_begin_96 : decode cX1_begin 96 = .ok (.iload_n 2, 1) := by decide +kernel
theorem dX1_begin_97 : decode cX1_begin 97 = .ok (.invokevirtual 57, 3) := by decide +kernel
theorem dX1_begin_100 : decode cX1_begin 100 = .ok (.ireturn, 1) := by decide +kernel
theorem dX1_begin_101 : decode cX1_begin 101 = .ok (.aload_n 0, 1) := by decide +kernel
theorem dX1_begin_102 : decode cX1_begin 102 = .ok (.bipush 10, 2) := by decide +kernel
theorem dX1_begin_104 : decode cX1_begin 104 = .ok (.iload_n 2, 1) := by decide +kernel
theorem dX1_begin_105 : decode cX1_begin 105 = .ok (.iload 4, 2) := by decide +kernel
theorem dX1_begin_107 : decode cX1_begin 107 = .ok (.invokevirtual 34, 3) := by decide +kernel
theorem dX1_begin_110 : decode cX1_begin 110 = .ok (.aload_n 0, 1) := by decide +kernel
theorem dX1_begin_111 : decode cX1_begin 111 = .ok (.iload_n 2, 1) := by decide +kernel
theorem dX1_begin_112 : decode cX1_begin 112 = .ok (.iconst 1, 1) := by decide +kernel
theorem dX1_begin_113 : decode cX1_begin 113 = .ok (.iload 4, 2) := by decide +kernel
theorem dX1_begin_115 : decode cX1_begin 115 = .ok (.invokevirtual 60, 3) := by decide +kernel
theorem dX1_begin_118 : decode cX1_begin 118 = .ok (.iadd, 1) := by decide +kernel
theorem dX1_begin_119 : decode cX1_begin 119 = .ok (.ireturn, 1) := by decide +kernel
theorem dX1_begin_120 : decode cX1_begin 120 = .ok (.aload_n 0, 1) := by decide +kernel
theorem dX1_begin_121 : decode cX1_begin 121 = .ok (.bipush 11, 2) := by decide +kernel
theorem dX1_begin_123 : decode cX1_begin 123 = .ok (.iload_n 2, 1) := by decide +kernel
theorem dX1_begin_124 : decode cX1_begin 124 = .ok (.iload 4, 2) := by decide +kernel
theorem dX1_begin_126 : decode cX1_begin 126 = .ok (.invokevirtual 34, 3) := by decide +kernel
theorem dX1_begin_129 : decode cX1_begin 129 = .ok (.ineg, 1) := by decide +kernel
theorem dX1_begin_130 : decode cX1_begin 130 = .ok (.ireturn, 1) := by decide +kernel
theorem dX1_begin_131 : decode cX1_begin 131 = .ok (.aload_n 0, 1) := by decide +kernel
theorem dX1_begin_132 : decode cX1_begin 132 = .ok (.bipush 10, 2) := by decide +kernel
theorem dX1_begin_134 : decode cX1_begin 134 = .ok (.iload_n 2, 1) := by decide +kernel
theorem dX1_begin_135 : decode cX1_begin 135 = .ok (.iload 4, 2) := by decide +kernel
theorem dX1_begin_137 : decode cX1_begin 137 = .ok (.invokevirtual 34, 3) := by decide +kernel
theorem dX1_begin_140 : decode cX1_begin 140 = .ok (.bipush 100, 2) := by decide +kernel
theorem dX1_begin_142 : decode cX1_begin 142 = .ok (.isub, 1) := by decide +kernel
theorem dX1_begin_143 : decode cX1_begin 143 = .ok (.ireturn, 1) := by decide +kernel
theorem dX1_begin_144 : decode cX1_begin 144 = .ok (.aload_n 0, 1) := by decide +kernel
theorem dX1_begin_145 : decode cX1_begin 145 = .ok (.bipush 13, 2) := by decide +kernel
theorem dX1_begin_147 : decode cX1_begin 147 = .ok (.iload_n 2, 1) := by decide +kernel
theorem dX1_begin_148 : decode cX1_begin 148 = .ok (.iload 4, 2) := by decide +kernel
theorem dX1_begin_150 : decode cX1_begin 150 = .ok (.invokevirtual 34, 3) := by decide +kernel
theorem dX1_begin_153 : decode cX1_begin 153 = .ok (.iconst 2, 1) := by decide +kernel
theorem dX1_begin_154 : decode cX1_begin 154 = .ok (.imul, 1) := by decide +kernel
theorem dX1_begin_155 : decode cX1_begin 155 = .ok (.ireturn, 1) := by decide +kernel
theorem dX1_begin_156 : decode cX1_begin 156 = .ok (.iload_n 2, 1) := by decide +kernel
theorem dX1_begin_157 : decode cX1_begin 157 = .ok (.ireturn, 1) := by decide +kernel
theorem dX1_begin_158 : decode cX1_begin 158 = .ok (.aload_n 0, 1) := by decide +kernel
theorem dX1_begin_159 : decode cX1_begin 159 = .ok (.bipush 20, 2) := by decide +kernel
theorem dX1_begin_161 : decode cX1_begin 161 = .ok (.iload_n 2, 1) := by decide +kernel
theorem dX1_begin_162 : decode cX1_begin 162 = .ok (.iload 4, 2) := by decide +kernel
theorem dX1_begin_164 : decode cX1_begin 164 = .ok (.invokevirtual 34, 3) := by decide +kernel
theorem dX1_begin_167 : decode cX1_begin 167 = .ok (.aload_n 0, 1) := by decide +kernel
theorem dX1_begin_168 : decode cX1_begin 168 = .ok (.getfield 9, 3) := by decide +kernel
theorem dX1_begin_171 : decode cX1_begin 171 = .ok (.iload_n 2, 1) := by decide +kernel
theorem dX1_begin_172 : decode cX1_begin 172 = .ok (.aload_n 0, 1) := by decide +kernel
theorem dX1_begin_173 : decode cX1_begin 173 = .ok (.getfield 9, 3) := by decide +kernel
theorem dX1_begin_176 : decode cX1_begin 176 = .ok (.invokevirtual 63, 3) := by decide +kernel
theorem dX1_begin_179 : decode cX1_begin 179 = .ok (.invokevirtual 67, 3) := by decide +kernel
theorem dX1_begin_182 : decode cX1_begin 182 = .ok (.invokestatic 70, 3) := by decide +kernel
theorem dX1_begin_185 : decode cX1_begin 185 = .ok (.iadd, 1) := by decide +kernel
theorem dX1_begin_186 : decode cX1_begin 186 = .ok (.ireturn, 1) := by decide +kernel
theorem dX1_begin_187 : decode cX1_begin 187 = .ok (.aload_n 0, 1) := by decide +kernel
theorem dX1_begin_188 : decode cX1_begin 188 = .ok (.bipush 21, 2) := by decide +kernel
theorem dX1_begin_190 : decode cX1_begin 190 = .ok (.iload_n 2, 1) := by decide +kernel
theorem dX1_begin_191 : decode cX1_begin 191 = .ok (.iload 4, 2) := by decide +kernel
theorem dX1_begin_193 : decode cX1_begin 193 = .ok (.invokevirtual 34, 3) := by decide +kernel
theorem dX1_begin_196 : decode cX1_begin 196 = .ok (.sipush 1000, 3) := by decide +kernel
theorem dX1_begin_199 : decode cX1_begin 199 = .ok (.isub, 1) := by decide +kernel
theorem dX1_begin_200 : decode cX1_begin 200 = .ok (.ireturn, 1) := by decide +kernel
theorem dX1_begin_201 : decode cX1_begin 201 = .ok (.aload_n 0, 1) := by decide +kernel
theorem dX1_begin_202 : decode cX1_begin 202 = .ok (.bipush 20, 2) := by decide +kernel
theorem dX1_begin_204 : decode cX1_begin 204 = .ok (.iload_n 2, 1) := by decide +kernel
theorem dX1_begin_205 : decode cX1_begin 205 = .ok (.iload 4, 2) := by decide +kernel
theorem dX1_begin_207 : decode cX1_begin 207 = .ok (.invokevirtual 34, 3) := by decide +kernel
theorem dX1_begin_210 : decode cX1_begin 210 = .ok (.aload_n 0, 1) := by decide +kernel
theorem dX1_begin_211 : decode cX1_begin 211 = .ok (.iload_n 2, 1) := by decide +kernel
theorem dX1_begin_212 : decode cX1_begin 212 = .ok (.iconst 0, 1) := by decide +kernel
theorem dX1_begin_213 : decode cX1_begin 213 = .ok (.iload 4, 2) := by decide +kernel
theorem dX1_begin_215 : decode cX1_begin 215 = .ok (.invokevirtual 60, 3) := by decide +kernel
theorem dX1_begin_218 : decode cX1_begin 218 = .ok (.isub, 1) := by decide +kernel
theorem dX1_begin_219 : decode cX1_begin 219 = .ok (.ireturn, 1) := by decide +kernel
theorem dX1_begin_220 : decode cX1_begin 220 = .ok (.aload_n 0, 1) := by decide +kernel
theorem dX1_begin_221 : decode cX1_begin 221 = .ok (.bipush 21, 2) := by decide +kernel
theorem dX1_begin_223 : decode cX1_begin 223 = .ok (.iload_n 2, 1) := by decide +kernel
theorem dX1_begin_224 : decode cX1_begin 224 = .ok (.iload 4, 2) := by decide +kernel
theorem dX1_begin_226 : decode cX1_begin 226 = .ok (.invokevirtual 34, 3) := by decide +kernel
theorem dX1_begin_229 : decode cX1_begin 229 = .ok (.iconst 2, 1) := by decide +kernel
theorem dX1_begin_230 : decode cX1_begin 230 = .ok (.imul, 1) := by decide +kernel
theorem dX1_begin_231 : decode cX1_begin 231 = .ok (.ireturn, 1) := by decide +kernel
theorem dX1_begin_232 : decode cX1_begin 232 = .ok (.iconst 0, 1) := by decide +kernel
theorem dX1_begin_233 : decode cX1_begin 233 = .ok (.ireturn, 1) := by decide +kernel
theorem dX1_leave_0 : decode cX1_leave 0 = .ok (.aload_n 0, 1) := by decide +kernel
theorem dX1_leave_1 : decode cX1_leave 1 = .ok (.getfield 19, 3) := by decide +kernel
theorem dX1_leave_4 : decode cX1_leave 4 = .ok (.bipush 16, 2) := by decide +kernel
theorem dX1_leave_6 : decode cX1_leave 6 = .ok (.if_icmp .ge 23, 3) := by decide +kernel
theorem dX1_leave_9 : decode cX1_leave 9 = .ok (.aload_n 0, 1) := by decide +kernel
theorem dX1_leave_10 : decode cX1_leave 10 = .ok (.getfield 15, 3) := by decide +kernel
theorem dX1_leave_13 : decode cX1_leave 13 = .ok (.aload_n 0, 1) := by decide +kernel
theorem dX1_leave_14 : decode cX1_leave 14 = .ok (.getfield 19, 3) := by decide +kernel
theorem dX1_leave_17 : decode cX1_leave 17 = .ok (.iload_n 1, 1) := by decide +kernel
theorem dX1_leave_18 : decode cX1_leave 18 = .ok (.iastore, 1) := by decide +kernel
theorem dX1_leave_19 : decode cX1_leave 19 = .ok (.aload_n 0, 1) := by decide +kernel
theorem dX1_leave_20 : decode cX1_leave 20 = .ok (.dup, 1) := by decide +kernel
theorem dX1_leave_21 : decode cX1_leave 21 = .ok (.getfield 19, 3) := by decide +kernel
theorem dX1_leave_24 : decode cX1_leave 24 = .ok (.iconst 1, 1) := by decide +kernel
theorem dX1_leave_25 : decode cX1_leave 25 = .ok (.iadd, 1) := by decide +kernel
theorem dX1_leave_26 : decode cX1_leave 26 = .ok (.putfield 19, 3) := by decide +kernel
theorem dX1_leave_29 : decode cX1_leave 29 = .ok (.return_, 1) := by decide +kernel
theorem dX2_hasNumber_0 : decode cX2_hasNumber 0 = .ok (.iload_n 0, 1) := by decide +kernel
theorem dX2_hasNumber_1 : decode cX2_hasNumber 1 = .ok (.ifCond .lt 12, 3) := by decide +kernel
theorem dX2_hasNumber_4 : decode cX2_hasNumber 4 = .ok (.iload_n 0, 1) := by decide +kernel
theorem dX2_hasNumber_5 : decode cX2_hasNumber 5 = .ok (.iconst 5, 1) := by decide +kernel
theorem dX2_hasNumber_6 : decode cX2_hasNumber 6 = .ok (.if_icmp .gt 7, 3) := by decide +kernel
theorem dX2_hasNumber_9 : decode cX2_hasNumber 9 = .ok (.iconst 1, 1) := by decide +kernel
theorem dX2_hasNumber_10 : decode cX2_hasNumber 10 = .ok (.goto 4, 3) := by decide +kernel
theorem dX2_hasNumber_13 : decode cX2_hasNumber 13 = .ok (.iconst 0, 1) := by decide +kernel
theorem dX2_hasNumber_14 : decode cX2_hasNumber 14 = .ok (.ireturn, 1) := by decide +kernel
theorem dX2_above_0 : decode cX2_above 0 = .ok (.iload_n 0, 1) := by decide +kernel
theorem dX2_above_1 : decode cX2_above 1 = .ok (.invokestatic 9, 3) := by decide +kernel
theorem dX2_above_4 : decode cX2_above 4 = .ok (.ifCond .eq 11, 3) := by decide +kernel
theorem dX2_above_7 : decode cX2_above 7 = .ok (.getstatic 13, 3) := by decide +kernel
theorem dX2_above_10 : decode cX2_above 10 = .ok (.iload_n 0, 1) := by decide +kernel
theorem dX2_above_11 : decode cX2_above 11 = .ok (.iaload, 1) := by decide +kernel
theorem dX2_above_12 : decode cX2_above 12 = .ok (.goto 4, 3) := by decide +kernel
theorem dX2_above_15 : decode cX2_above 15 = .ok (.iconst (-1), 1) := by decide +kernel
theorem dX2_above_16 : decode cX2_above 16 = .ok (.ireturn, 1) := by decide +kernel
theorem dX2_isA_0 : decode cX2_isA 0 = .ok (.iload_n 0, 1) := by decide +kernel
theorem dX2_isA_1 : decode cX2_isA 1 = .ok (.istore_n 2, 1) := by decide +kernel
theorem dX2_isA_2 : decode cX2_isA 2 = .ok (.iconst 0, 1) := by decide +kernel
theorem dX2_isA_3 : decode cX2_isA 3 = .ok (.istore_n 3, 1) := by decide +kernel
theorem dX2_isA_4 : decode cX2_isA 4 = .ok (.iload_n 3, 1) := by decide +kernel
theorem dX2_isA_5 : decode cX2_isA 5 = .ok (.iconst 5, 1) := by decide +kernel
theorem dX2_isA_6 : decode cX2_isA 6 = .ok (.if_icmp .gt 28, 3) := by decide +kernel
theorem dX2_isA_9 : decode cX2_isA 9 = .ok (.iload_n 2, 1) := by decide +kernel
theorem dX2_isA_10 : decode cX2_isA 10 = .ok (.invokestatic 9, 3) := by decide +kernel
theorem dX2_isA_13 : decode cX2_isA 13 = .ok (.ifCond .eq 21, 3) := by decide +kernel
theorem dX2_isA_16 : decode cX2_isA 16 = .ok (.iload_n 2, 1) := by decide +kernel
theorem dX2_isA_17 : decode cX2_isA 17 = .ok (.iload_n 1, 1) := by decide +kernel
theorem dX2_isA_18 : decode cX2_isA 18 = .ok (.if_icmp .ne 5, 3) := by decide +kernel
theorem dX2_isA_21 : decode cX2_isA 21 = .ok (.iconst 1, 1) := by decide +kernel
theorem dX2_isA_22 : decode cX2_isA 22 = .ok (.ireturn, 1) := by decide +kernel
theorem dX2_isA_23 : decode cX2_isA 23 = .ok (.iload_n 2, 1) := by decide +kernel
theorem dX2_isA_24 : decode cX2_isA 24 = .ok (.invokestatic 17, 3) := by decide +kernel
theorem dX2_isA_27 : decode cX2_isA 27 = .ok (.istore_n 2, 1) := by decide +kernel
theorem dX2_isA_28 : decode cX2_isA 28 = .ok (.iinc 3 1, 3) := by decide +kernel
theorem dX2_isA_31 : decode cX2_isA 31 = .ok (.goto (-27), 3) := by decide +kernel
theorem dX2_isA_34 : decode cX2_isA 34 = .ok (.iconst 0, 1) := by decide +kernel
theorem dX2_isA_35 : decode cX2_isA 35 = .ok (.ireturn, 1) := by decide +kernel
theorem dX2_ofLetter_0 : decode cX2_ofLetter 0 = .ok (.iload_n 0, 1) := by decide +kernel
theorem dX2_ofLetter_1 : decode cX2_ofLetter 1 = .ok (.tableswitch 69 104 114 #[65, 69, 69, 69, 59, 69, 61, 63, 69, 69, 67], 59) := by decide +kernel
theorem dX2_ofLetter_60 : decode cX2_ofLetter 60 = .ok (.iconst 1, 1) := by decide +kernel
theorem dX2_ofLetter_61 : decode cX2_ofLetter 61 = .ok (.ireturn, 1) := by decide +kernel
theorem dX2_ofLetter_62 : decode cX2_ofLetter 62 = .ok (.iconst 2, 1) := by decide +kernel
theorem dX2_ofLetter_63 : decode cX2_ofLetter 63 = .ok (.ireturn, 1) := by decide +kernel
theorem dX2_ofLetter_64 : decode cX2_ofLetter 64 = .ok (.iconst 3, 1) := by decide +kernel
theorem dX2_ofLetter_65 : decode cX2_ofLetter 65 = .ok (.ireturn, 1) := by decide +kernel
theorem dX2_ofLetter_66 : decode cX2_ofLetter 66 = .ok (.iconst 4, 1) := by decide +kernel
theorem dX2_ofLetter_67 : decode cX2_ofLetter 67 = .ok (.ireturn, 1) := by decide +kernel
theorem dX2_ofLetter_68 : decode cX2_ofLetter 68 = .ok (.iconst 5, 1) := by decide +kernel
theorem dX2_ofLetter_69 : decode cX2_ofLetter 69 = .ok (.ireturn, 1) := by decide +kernel
theorem dX2_ofLetter_70 : decode cX2_ofLetter 70 = .ok (.iconst (-1), 1) := by decide +kernel
theorem dX2_ofLetter_71 : decode cX2_ofLetter 71 = .ok (.ireturn, 1) := by decide +kernel
theorem dX3_init_0 : decode cX3_init 0 = .ok (.aload_n 0, 1) := by decide +kernel
theorem dX3_init_1 : decode cX3_init 1 = .ok (.invokespecial 3, 3) := by decide +kernel
theorem dX3_init_4 : decode cX3_init 4 = .ok (.aload_n 0, 1) := by decide +kernel
theorem dX3_init_5 : decode cX3_init 5 = .ok (.bipush 122, 2) := by decide +kernel
theorem dX3_init_7 : decode cX3_init 7 = .ok (.newarray .int, 2) := by decide +kernel
theorem dX3_init_9 : decode cX3_init 9 = .ok (.putfield 9, 3) := by decide +kernel
theorem dX3_init_12 : decode cX3_init 12 = .ok (.return_, 1) := by decide +kernel
theorem dX3_clear_0 : decode cX3_clear 0 = .ok (.aload_n 0, 1) := by decide +kernel
theorem dX3_clear_1 : decode cX3_clear 1 = .ok (.getfield 9, 3) := by decide +kernel
theorem dX3_clear_4 : decode cX3_clear 4 = .ok (.iconst 0, 1) := by decide +kernel
theorem dX3_clear_5 : decode cX3_clear 5 = .ok (.invokestatic 13, 3) := by decide +kernel
theorem dX3_clear_8 : decode cX3_clear 8 = .ok (.return_, 1) := by decide +kernel
theorem dX3_keepIn_0 : decode cX3_keepIn 0 = .ok (.aload_n 0, 1) := by decide +kernel
theorem dX3_keepIn_1 : decode cX3_keepIn 1 = .ok (.getfield 9, 3) := by decide +kernel
theorem dX3_keepIn_4 : decode cX3_keepIn 4 = .ok (.iconst 0, 1) := by decide +kernel
theorem dX3_keepIn_5 : decode cX3_keepIn 5 = .ok (.aload_n 1, 1) := by decide +kernel
theorem dX3_keepIn_6 : decode cX3_keepIn 6 = .ok (.iconst 0, 1) := by decide +kernel
theorem dX3_keepIn_7 : decode cX3_keepIn 7 = .ok (.bipush 122, 2) := by decide +kernel
theorem dX3_keepIn_9 : decode cX3_keepIn 9 = .ok (.invokestatic 19, 3) := by decide +kernel
theorem dX3_keepIn_12 : decode cX3_keepIn 12 = .ok (.return_, 1) := by decide +kernel
theorem dX3_takeFrom_0 : decode cX3_takeFrom 0 = .ok (.aload_n 1, 1) := by decide +kernel
theorem dX3_takeFrom_1 : decode cX3_takeFrom 1 = .ok (.iconst 0, 1) := by decide +kernel
theorem dX3_takeFrom_2 : decode cX3_takeFrom 2 = .ok (.aload_n 0, 1) := by decide +kernel
theorem dX3_takeFrom_3 : decode cX3_takeFrom 3 = .ok (.getfield 9, 3) := by decide +kernel
theorem dX3_takeFrom_6 : decode cX3_takeFrom 6 = .ok (.iconst 0, 1) := by decide +kernel
theorem dX3_takeFrom_7 : decode cX3_takeFrom 7 = .ok (.bipush 122, 2) := by decide +kernel
theorem dX3_takeFrom_9 : decode cX3_takeFrom 9 = .ok (.invokestatic 19, 3) := by decide +kernel
theorem dX3_takeFrom_12 : decode cX3_takeFrom 12 = .ok (.return_, 1) := by decide +kernel
theorem dX3_stands_0 : decode cX3_stands 0 = .ok (.aload_n 0, 1) := by decide +kernel
theorem dX3_stands_1 : decode cX3_stands 1 = .ok (.getfield 9, 3) := by decide +kernel
theorem dX3_stands_4 : decode cX3_stands 4 = .ok (.iconst 0, 1) := by decide +kernel
theorem dX3_stands_5 : decode cX3_stands 5 = .ok (.iaload, 1) := by decide +kernel
theorem dX3_stands_6 : decode cX3_stands 6 = .ok (.ifCond .le 7, 3) := by decide +kernel
theorem dX3_stands_9 : decode cX3_stands 9 = .ok (.iconst 1, 1) := by decide +kernel
theorem dX3_stands_10 : decode cX3_stands 10 = .ok (.goto 4, 3) := by decide +kernel
theorem dX3_stands_13 : decode cX3_stands 13 = .ok (.iconst 0, 1) := by decide +kernel
theorem dX3_stands_14 : decode cX3_stands 14 = .ok (.ireturn, 1) := by decide +kernel
theorem dX3_fade_0 : decode cX3_fade 0 = .ok (.aload_n 0, 1) := by decide +kernel
theorem dX3_fade_1 : decode cX3_fade 1 = .ok (.getfield 9, 3) := by decide +kernel
theorem dX3_fade_4 : decode cX3_fade 4 = .ok (.iconst 0, 1) := by decide +kernel
theorem dX3_fade_5 : decode cX3_fade 5 = .ok (.iaload, 1) := by decide +kernel
theorem dX3_fade_6 : decode cX3_fade 6 = .ok (.ireturn, 1) := by decide +kernel
theorem dX3_places_0 : decode cX3_places 0 = .ok (.aload_n 0, 1) := by decide +kernel
theorem dX3_places_1 : decode cX3_places 1 = .ok (.getfield 9, 3) := by decide +kernel
theorem dX3_places_4 : decode cX3_places 4 = .ok (.iconst 1, 1) := by decide +kernel
theorem dX3_places_5 : decode cX3_places 5 = .ok (.iaload, 1) := by decide +kernel
theorem dX3_places_6 : decode cX3_places 6 = .ok (.ireturn, 1) := by decide +kernel
theorem dX3_roads_0 : decode cX3_roads 0 = .ok (.aload_n 0, 1) := by decide +kernel
theorem dX3_roads_1 : decode cX3_roads 1 = .ok (.getfield 9, 3) := by decide +kernel
theorem dX3_roads_4 : decode cX3_roads 4 = .ok (.iconst 2, 1) := by decide +kernel
theorem dX3_roads_5 : decode cX3_roads 5 = .ok (.iaload, 1) := by decide +kernel
theorem dX3_roads_6 : decode cX3_roads 6 = .ok (.ireturn, 1) := by decide +kernel
theorem dX3_people_0 : decode cX3_people 0 = .ok (.aload_n 0, 1) := by decide +kernel
theorem dX3_people_1 : decode cX3_people 1 = .ok (.getfield 9, 3) := by decide +kernel
theorem dX3_people_4 : decode cX3_people 4 = .ok (.iconst 3, 1) := by decide +kernel
theorem dX3_people_5 : decode cX3_people 5 = .ok (.iaload, 1) := by decide +kernel
theorem dX3_people_6 : decode cX3_people 6 = .ok (.ireturn, 1) := by decide +kernel
theorem dX3_today_0 : decode cX3_today 0 = .ok (.aload_n 0, 1) := by decide +kernel
theorem dX3_today_1 : decode cX3_today 1 = .ok (.getfield 9, 3) := by decide +kernel
theorem dX3_today_4 : decode cX3_today 4 = .ok (.iconst 4, 1) := by decide +kernel
theorem dX3_today_5 : decode cX3_today 5 = .ok (.iaload, 1) := by decide +kernel
theorem dX3_today_6 : decode cX3_today 6 = .ok (.ireturn, 1) := by decide +kernel
theorem dX3_spent_0 : decode cX3_spent 0 = .ok (.aload_n 0, 1) := by decide +kernel
theorem dX3_spent_1 : decode cX3_spent 1 = .ok (.getfield 9, 3) := by decide +kernel
theorem dX3_spent_4 : decode cX3_spent 4 = .ok (.iconst 5, 1) := by decide +kernel
theorem dX3_spent_5 : decode cX3_spent 5 = .ok (.iaload, 1) := by decide +kernel
theorem dX3_spent_6 : decode cX3_spent 6 = .ok (.ireturn, 1) := by decide +kernel
theorem dX3_hasPlace_0 : decode cX3_hasPlace 0 = .ok (.iload_n 1, 1) := by decide +kernel
theorem dX3_hasPlace_1 : decode cX3_hasPlace 1 = .ok (.ifCond .lt 15, 3) := by decide +kernel
theorem dX3_hasPlace_4 : decode cX3_hasPlace 4 = .ok (.iload_n 1, 1) := by decide +kernel
theorem dX3_hasPlace_5 : decode cX3_hasPlace 5 = .ok (.aload_n 0, 1) := by decide +kernel
theorem dX3_hasPlace_6 : decode cX3_hasPlace 6 = .ok (.invokevirtual 25, 3) := by decide +kernel
theorem dX3_hasPlace_9 : decode cX3_hasPlace 9 = .ok (.if_icmp .ge 7, 3) := by decide +kernel
theorem dX3_hasPlace_12 : decode cX3_hasPlace 12 = .ok (.iconst 1, 1) := by decide +kernel
theorem dX3_hasPlace_13 : decode cX3_hasPlace 13 = .ok (.goto 4, 3) := by decide +kernel
theorem dX3_hasPlace_16 : decode cX3_hasPlace 16 = .ok (.iconst 0, 1) := by decide +kernel
theorem dX3_hasPlace_17 : decode cX3_hasPlace 17 = .ok (.ireturn, 1) := by decide +kernel
theorem dX3_hasRoad_0 : decode cX3_hasRoad 0 = .ok (.iload_n 1, 1) := by decide +kernel
theorem dX3_hasRoad_1 : decode cX3_hasRoad 1 = .ok (.ifCond .lt 15, 3) := by decide +kernel
theorem dX3_hasRoad_4 : decode cX3_hasRoad 4 = .ok (.iload_n 1, 1) := by decide +kernel
theorem dX3_hasRoad_5 : decode cX3_hasRoad 5 = .ok (.aload_n 0, 1) := by decide +kernel
theorem dX3_hasRoad_6 : decode cX3_hasRoad 6 = .ok (.invokevirtual 29, 3) := by decide +kernel
theorem dX3_hasRoad_9 : decode cX3_hasRoad 9 = .ok (.if_icmp .ge 7, 3) := by decide +kernel
theorem dX3_hasRoad_12 : decode cX3_hasRoad 12 = .ok (.iconst 1, 1) := by decide +kernel
theorem dX3_hasRoad_13 : decode cX3_hasRoad 13 = .ok (.goto 4, 3) := by decide +kernel
theorem dX3_hasRoad_16 : decode cX3_hasRoad 16 = .ok (.iconst 0, 1) := by decide +kernel
theorem dX3_hasRoad_17 : decode cX3_hasRoad 17 = .ok (.ireturn, 1) := by decide +kernel
theorem dX3_hasPerson_0 : decode cX3_hasPerson 0 = .ok (.iload_n 1, 1) := by decide +kernel
theorem dX3_hasPerson_1 : decode cX3_hasPerson 1 = .ok (.ifCond .lt 15, 3) := by decide +kernel
theorem dX3_hasPerson_4 : decode cX3_hasPerson 4 = .ok (.iload_n 1, 1) := by decide +kernel
theorem dX3_hasPerson_5 : decode cX3_hasPerson 5 = .ok (.aload_n 0, 1) := by decide +kernel
theorem dX3_hasPerson_6 : decode cX3_hasPerson 6 = .ok (.invokevirtual 32, 3) := by decide +kernel
theorem dX3_hasPerson_9 : decode cX3_hasPerson 9 = .ok (.if_icmp .ge 7, 3) := by decide +kernel
theorem dX3_hasPerson_12 : decode cX3_hasPerson 12 = .ok (.iconst 1, 1) := by decide +kernel
theorem dX3_hasPerson_13 : decode cX3_hasPerson 13 = .ok (.goto 4, 3) := by decide +kernel
theorem dX3_hasPerson_16 : decode cX3_hasPerson 16 = .ok (.iconst 0, 1) := by decide +kernel
theorem dX3_hasPerson_17 : decode cX3_hasPerson 17 = .ok (.ireturn, 1) := by decide +kernel
theorem dX3_hasSole_0 : decode cX3_hasSole 0 = .ok (.aload_n 0, 1) := by decide +kernel
theorem dX3_hasSole_1 : decode cX3_hasSole 1 = .ok (.iload_n 1, 1) := by decide +kernel
theorem dX3_hasSole_2 : decode cX3_hasSole 2 = .ok (.invokevirtual 35, 3) := by decide +kernel
theorem dX3_hasSole_5 : decode cX3_hasSole 5 = .ok (.ireturn, 1) := by decide +kernel
theorem dX3_areTwo_0 : decode cX3_areTwo 0 = .ok (.aload_n 0, 1) := by decide +kernel
theorem dX3_areTwo_1 : decode cX3_areTwo 1 = .ok (.iload_n 1, 1) := by decide +kernel
theorem dX3_areTwo_2 : decode cX3_areTwo 2 = .ok (.invokevirtual 35, 3) := by decide +kernel
theorem dX3_areTwo_5 : decode cX3_areTwo 5 = .ok (.ifCond .eq 20, 3) := by decide +kernel
theorem dX3_areTwo_8 : decode cX3_areTwo 8 = .ok (.aload_n 0, 1) := by decide +kernel
theorem dX3_areTwo_9 : decode cX3_areTwo 9 = .ok (.iload_n 2, 1) := by decide +kernel
theorem dX3_areTwo_10 : decode cX3_areTwo 10 = .ok (.invokevirtual 35, 3) := by decide +kernel
theorem dX3_areTwo_13 : decode cX3_areTwo 13 = .ok (.ifCond .eq 12, 3) := by decide +kernel
theorem dX3_areTwo_16 : decode cX3_areTwo 16 = .ok (.iload_n 1, 1) := by decide +kernel
theorem dX3_areTwo_17 : decode cX3_areTwo 17 = .ok (.iload_n 2, 1) := by decide +kernel
theorem dX3_areTwo_18 : decode cX3_areTwo 18 = .ok (.if_icmp .eq 7, 3) := by decide +kernel
theorem dX3_areTwo_21 : decode cX3_areTwo 21 = .ok (.iconst 1, 1) := by decide +kernel
theorem dX3_areTwo_22 : decode cX3_areTwo 22 = .ok (.goto 4, 3) := by decide +kernel
theorem dX3_areTwo_25 : decode cX3_areTwo 25 = .ok (.iconst 0, 1) := by decide +kernel
theorem dX3_areTwo_26 : decode cX3_areTwo 26 = .ok (.ireturn, 1) := by decide +kernel
theorem dX3_allSoles_0 : decode cX3_allSoles 0 = .ok (.iconst 1, 1) := by decide +kernel
theorem dX3_allSoles_1 : decode cX3_allSoles 1 = .ok (.aload_n 0, 1) := by decide +kernel
theorem dX3_allSoles_2 : decode cX3_allSoles 2 = .ok (.invokevirtual 32, 3) := by decide +kernel
theorem dX3_allSoles_5 : decode cX3_allSoles 5 = .ok (.ishl, 1) := by decide +kernel
theorem dX3_allSoles_6 : decode cX3_allSoles 6 = .ok (.iconst 1, 1) := by decide +kernel
theorem dX3_allSoles_7 : decode cX3_allSoles 7 = .ok (.isub, 1) := by decide +kernel
theorem dX3_allSoles_8 : decode cX3_allSoles 8 = .ok (.ireturn, 1) := by decide +kernel
theorem dX3_kindOf_0 : decode cX3_kindOf 0 = .ok (.aload_n 0, 1) := by decide +kernel
theorem dX3_kindOf_1 : decode cX3_kindOf 1 = .ok (.getfield 9, 3) := by decide +kernel
theorem dX3_kindOf_4 : decode cX3_kindOf 4 = .ok (.bipush 6, 2) := by decide +kernel
theorem dX3_kindOf_6 : decode cX3_kindOf 6 = .ok (.iload_n 1, 1) := by decide +kernel
theorem dX3_kindOf_7 : decode cX3_kindOf 7 = .ok (.iadd, 1) := by decide +kernel
theorem dX3_kindOf_8 : decode cX3_kindOf 8 = .ok (.iaload, 1) := by decide +kernel
theorem dX3_kindOf_9 : decode cX3_kindOf 9 = .ok (.ireturn, 1) := by decide +kernel
theorem dX3_oneEnd_0 : decode cX3_oneEnd 0 = .ok (.aload_n 0, 1) := by decide +kernel
theorem dX3_oneEnd_1 : decode cX3_oneEnd 1 = .ok (.getfield 9, 3) := by decide +kernel
theorem dX3_oneEnd_4 : decode cX3_oneEnd 4 = .ok (.bipush 15, 2) := by decide +kernel
theorem dX3_oneEnd_6 : decode cX3_oneEnd 6 = .ok (.iload_n 1, 1) := by decide +kernel
theorem dX3_oneEnd_7 : decode cX3_oneEnd 7 = .ok (.iadd, 1) := by decide +kernel
theorem dX3_oneEnd_8 : decode cX3_oneEnd 8 = .ok (.iaload, 1) := by decide +kernel
theorem dX3_oneEnd_9 : decode cX3_oneEnd 9 = .ok (.ireturn, 1) := by decide +kernel
theorem dX3_otherEnd_0 : decode cX3_otherEnd 0 = .ok (.aload_n 0, 1) := by decide +kernel
theorem dX3_otherEnd_1 : decode cX3_otherEnd 1 = .ok (.getfield 9, 3) := by decide +kernel
theorem dX3_otherEnd_4 : decode cX3_otherEnd 4 = .ok (.bipush 24, 2) := by decide +kernel
theorem dX3_otherEnd_6 : decode cX3_otherEnd 6 = .ok (.iload_n 1, 1) := by decide +kernel
theorem dX3_otherEnd_7 : decode cX3_otherEnd 7 = .ok (.iadd, 1) := by decide +kernel
theorem dX3_otherEnd_8 : decode cX3_otherEnd 8 = .ok (.iaload, 1) := by decide +kernel
theorem dX3_otherEnd_9 : decode cX3_otherEnd 9 = .ok (.ireturn, 1) := by decide +kernel
theorem dX3_longOf_0 : decode cX3_longOf 0 = .ok (.aload_n 0, 1) := by decide +kernel
theorem dX3_longOf_1 : decode cX3_longOf 1 = .ok (.getfield 9, 3) := by decide +kernel
theorem dX3_longOf_4 : decode cX3_longOf 4 = .ok (.bipush 33, 2) := by decide +kernel
theorem dX3_longOf_6 : decode cX3_longOf 6 = .ok (.iload_n 1, 1) := by decide +kernel
theorem dX3_longOf_7 : decode cX3_longOf 7 = .ok (.iadd, 1) := by decide +kernel
theorem dX3_longOf_8 : decode cX3_longOf 8 = .ok (.iaload, 1) := by decide +kernel
theorem dX3_longOf_9 : decode cX3_longOf 9 = .ok (.ireturn, 1) := by decide +kernel
theorem dX3_isEnd_0 : decode cX3_isEnd 0 = .ok (.aload_n 0, 1) := by decide +kernel
theorem dX3_isEnd_1 : decode cX3_isEnd 1 = .ok (.iload_n 1, 1) := by decide +kernel
theorem dX3_isEnd_2 : decode cX3_isEnd 2 = .ok (.invokevirtual 39, 3) := by decide +kernel
theorem dX3_isEnd_5 : decode cX3_isEnd 5 = .ok (.iload_n 2, 1) := by decide +kernel
theorem dX3_isEnd_6 : decode cX3_isEnd 6 = .ok (.if_icmp .eq 12, 3) := by decide +kernel
theorem dX3_isEnd_9 : decode cX3_isEnd 9 = .ok (.aload_n 0, 1) := by decide +kernel
theorem dX3_isEnd_10 : decode cX3_isEnd 10 = .ok (.iload_n 1, 1) := by decide +kernel
theorem dX3_isEnd_11 : decode cX3_isEnd 11 = .ok (.invokevirtual 43, 3) := by decide +kernel
theorem dX3_isEnd_14 : decode cX3_isEnd 14 = .ok (.iload_n 2, 1) := by decide +kernel
theorem dX3_isEnd_15 : decode cX3_isEnd 15 = .ok (.if_icmp .ne 7, 3) := by decide +kernel
theorem dX3_isEnd_18 : decode cX3_isEnd 18 = .ok (.iconst 1, 1) := by decide +kernel
theorem dX3_isEnd_19 : decode cX3_isEnd 19 = .ok (.goto 4, 3) := by decide +kernel
theorem dX3_isEnd_22 : decode cX3_isEnd 22 = .ok (.iconst 0, 1) := by decide +kernel
theorem dX3_isEnd_23 : decode cX3_isEnd 23 = .ok (.ireturn, 1) := by decide +kernel
theorem dX3_across_0 : decode cX3_across 0 = .ok (.aload_n 0, 1) := by decide +kernel
theorem dX3_across_1 : decode cX3_across 1 = .ok (.iload_n 1, 1) := by decide +kernel
theorem dX3_across_2 : decode cX3_across 2 = .ok (.invokevirtual 39, 3) := by decide +kernel
theorem dX3_across_5 : decode cX3_across 5 = .ok (.iload_n 2, 1) := by decide +kernel
theorem dX3_across_6 : decode cX3_across 6 = .ok (.if_icmp .ne 11, 3) := by decide +kernel
theorem dX3_across_9 : decode cX3_across 9 = .ok (.aload_n 0, 1) := by decide +kernel
theorem dX3_across_10 : decode cX3_across 10 = .ok (.iload_n 1, 1) := by decide +kernel
theorem dX3_across_11 : decode cX3_across 11 = .ok (.invokevirtual 43, 3) := by decide +kernel
theorem dX3_across_14 : decode cX3_across 14 = .ok (.goto 8, 3) := by decide +kernel
theorem dX3_across_17 : decode cX3_across 17 = .ok (.aload_n 0, 1) := by decide +kernel
theorem dX3_across_18 : decode cX3_across 18 = .ok (.iload_n 1, 1) := by decide +kernel
theorem dX3_across_19 : decode cX3_across 19 = .ok (.invokevirtual 39, 3) := by decide +kernel
theorem dX3_across_22 : decode cX3_across 22 = .ok (.ireturn, 1) := by decide +kernel
theorem dX3_placeOf_0 : decode cX3_placeOf 0 = .ok (.aload_n 0, 1) := by decide +kernel
theorem dX3_placeOf_1 : decode cX3_placeOf 1 = .ok (.getfield 9, 3) := by decide +kernel
theorem dX3_placeOf_4 : decode cX3_placeOf 4 = .ok (.bipush 42, 2) := by decide +kernel
theorem dX3_placeOf_6 : decode cX3_placeOf 6 = .ok (.iload_n 1, 1) := by decide +kernel
theorem dX3_placeOf_7 : decode cX3_placeOf 7 = .ok (.iadd, 1) := by decide +kernel
theorem dX3_placeOf_8 : decode cX3_placeOf 8 = .ok (.iaload, 1) := by decide +kernel
theorem dX3_placeOf_9 : decode cX3_placeOf 9 = .ok (.ireturn, 1) := by decide +kernel
theorem dX3_soleOf_0 : decode cX3_soleOf 0 = .ok (.aload_n 0, 1) := by decide +kernel
theorem dX3_soleOf_1 : decode cX3_soleOf 1 = .ok (.getfield 9, 3) := by decide +kernel
theorem dX3_soleOf_4 : decode cX3_soleOf 4 = .ok (.bipush 46, 2) := by decide +kernel
theorem dX3_soleOf_6 : decode cX3_soleOf 6 = .ok (.iload_n 1, 1) := by decide +kernel
theorem dX3_soleOf_7 : decode cX3_soleOf 7 = .ok (.iadd, 1) := by decide +kernel
theorem dX3_soleOf_8 : decode cX3_soleOf 8 = .ok (.iaload, 1) := by decide +kernel
theorem dX3_soleOf_9 : decode cX3_soleOf 9 = .ok (.ireturn, 1) := by decide +kernel
theorem dX3_timesMet_0 : decode cX3_timesMet 0 = .ok (.aload_n 0, 1) := by decide +kernel
theorem dX3_timesMet_1 : decode cX3_timesMet 1 = .ok (.getfield 9, 3) := by decide +kernel
theorem dX3_timesMet_4 : decode cX3_timesMet 4 = .ok (.bipush 50, 2) := by decide +kernel
theorem dX3_timesMet_6 : decode cX3_timesMet 6 = .ok (.iload_n 1, 1) := by decide +kernel
theorem dX3_timesMet_7 : decode cX3_timesMet 7 = .ok (.iload_n 2, 1) := by decide +kernel
theorem dX3_timesMet_8 : decode cX3_timesMet 8 = .ok (.invokestatic 46, 3) := by decide +kernel
theorem dX3_timesMet_11 : decode cX3_timesMet 11 = .ok (.iadd, 1) := by decide +kernel
theorem dX3_timesMet_12 : decode cX3_timesMet 12 = .ok (.iaload, 1) := by decide +kernel
theorem dX3_timesMet_13 : decode cX3_timesMet 13 = .ok (.ireturn, 1) := by decide +kernel
theorem dX3_lastMet_0 : decode cX3_lastMet 0 = .ok (.aload_n 0, 1) := by decide +kernel
theorem dX3_lastMet_1 : decode cX3_lastMet 1 = .ok (.getfield 9, 3) := by decide +kernel
theorem dX3_lastMet_4 : decode cX3_lastMet 4 = .ok (.bipush 86, 2) := by decide +kernel
theorem dX3_lastMet_6 : decode cX3_lastMet 6 = .ok (.iload_n 1, 1) := by decide +kernel
theorem dX3_lastMet_7 : decode cX3_lastMet 7 = .ok (.iload_n 2, 1) := by decide +kernel
theorem dX3_lastMet_8 : decode cX3_lastMet 8 = .ok (.invokestatic 46, 3) := by decide +kernel
theorem dX3_lastMet_11 : decode cX3_lastMet 11 = .ok (.iadd, 1) := by decide +kernel
theorem dX3_lastMet_12 : decode cX3_lastMet 12 = .ok (.iaload, 1) := by decide +kernel
theorem dX3_lastMet_13 : decode cX3_lastMet 13 = .ok (.ireturn, 1) := by decide +kernel
theorem dX3_opensByMeeting_0 : decode cX3_opensByMeeting 0 = .ok (.aload_n 0, 1) := by decide +kernel
theorem dX3_opensByMeeting_1 : decode cX3_opensByMeeting 1 = .ok (.iload_n 1, 1) := by decide +kernel
theorem dX3_opensByMeeting_2 : decode cX3_opensByMeeting 2 = .ok (.invokevirtual 50, 3) := by decide +kernel
theorem dX3_opensByMeeting_5 : decode cX3_opensByMeeting 5 = .ok (.iconst 4, 1) := by decide +kernel
theorem dX3_opensByMeeting_6 : decode cX3_opensByMeeting 6 = .ok (.if_icmp .ge 7, 3) := by decide +kernel
theorem dX3_opensByMeeting_9 : decode cX3_opensByMeeting 9 = .ok (.iconst 1, 1) := by decide +kernel
theorem dX3_opensByMeeting_10 : decode cX3_opensByMeeting 10 = .ok (.goto 4, 3) := by decide +kernel
theorem dX3_opensByMeeting_13 : decode cX3_opensByMeeting 13 = .ok (.iconst 0, 1) := by decide +kernel
theorem dX3_opensByMeeting_14 : decode cX3_opensByMeeting 14 = .ok (.ireturn, 1) := by decide +kernel
theorem dX3_lastDayOpen_0 : decode cX3_lastDayOpen 0 = .ok (.aload_n 0, 1) := by decide +kernel
theorem dX3_lastDayOpen_1 : decode cX3_lastDayOpen 1 = .ok (.iload_n 1, 1) := by decide +kernel
theorem dX3_lastDayOpen_2 : decode cX3_lastDayOpen 2 = .ok (.invokevirtual 50, 3) := by decide +kernel
theorem dX3_lastDayOpen_5 : decode cX3_lastDayOpen 5 = .ok (.iconst 3, 1) := by decide +kernel
theorem dX3_lastDayOpen_6 : decode cX3_lastDayOpen 6 = .ok (.if_icmp .ne 12, 3) := by decide +kernel
theorem dX3_lastDayOpen_9 : decode cX3_lastDayOpen 9 = .ok (.iconst 2, 1) := by decide +kernel
theorem dX3_lastDayOpen_10 : decode cX3_lastDayOpen 10 = .ok (.aload_n 0, 1) := by decide +kernel
theorem dX3_lastDayOpen_11 : decode cX3_lastDayOpen 11 = .ok (.invokevirtual 55, 3) := by decide +kernel
theorem dX3_lastDayOpen_14 : decode cX3_lastDayOpen 14 = .ok (.imul, 1) := by decide +kernel
theorem dX3_lastDayOpen_15 : decode cX3_lastDayOpen 15 = .ok (.goto 7, 3) := by decide +kernel
theorem dX3_lastDayOpen_18 : decode cX3_lastDayOpen 18 = .ok (.aload_n 0, 1) := by decide +kernel
theorem dX3_lastDayOpen_19 : decode cX3_lastDayOpen 19 = .ok (.invokevirtual 55, 3) := by decide +kernel
theorem dX3_lastDayOpen_22 : decode cX3_lastDayOpen 22 = .ok (.istore_n 3, 1) := by decide +kernel
theorem dX3_lastDayOpen_23 : decode cX3_lastDayOpen 23 = .ok (.aload_n 0, 1) := by decide +kernel
theorem dX3_lastDayOpen_24 : decode cX3_lastDayOpen 24 = .ok (.getfield 9, 3) := by decide +kernel
theorem dX3_lastDayOpen_27 : decode cX3_lastDayOpen 27 = .ok (.bipush 86, 2) := by decide +kernel
theorem dX3_lastDayOpen_29 : decode cX3_lastDayOpen 29 = .ok (.iload_n 1, 1) := by decide +kernel
theorem dX3_lastDayOpen_30 : decode cX3_lastDayOpen 30 = .ok (.iload_n 2, 1) := by decide +kernel
theorem dX3_lastDayOpen_31 : decode cX3_lastDayOpen 31 = .ok (.invokestatic 46, 3) := by decide +kernel
theorem dX3_lastDayOpen_34 : decode cX3_lastDayOpen 34 = .ok (.iadd, 1) := by decide +kernel
theorem dX3_lastDayOpen_35 : decode cX3_lastDayOpen 35 = .ok (.iaload, 1) := by decide +kernel
theorem dX3_lastDayOpen_36 : decode cX3_lastDayOpen 36 = .ok (.iload_n 3, 1) := by decide +kernel
theorem dX3_lastDayOpen_37 : decode cX3_lastDayOpen 37 = .ok (.iadd, 1) := by decide +kernel
theorem dX3_lastDayOpen_38 : decode cX3_lastDayOpen 38 = .ok (.ireturn, 1) := by decide +kernel
theorem dX3_opens_0 : decode cX3_opens 0 = .ok (.aload_n 0, 1) := by decide +kernel
theorem dX3_opens_1 : decode cX3_opens 1 = .ok (.iload_n 1, 1) := by decide +kernel
theorem dX3_opens_2 : decode cX3_opens 2 = .ok (.invokevirtual 58, 3) := by decide +kernel
theorem dX3_opens_5 : decode cX3_opens 5 = .ok (.ifCond .ne 5, 3) := by decide +kernel
theorem dX3_opens_8 : decode cX3_opens 8 = .ok (.iconst 1, 1) := by decide +kernel
theorem dX3_opens_9 : decode cX3_opens 9 = .ok (.ireturn, 1) := by decide +kernel
theorem dX3_opens_10 : decode cX3_opens 10 = .ok (.aload_n 0, 1) := by decide +kernel
theorem dX3_opens_11 : decode cX3_opens 11 = .ok (.iload_n 1, 1) := by decide +kernel
theorem dX3_opens_12 : decode cX3_opens 12 = .ok (.invokevirtual 50, 3) := by decide +kernel
theorem dX3_opens_15 : decode cX3_opens 15 = .ok (.iconst 2, 1) := by decide +kernel
theorem dX3_opens_16 : decode cX3_opens 16 = .ok (.if_icmp .ne 7, 3) := by decide +kernel
theorem dX3_opens_19 : decode cX3_opens 19 = .ok (.iconst 2, 1) := by decide +kernel
theorem dX3_opens_20 : decode cX3_opens 20 = .ok (.goto 4, 3) := by decide +kernel
theorem dX3_opens_23 : decode cX3_opens 23 = .ok (.iconst 1, 1) := by decide +kernel
theorem dX3_opens_24 : decode cX3_opens 24 = .ok (.istore 4, 2) := by decide +kernel
theorem dX3_opens_26 : decode cX3_opens 26 = .ok (.aload_n 0, 1) := by decide +kernel
theorem dX3_opens_27 : decode cX3_opens 27 = .ok (.iload_n 1, 1) := by decide +kernel
theorem dX3_opens_28 : decode cX3_opens 28 = .ok (.iload_n 2, 1) := by decide +kernel
theorem dX3_opens_29 : decode cX3_opens 29 = .ok (.invokevirtual 61, 3) := by decide +kernel
theorem dX3_opens_32 : decode cX3_opens 32 = .ok (.iload 4, 2) := by decide +kernel
theorem dX3_opens_34 : decode cX3_opens 34 = .ok (.if_icmp .lt 17, 3) := by decide +kernel
theorem dX3_opens_37 : decode cX3_opens 37 = .ok (.iload_n 3, 1) := by decide +kernel
theorem dX3_opens_38 : decode cX3_opens 38 = .ok (.aload_n 0, 1) := by decide +kernel
theorem dX3_opens_39 : decode cX3_opens 39 = .ok (.iload_n 1, 1) := by decide +kernel
theorem dX3_opens_40 : decode cX3_opens 40 = .ok (.iload_n 2, 1) := by decide +kernel
theorem dX3_opens_41 : decode cX3_opens 41 = .ok (.invokevirtual 64, 3) := by decide +kernel
theorem dX3_opens_44 : decode cX3_opens 44 = .ok (.if_icmp .gt 7, 3) := by decide +kernel
theorem dX3_opens_47 : decode cX3_opens 47 = .ok (.iconst 1, 1) := by decide +kernel
theorem dX3_opens_48 : decode cX3_opens 48 = .ok (.goto 4, 3) := by decide +kernel
theorem dX3_opens_51 : decode cX3_opens 51 = .ok (.iconst 0, 1) := by decide +kernel
theorem dX3_opens_52 : decode cX3_opens 52 = .ok (.ireturn, 1) := by decide +kernel
theorem dX3_solesOf_0 : decode cX3_solesOf 0 = .ok (.iconst 0, 1) := by decide +kernel
theorem dX3_solesOf_1 : decode cX3_solesOf 1 = .ok (.istore_n 3, 1) := by decide +kernel
theorem dX3_solesOf_2 : decode cX3_solesOf 2 = .ok (.iconst 0, 1) := by decide +kernel
theorem dX3_solesOf_3 : decode cX3_solesOf 3 = .ok (.istore 4, 2) := by decide +kernel
theorem dX3_solesOf_5 : decode cX3_solesOf 5 = .ok (.iload 4, 2) := by decide +kernel
theorem dX3_solesOf_7 : decode cX3_solesOf 7 = .ok (.aload_n 0, 1) := by decide +kernel
theorem dX3_solesOf_8 : decode cX3_solesOf 8 = .ok (.invokevirtual 32, 3) := by decide +kernel
theorem dX3_solesOf_11 : decode cX3_solesOf 11 = .ok (.if_icmp .ge 27, 3) := by decide +kernel
theorem dX3_solesOf_14 : decode cX3_solesOf 14 = .ok (.aload_n 0, 1) := by decide +kernel
theorem dX3_solesOf_15 : decode cX3_solesOf 15 = .ok (.iload_n 1, 1) := by decide +kernel
theorem dX3_solesOf_16 : decode cX3_solesOf 16 = .ok (.iload 4, 2) := by decide +kernel
theorem dX3_solesOf_18 : decode cX3_solesOf 18 = .ok (.iload_n 2, 1) := by decide +kernel
theorem dX3_solesOf_19 : decode cX3_solesOf 19 = .ok (.invokevirtual 67, 3) := by decide +kernel
theorem dX3_solesOf_22 : decode cX3_solesOf 22 = .ok (.ifCond .eq 10, 3) := by decide +kernel
theorem dX3_solesOf_25 : decode cX3_solesOf 25 = .ok (.iload_n 3, 1) := by decide +kernel
theorem dX3_solesOf_26 : decode cX3_solesOf 26 = .ok (.iconst 1, 1) := by decide +kernel
theorem dX3_solesOf_27 : decode cX3_solesOf 27 = .ok (.iload 4, 2) := by decide +kernel
theorem dX3_solesOf_29 : decode cX3_solesOf 29 = .ok (.ishl, 1) := by decide +kernel
theorem dX3_solesOf_30 : decode cX3_solesOf 30 = .ok (.ior, 1) := by decide +kernel
theorem dX3_solesOf_31 : decode cX3_solesOf 31 = .ok (.istore_n 3, 1) := by decide +kernel
theorem dX3_solesOf_32 : decode cX3_solesOf 32 = .ok (.iinc 4 1, 3) := by decide +kernel
theorem dX3_solesOf_35 : decode cX3_solesOf 35 = .ok (.goto (-30), 3) := by decide +kernel
theorem dX3_solesOf_38 : decode cX3_solesOf 38 = .ok (.iload_n 3, 1) := by decide +kernel
theorem dX3_solesOf_39 : decode cX3_solesOf 39 = .ok (.ireturn, 1) := by decide +kernel
theorem dX3_roadsOpenTo_0 : decode cX3_roadsOpenTo 0 = .ok (.iconst 0, 1) := by decide +kernel
theorem dX3_roadsOpenTo_1 : decode cX3_roadsOpenTo 1 = .ok (.istore_n 2, 1) := by decide +kernel
theorem dX3_roadsOpenTo_2 : decode cX3_roadsOpenTo 2 = .ok (.iconst 0, 1) := by decide +kernel
theorem dX3_roadsOpenTo_3 : decode cX3_roadsOpenTo 3 = .ok (.istore_n 3, 1) := by decide +kernel
theorem dX3_roadsOpenTo_4 : decode cX3_roadsOpenTo 4 = .ok (.iload_n 3, 1) := by decide +kernel
theorem dX3_roadsOpenTo_5 : decode cX3_roadsOpenTo 5 = .ok (.aload_n 0, 1) := by decide +kernel
theorem dX3_roadsOpenTo_6 : decode cX3_roadsOpenTo 6 = .ok (.invokevirtual 29, 3) := by decide +kernel
theorem dX3_roadsOpenTo_9 : decode cX3_roadsOpenTo 9 = .ok (.if_icmp .ge 32, 3) := by decide +kernel
theorem dX3_roadsOpenTo_12 : decode cX3_roadsOpenTo 12 = .ok (.aload_n 0, 1) := by decide +kernel
theorem dX3_roadsOpenTo_13 : decode cX3_roadsOpenTo 13 = .ok (.iload_n 3, 1) := by decide +kernel
theorem dX3_roadsOpenTo_14 : decode cX3_roadsOpenTo 14 = .ok (.aload_n 0, 1) := by decide +kernel
theorem dX3_roadsOpenTo_15 : decode cX3_roadsOpenTo 15 = .ok (.iload_n 1, 1) := by decide +kernel
theorem dX3_roadsOpenTo_16 : decode cX3_roadsOpenTo 16 = .ok (.invokevirtual 71, 3) := by decide +kernel
theorem dX3_roadsOpenTo_19 : decode cX3_roadsOpenTo 19 = .ok (.aload_n 0, 1) := by decide +kernel
theorem dX3_roadsOpenTo_20 : decode cX3_roadsOpenTo 20 = .ok (.invokevirtual 74, 3) := by decide +kernel
theorem dX3_roadsOpenTo_23 : decode cX3_roadsOpenTo 23 = .ok (.invokevirtual 67, 3) := by decide +kernel
theorem dX3_roadsOpenTo_26 : decode cX3_roadsOpenTo 26 = .ok (.ifCond .eq 9, 3) := by decide +kernel
theorem dX3_roadsOpenTo_29 : decode cX3_roadsOpenTo 29 = .ok (.iload_n 2, 1) := by decide +kernel
theorem dX3_roadsOpenTo_30 : decode cX3_roadsOpenTo 30 = .ok (.iconst 1, 1) := by decide +kernel
theorem dX3_roadsOpenTo_31 : decode cX3_roadsOpenTo 31 = .ok (.iload_n 3, 1) := by decide +kernel
theorem dX3_roadsOpenTo_32 : decode cX3_roadsOpenTo 32 = .ok (.ishl, 1) := by decide +kernel
theorem dX3_roadsOpenTo_33 : decode cX3_roadsOpenTo 33 = .ok (.ior, 1) := by decide +kernel
theorem dX3_roadsOpenTo_34 : decode cX3_roadsOpenTo 34 = .ok (.istore_n 2, 1) := by decide +kernel
theorem dX3_roadsOpenTo_35 : decode cX3_roadsOpenTo 35 = .ok (.iinc 3 1, 3) := by decide +kernel
theorem dX3_roadsOpenTo_38 : decode cX3_roadsOpenTo 38 = .ok (.goto (-34), 3) := by decide +kernel
theorem dX3_roadsOpenTo_41 : decode cX3_roadsOpenTo 41 = .ok (.iload_n 2, 1) := by decide +kernel
theorem dX3_roadsOpenTo_42 : decode cX3_roadsOpenTo 42 = .ok (.ireturn, 1) := by decide +kernel
theorem dX3_canGo_0 : decode cX3_canGo 0 = .ok (.aload_n 0, 1) := by decide +kernel
theorem dX3_canGo_1 : decode cX3_canGo 1 = .ok (.iload_n 2, 1) := by decide +kernel
theorem dX3_canGo_2 : decode cX3_canGo 2 = .ok (.aload_n 0, 1) := by decide +kernel
theorem dX3_canGo_3 : decode cX3_canGo 3 = .ok (.iload_n 1, 1) := by decide +kernel
theorem dX3_canGo_4 : decode cX3_canGo 4 = .ok (.invokevirtual 77, 3) := by decide +kernel
theorem dX3_canGo_7 : decode cX3_canGo 7 = .ok (.invokevirtual 80, 3) := by decide +kernel
theorem dX3_canGo_10 : decode cX3_canGo 10 = .ok (.ifCond .eq 24, 3) := by decide +kernel
theorem dX3_canGo_13 : decode cX3_canGo 13 = .ok (.aload_n 0, 1) := by decide +kernel
theorem dX3_canGo_14 : decode cX3_canGo 14 = .ok (.iload_n 2, 1) := by decide +kernel
theorem dX3_canGo_15 : decode cX3_canGo 15 = .ok (.aload_n 0, 1) := by decide +kernel
theorem dX3_canGo_16 : decode cX3_canGo 16 = .ok (.iload_n 1, 1) := by decide +kernel
theorem dX3_canGo_17 : decode cX3_canGo 17 = .ok (.invokevirtual 71, 3) := by decide +kernel
theorem dX3_canGo_20 : decode cX3_canGo 20 = .ok (.aload_n 0, 1) := by decide +kernel
theorem dX3_canGo_21 : decode cX3_canGo 21 = .ok (.invokevirtual 74, 3) := by decide +kernel
theorem dX3_canGo_24 : decode cX3_canGo 24 = .ok (.invokevirtual 67, 3) := by decide +kernel
theorem dX3_canGo_27 : decode cX3_canGo 27 = .ok (.ifCond .eq 7, 3) := by decide +kernel
theorem dX3_canGo_30 : decode cX3_canGo 30 = .ok (.iconst 1, 1) := by decide +kernel
theorem dX3_canGo_31 : decode cX3_canGo 31 = .ok (.goto 4, 3) := by decide +kernel
theorem dX3_canGo_34 : decode cX3_canGo 34 = .ok (.iconst 0, 1) := by decide +kernel
theorem dX3_canGo_35 : decode cX3_canGo 35 = .ok (.ireturn, 1) := by decide +kernel
theorem dX3_goOver_0 : decode cX3_goOver 0 = .ok (.aload_n 0, 1) := by decide +kernel
theorem dX3_goOver_1 : decode cX3_goOver 1 = .ok (.getfield 9, 3) := by decide +kernel
theorem dX3_goOver_4 : decode cX3_goOver 4 = .ok (.bipush 42, 2) := by decide +kernel
theorem dX3_goOver_6 : decode cX3_goOver 6 = .ok (.iload_n 1, 1) := by decide +kernel
theorem dX3_goOver_7 : decode cX3_goOver 7 = .ok (.iadd, 1) := by decide +kernel
theorem dX3_goOver_8 : decode cX3_goOver 8 = .ok (.aload_n 0, 1) := by decide +kernel
theorem dX3_goOver_9 : decode cX3_goOver 9 = .ok (.iload_n 2, 1) := by decide +kernel
theorem dX3_goOver_10 : decode cX3_goOver 10 = .ok (.aload_n 0, 1) := by decide +kernel
theorem dX3_goOver_11 : decode cX3_goOver 11 = .ok (.iload_n 1, 1) := by decide +kernel
theorem dX3_goOver_12 : decode cX3_goOver 12 = .ok (.invokevirtual 77, 3) := by decide +kernel
theorem dX3_goOver_15 : decode cX3_goOver 15 = .ok (.invokevirtual 84, 3) := by decide +kernel
theorem dX3_goOver_18 : decode cX3_goOver 18 = .ok (.iastore, 1) := by decide +kernel
theorem dX3_goOver_19 : decode cX3_goOver 19 = .ok (.aload_n 0, 1) := by decide +kernel
theorem dX3_goOver_20 : decode cX3_goOver 20 = .ok (.iload_n 2, 1) := by decide +kernel
theorem dX3_goOver_21 : decode cX3_goOver 21 = .ok (.invokevirtual 50, 3) := by decide +kernel
theorem dX3_goOver_24 : decode cX3_goOver 24 = .ok (.iconst 5, 1) := by decide +kernel
theorem dX3_goOver_25 : decode cX3_goOver 25 = .ok (.if_icmp .ne 20, 3) := by decide +kernel
theorem dX3_goOver_28 : decode cX3_goOver 28 = .ok (.aload_n 0, 1) := by decide +kernel
theorem dX3_goOver_29 : decode cX3_goOver 29 = .ok (.getfield 9, 3) := by decide +kernel
theorem dX3_goOver_32 : decode cX3_goOver 32 = .ok (.iconst 5, 1) := by decide +kernel
theorem dX3_goOver_33 : decode cX3_goOver 33 = .ok (.dup2, 1) := by decide +kernel
theorem dX3_goOver_34 : decode cX3_goOver 34 = .ok (.iaload, 1) := by decide +kernel
theorem dX3_goOver_35 : decode cX3_goOver 35 = .ok (.aload_n 0, 1) := by decide +kernel
theorem dX3_goOver_36 : decode cX3_goOver 36 = .ok (.iload_n 2, 1) := by decide +kernel
theorem dX3_goOver_37 : decode cX3_goOver 37 = .ok (.invokevirtual 87, 3) := by decide +kernel
theorem dX3_goOver_40 : decode cX3_goOver 40 = .ok (.iadd, 1) := by decide +kernel
theorem dX3_goOver_41 : decode cX3_goOver 41 = .ok (.iastore, 1) := by decide +kernel
theorem dX3_goOver_42 : decode cX3_goOver 42 = .ok (.goto 13, 3) := by decide +kernel
theorem dX3_goOver_45 : decode cX3_goOver 45 = .ok (.aload_n 0, 1) := by decide +kernel
theorem dX3_goOver_46 : decode cX3_goOver 46 = .ok (.iload_n 2, 1) := by decide +kernel
theorem dX3_goOver_47 : decode cX3_goOver 47 = .ok (.aload_n 0, 1) := by decide +kernel
theorem dX3_goOver_48 : decode cX3_goOver 48 = .ok (.iload_n 1, 1) := by decide +kernel
theorem dX3_goOver_49 : decode cX3_goOver 49 = .ok (.invokevirtual 71, 3) := by decide +kernel
theorem dX3_goOver_52 : decode cX3_goOver 52 = .ok (.invokevirtual 90, 3) := by decide +kernel
theorem dX3_goOver_55 : decode cX3_goOver 55 = .ok (.return_, 1) := by decide +kernel
theorem dX3_swapSoles_0 : decode cX3_swapSoles 0 = .ok (.aload_n 0, 1) := by decide +kernel
theorem dX3_swapSoles_1 : decode cX3_swapSoles 1 = .ok (.iload_n 1, 1) := by decide +kernel
theorem dX3_swapSoles_2 : decode cX3_swapSoles 2 = .ok (.invokevirtual 71, 3) := by decide +kernel
theorem dX3_swapSoles_5 : decode cX3_swapSoles 5 = .ok (.istore_n 3, 1) := by decide +kernel
theorem dX3_swapSoles_6 : decode cX3_swapSoles 6 = .ok (.aload_n 0, 1) := by decide +kernel
theorem dX3_swapSoles_7 : decode cX3_swapSoles 7 = .ok (.getfield 9, 3) := by decide +kernel
theorem dX3_swapSoles_10 : decode cX3_swapSoles 10 = .ok (.bipush 46, 2) := by decide +kernel
theorem dX3_swapSoles_12 : decode cX3_swapSoles 12 = .ok (.iload_n 1, 1) := by decide +kernel
theorem dX3_swapSoles_13 : decode cX3_swapSoles 13 = .ok (.iadd, 1) := by decide +kernel
theorem dX3_swapSoles_14 : decode cX3_swapSoles 14 = .ok (.aload_n 0, 1) := by decide +kernel
theorem dX3_swapSoles_15 : decode cX3_swapSoles 15 = .ok (.iload_n 2, 1) := by decide +kernel
theorem dX3_swapSoles_16 : decode cX3_swapSoles 16 = .ok (.invokevirtual 71, 3) := by decide +kernel
theorem dX3_swapSoles_19 : decode cX3_swapSoles 19 = .ok (.iastore, 1) := by decide +kernel
theorem dX3_swapSoles_20 : decode cX3_swapSoles 20 = .ok (.aload_n 0, 1) := by decide +kernel
theorem dX3_swapSoles_21 : decode cX3_swapSoles 21 = .ok (.getfield 9, 3) := by decide +kernel
theorem dX3_swapSoles_24 : decode cX3_swapSoles 24 = .ok (.bipush 46, 2) := by decide +kernel
theorem dX3_swapSoles_26 : decode cX3_swapSoles 26 = .ok (.iload_n 2, 1) := by decide +kernel
theorem dX3_swapSoles_27 : decode cX3_swapSoles 27 = .ok (.iadd, 1) := by decide +kernel
theorem dX3_swapSoles_28 : decode cX3_swapSoles 28 = .ok (.iload_n 3, 1) := by decide +kernel
theorem dX3_swapSoles_29 : decode cX3_swapSoles 29 = .ok (.iastore, 1) := by decide +kernel
theorem dX3_swapSoles_30 : decode cX3_swapSoles 30 = .ok (.return_, 1) := by decide +kernel
theorem dX3_forgetSole_0 : decode cX3_forgetSole 0 = .ok (.iconst 0, 1) := by decide +kernel
theorem dX3_forgetSole_1 : decode cX3_forgetSole 1 = .ok (.istore_n 2, 1) := by decide +kernel
theorem dX3_forgetSole_2 : decode cX3_forgetSole 2 = .ok (.iconst 0, 1) := by decide +kernel
theorem dX3_forgetSole_3 : decode cX3_forgetSole 3 = .ok (.istore_n 3, 1) := by decide +kernel
theorem dX3_forgetSole_4 : decode cX3_forgetSole 4 = .ok (.iload_n 3, 1) := by decide +kernel
theorem dX3_forgetSole_5 : decode cX3_forgetSole 5 = .ok (.aload_n 0, 1) := by decide +kernel
theorem dX3_forgetSole_6 : decode cX3_forgetSole 6 = .ok (.invokevirtual 29, 3) := by decide +kernel
theorem dX3_forgetSole_9 : decode cX3_forgetSole 9 = .ok (.if_icmp .ge 35, 3) := by decide +kernel
theorem dX3_forgetSole_12 : decode cX3_forgetSole 12 = .ok (.aload_n 0, 1) := by decide +kernel
theorem dX3_forgetSole_13 : decode cX3_forgetSole 13 = .ok (.iload_n 3, 1) := by decide +kernel
theorem dX3_forgetSole_14 : decode cX3_forgetSole 14 = .ok (.iload_n 1, 1) := by decide +kernel
theorem dX3_forgetSole_15 : decode cX3_forgetSole 15 = .ok (.invokevirtual 61, 3) := by decide +kernel
theorem dX3_forgetSole_18 : decode cX3_forgetSole 18 = .ok (.ifCond .le 6, 3) := by decide +kernel
theorem dX3_forgetSole_21 : decode cX3_forgetSole 21 = .ok (.iinc 2 1, 3) := by decide +kernel
theorem dX3_forgetSole_24 : decode cX3_forgetSole 24 = .ok (.aload_n 0, 1) := by decide +kernel
theorem dX3_forgetSole_25 : decode cX3_forgetSole 25 = .ok (.getfield 9, 3) := by decide +kernel
theorem dX3_forgetSole_28 : decode cX3_forgetSole 28 = .ok (.bipush 50, 2) := by decide +kernel
theorem dX3_forgetSole_30 : decode cX3_forgetSole 30 = .ok (.iload_n 3, 1) := by decide +kernel
theorem dX3_forgetSole_31 : decode cX3_forgetSole 31 = .ok (.iload_n 1, 1) := by decide +kernel
theorem dX3_forgetSole_32 : decode cX3_forgetSole 32 = .ok (.invokestatic 46, 3) := by decide +kernel
theorem dX3_forgetSole_35 : decode cX3_forgetSole 35 = .ok (.iadd, 1) := by decide +kernel
theorem dX3_forgetSole_36 : decode cX3_forgetSole 36 = .ok (.iconst 0, 1) := by decide +kernel
theorem dX3_forgetSole_37 : decode cX3_forgetSole 37 = .ok (.iastore, 1) := by decide +kernel
theorem dX3_forgetSole_38 : decode cX3_forgetSole 38 = .ok (.iinc 3 1, 3) := by decide +kernel
theorem dX3_forgetSole_41 : decode cX3_forgetSole 41 = .ok (.goto (-37), 3) := by decide +kernel
theorem dX3_forgetSole_44 : decode cX3_forgetSole 44 = .ok (.iload_n 2, 1) := by decide +kernel
theorem dX3_forgetSole_45 : decode cX3_forgetSole 45 = .ok (.ireturn, 1) := by decide +kernel
theorem dX3_nextDay_0 : decode cX3_nextDay 0 = .ok (.aload_n 0, 1) := by decide +kernel
theorem dX3_nextDay_1 : decode cX3_nextDay 1 = .ok (.getfield 9, 3) := by decide +kernel
theorem dX3_nextDay_4 : decode cX3_nextDay 4 = .ok (.iconst 4, 1) := by decide +kernel
theorem dX3_nextDay_5 : decode cX3_nextDay 5 = .ok (.dup2, 1) := by decide +kernel
theorem dX3_nextDay_6 : decode cX3_nextDay 6 = .ok (.iaload, 1) := by decide +kernel
theorem dX3_nextDay_7 : decode cX3_nextDay 7 = .ok (.iconst 1, 1) := by decide +kernel
theorem dX3_nextDay_8 : decode cX3_nextDay 8 = .ok (.iadd, 1) := by decide +kernel
theorem dX3_nextDay_9 : decode cX3_nextDay 9 = .ok (.iastore, 1) := by decide +kernel
theorem dX3_nextDay_10 : decode cX3_nextDay 10 = .ok (.return_, 1) := by decide +kernel
theorem dX3_giveLaw_0 : decode cX3_giveLaw 0 = .ok (.aload_n 0, 1) := by decide +kernel
theorem dX3_giveLaw_1 : decode cX3_giveLaw 1 = .ok (.getfield 9, 3) := by decide +kernel
theorem dX3_giveLaw_4 : decode cX3_giveLaw 4 = .ok (.iconst 0, 1) := by decide +kernel
theorem dX3_giveLaw_5 : decode cX3_giveLaw 5 = .ok (.iload_n 1, 1) := by decide +kernel
theorem dX3_giveLaw_6 : decode cX3_giveLaw 6 = .ok (.iastore, 1) := by decide +kernel
theorem dX3_giveLaw_7 : decode cX3_giveLaw 7 = .ok (.aload_n 0, 1) := by decide +kernel
theorem dX3_giveLaw_8 : decode cX3_giveLaw 8 = .ok (.getfield 9, 3) := by decide +kernel
theorem dX3_giveLaw_11 : decode cX3_giveLaw 11 = .ok (.iconst 1, 1) := by decide +kernel
theorem dX3_giveLaw_12 : decode cX3_giveLaw 12 = .ok (.iload_n 2, 1) := by decide +kernel
theorem dX3_giveLaw_13 : decode cX3_giveLaw 13 = .ok (.iastore, 1) := by decide +kernel
theorem dX3_giveLaw_14 : decode cX3_giveLaw 14 = .ok (.return_, 1) := by decide +kernel
theorem dX3_addRoad_0 : decode cX3_addRoad 0 = .ok (.aload_n 0, 1) := by decide +kernel
theorem dX3_addRoad_1 : decode cX3_addRoad 1 = .ok (.invokevirtual 29, 3) := by decide +kernel
theorem dX3_addRoad_4 : decode cX3_addRoad 4 = .ok (.istore 5, 2) := by decide +kernel
theorem dX3_addRoad_6 : decode cX3_addRoad 6 = .ok (.iload 5, 2) := by decide +kernel
theorem dX3_addRoad_8 : decode cX3_addRoad 8 = .ok (.bipush 9, 2) := by decide +kernel
theorem dX3_addRoad_10 : decode cX3_addRoad 10 = .ok (.if_icmp .lt 4, 3) := by decide +kernel
theorem dX3_addRoad_13 : decode cX3_addRoad 13 = .ok (.return_, 1) := by decide +kernel
theorem dX3_addRoad_14 : decode cX3_addRoad 14 = .ok (.aload_n 0, 1) := by decide +kernel
theorem dX3_addRoad_15 : decode cX3_addRoad 15 = .ok (.getfield 9, 3) := by decide +kernel
theorem dX3_addRoad_18 : decode cX3_addRoad 18 = .ok (.bipush 6, 2) := by decide +kernel
theorem dX3_addRoad_20 : decode cX3_addRoad 20 = .ok (.iload 5, 2) := by decide +kernel
theorem dX3_addRoad_22 : decode cX3_addRoad 22 = .ok (.iadd, 1) := by decide +kernel
theorem dX3_addRoad_23 : decode cX3_addRoad 23 = .ok (.iload_n 1, 1) := by decide +kernel
theorem dX3_addRoad_24 : decode cX3_addRoad 24 = .ok (.iastore, 1) := by decide +kernel
theorem dX3_addRoad_25 : decode cX3_addRoad 25 = .ok (.aload_n 0, 1) := by decide +kernel
theorem dX3_addRoad_26 : decode cX3_addRoad 26 = .ok (.getfield 9, 3) := by decide +kernel
theorem dX3_addRoad_29 : decode cX3_addRoad 29 = .ok (.bipush 15, 2) := by decide +kernel
theorem dX3_addRoad_31 : decode cX3_addRoad 31 = .ok (.iload 5, 2) := by decide +kernel
theorem dX3_addRoad_33 : decode cX3_addRoad 33 = .ok (.iadd, 1) := by decide +kernel
theorem dX3_addRoad_34 : decode cX3_addRoad 34 = .ok (.iload_n 2, 1) := by decide +kernel
theorem dX3_addRoad_35 : decode cX3_addRoad 35 = .ok (.iastore, 1) := by decide +kernel
theorem dX3_addRoad_36 : decode cX3_addRoad 36 = .ok (.aload_n 0, 1) := by decide +kernel
theorem dX3_addRoad_37 : decode cX3_addRoad 37 = .ok (.getfield 9, 3) := by decide +kernel
theorem dX3_addRoad_40 : decode cX3_addRoad 40 = .ok (.bipush 24, 2) := by decide +kernel
theorem dX3_addRoad_42 : decode cX3_addRoad 42 = .ok (.iload 5, 2) := by decide +kernel
theorem dX3_addRoad_44 : decode cX3_addRoad 44 = .ok (.iadd, 1) := by decide +kernel
theorem dX3_addRoad_45 : decode cX3_addRoad 45 = .ok (.iload_n 3, 1) := by decide +kernel
theorem dX3_addRoad_46 : decode cX3_addRoad 46 = .ok (.iastore, 1) := by decide +kernel
theorem dX3_addRoad_47 : decode cX3_addRoad 47 = .ok (.aload_n 0, 1) := by decide +kernel
theorem dX3_addRoad_48 : decode cX3_addRoad 48 = .ok (.getfield 9, 3) := by decide +kernel
theorem dX3_addRoad_51 : decode cX3_addRoad 51 = .ok (.bipush 33, 2) := by decide +kernel
theorem dX3_addRoad_53 : decode cX3_addRoad 53 = .ok (.iload 5, 2) := by decide +kernel
theorem dX3_addRoad_55 : decode cX3_addRoad 55 = .ok (.iadd, 1) := by decide +kernel
theorem dX3_addRoad_56 : decode cX3_addRoad 56 = .ok (.iload 4, 2) := by decide +kernel
theorem dX3_addRoad_58 : decode cX3_addRoad 58 = .ok (.iastore, 1) := by decide +kernel
theorem dX3_addRoad_59 : decode cX3_addRoad 59 = .ok (.aload_n 0, 1) := by decide +kernel
theorem dX3_addRoad_60 : decode cX3_addRoad 60 = .ok (.getfield 9, 3) := by decide +kernel
theorem dX3_addRoad_63 : decode cX3_addRoad 63 = .ok (.iconst 2, 1) := by decide +kernel
theorem dX3_addRoad_64 : decode cX3_addRoad 64 = .ok (.dup2, 1) := by decide +kernel
theorem dX3_addRoad_65 : decode cX3_addRoad 65 = .ok (.iaload, 1) := by decide +kernel
theorem dX3_addRoad_66 : decode cX3_addRoad 66 = .ok (.iconst 1, 1) := by decide +kernel
theorem dX3_addRoad_67 : decode cX3_addRoad 67 = .ok (.iadd, 1) := by decide +kernel
theorem dX3_addRoad_68 : decode cX3_addRoad 68 = .ok (.iastore, 1) := by decide +kernel
theorem dX3_addRoad_69 : decode cX3_addRoad 69 = .ok (.return_, 1) := by decide +kernel
theorem dX3_addPerson_0 : decode cX3_addPerson 0 = .ok (.aload_n 0, 1) := by decide +kernel
theorem dX3_addPerson_1 : decode cX3_addPerson 1 = .ok (.invokevirtual 32, 3) := by decide +kernel
theorem dX3_addPerson_4 : decode cX3_addPerson 4 = .ok (.istore_n 3, 1) := by decide +kernel
theorem dX3_addPerson_5 : decode cX3_addPerson 5 = .ok (.iload_n 3, 1) := by decide +kernel
theorem dX3_addPerson_6 : decode cX3_addPerson 6 = .ok (.iconst 4, 1) := by decide +kernel
theorem dX3_addPerson_7 : decode cX3_addPerson 7 = .ok (.if_icmp .lt 4, 3) := by decide +kernel
theorem dX3_addPerson_10 : decode cX3_addPerson 10 = .ok (.return_, 1) := by decide +kernel
theorem dX3_addPerson_11 : decode cX3_addPerson 11 = .ok (.aload_n 0, 1) := by decide +kernel
theorem dX3_addPerson_12 : decode cX3_addPerson 12 = .ok (.getfield 9, 3) := by decide +kernel
theorem dX3_addPerson_15 : decode cX3_addPerson 15 = .ok (.bipush 42, 2) := by decide +kernel
theorem dX3_addPerson_17 : decode cX3_addPerson 17 = .ok (.iload_n 3, 1) := by decide +kernel
theorem dX3_addPerson_18 : decode cX3_addPerson 18 = .ok (.iadd, 1) := by decide +kernel
theorem dX3_addPerson_19 : decode cX3_addPerson 19 = .ok (.iload_n 1, 1) := by decide +kernel
theorem dX3_addPerson_20 : decode cX3_addPerson 20 = .ok (.iastore, 1) := by decide +kernel
theorem dX3_addPerson_21 : decode cX3_addPerson 21 = .ok (.aload_n 0, 1) := by decide +kernel
theorem dX3_addPerson_22 : decode cX3_addPerson 22 = .ok (.getfield 9, 3) := by decide +kernel
theorem dX3_addPerson_25 : decode cX3_addPerson 25 = .ok (.bipush 46, 2) := by decide +kernel
theorem dX3_addPerson_27 : decode cX3_addPerson 27 = .ok (.iload_n 3, 1) := by decide +kernel
theorem dX3_addPerson_28 : decode cX3_addPerson 28 = .ok (.iadd, 1) := by decide +kernel
theorem dX3_addPerson_29 : decode cX3_addPerson 29 = .ok (.iload_n 3, 1) := by decide +kernel
theorem dX3_addPerson_30 : decode cX3_addPerson 30 = .ok (.iastore, 1) := by decide +kernel
theorem dX3_addPerson_31 : decode cX3_addPerson 31 = .ok (.aload_n 0, 1) := by decide +kernel
theorem dX3_addPerson_32 : decode cX3_addPerson 32 = .ok (.getfield 9, 3) := by decide +kernel
theorem dX3_addPerson_35 : decode cX3_addPerson 35 = .ok (.iconst 3, 1) := by decide +kernel
theorem dX3_addPerson_36 : decode cX3_addPerson 36 = .ok (.dup2, 1) := by decide +kernel
theorem dX3_addPerson_37 : decode cX3_addPerson 37 = .ok (.iaload, 1) := by decide +kernel
theorem dX3_addPerson_38 : decode cX3_addPerson 38 = .ok (.iconst 1, 1) := by decide +kernel
theorem dX3_addPerson_39 : decode cX3_addPerson 39 = .ok (.iadd, 1) := by decide +kernel
theorem dX3_addPerson_40 : decode cX3_addPerson 40 = .ok (.iastore, 1) := by decide +kernel
theorem dX3_addPerson_41 : decode cX3_addPerson 41 = .ok (.iconst 0, 1) := by decide +kernel
theorem dX3_addPerson_42 : decode cX3_addPerson 42 = .ok (.istore 4, 2) := by decide +kernel
theorem dX3_addPerson_44 : decode cX3_addPerson 44 = .ok (.iload 4, 2) := by decide +kernel
theorem dX3_addPerson_46 : decode cX3_addPerson 46 = .ok (.aload_n 0, 1) := by decide +kernel
theorem dX3_addPerson_47 : decode cX3_addPerson 47 = .ok (.invokevirtual 29, 3) := by decide +kernel
theorem dX3_addPerson_50 : decode cX3_addPerson 50 = .ok (.if_icmp .ge 43, 3) := by decide +kernel
theorem dX3_addPerson_53 : decode cX3_addPerson 53 = .ok (.iload_n 2, 1) := by decide +kernel
theorem dX3_addPerson_54 : decode cX3_addPerson 54 = .ok (.iload 4, 2) := by decide +kernel
theorem dX3_addPerson_56 : decode cX3_addPerson 56 = .ok (.ishr, 1) := by decide +kernel
theorem dX3_addPerson_57 : decode cX3_addPerson 57 = .ok (.iconst 1, 1) := by decide +kernel
theorem dX3_addPerson_58 : decode cX3_addPerson 58 = .ok (.iand, 1) := by decide +kernel
theorem dX3_addPerson_59 : decode cX3_addPerson 59 = .ok (.iconst 1, 1) := by decide +kernel
theorem dX3_addPerson_60 : decode cX3_addPerson 60 = .ok (.if_icmp .ne 27, 3) := by decide +kernel
theorem dX3_addPerson_63 : decode cX3_addPerson 63 = .ok (.aload_n 0, 1) := by decide +kernel
theorem dX3_addPerson_64 : decode cX3_addPerson 64 = .ok (.iload 4, 2) := by decide +kernel
theorem dX3_addPerson_66 : decode cX3_addPerson 66 = .ok (.invokevirtual 50, 3) := by decide +kernel
theorem dX3_addPerson_69 : decode cX3_addPerson 69 = .ok (.iconst 5, 1) := by decide +kernel
theorem dX3_addPerson_70 : decode cX3_addPerson 70 = .ok (.if_icmp .eq 17, 3) := by decide +kernel
theorem dX3_addPerson_73 : decode cX3_addPerson 73 = .ok (.aload_n 0, 1) := by decide +kernel
theorem dX3_addPerson_74 : decode cX3_addPerson 74 = .ok (.iload 4, 2) := by decide +kernel
theorem dX3_addPerson_76 : decode cX3_addPerson 76 = .ok (.iload_n 3, 1) := by decide +kernel
theorem dX3_addPerson_77 : decode cX3_addPerson 77 = .ok (.invokevirtual 90, 3) := by decide +kernel
theorem dX3_addPerson_80 : decode cX3_addPerson 80 = .ok (.aload_n 0, 1) := by decide +kernel
theorem dX3_addPerson_81 : decode cX3_addPerson 81 = .ok (.iload 4, 2) := by decide +kernel
theorem dX3_addPerson_83 : decode cX3_addPerson 83 = .ok (.iload_n 3, 1) := by decide +kernel
theorem dX3_addPerson_84 : decode cX3_addPerson 84 = .ok (.invokevirtual 90, 3) := by decide +kernel
theorem dX3_addPerson_87 : decode cX3_addPerson 87 = .ok (.iinc 4 1, 3) := by decide +kernel
theorem dX3_addPerson_90 : decode cX3_addPerson 90 = .ok (.goto (-46), 3) := by decide +kernel
theorem dX3_addPerson_93 : decode cX3_addPerson 93 = .ok (.return_, 1) := by decide +kernel
theorem dX3_meetToday_0 : decode cX3_meetToday 0 = .ok (.iload_n 1, 1) := by decide +kernel
theorem dX3_meetToday_1 : decode cX3_meetToday 1 = .ok (.iload_n 2, 1) := by decide +kernel
theorem dX3_meetToday_2 : decode cX3_meetToday 2 = .ok (.invokestatic 46, 3) := by decide +kernel
theorem dX3_meetToday_5 : decode cX3_meetToday 5 = .ok (.istore_n 3, 1) := by decide +kernel
theorem dX3_meetToday_6 : decode cX3_meetToday 6 = .ok (.aload_n 0, 1) := by decide +kernel
theorem dX3_meetToday_7 : decode cX3_meetToday 7 = .ok (.getfield 9, 3) := by decide +kernel
theorem dX3_meetToday_10 : decode cX3_meetToday 10 = .ok (.bipush 50, 2) := by decide +kernel
theorem dX3_meetToday_12 : decode cX3_meetToday 12 = .ok (.iload_n 3, 1) := by decide +kernel
theorem dX3_meetToday_13 : decode cX3_meetToday 13 = .ok (.iadd, 1) := by decide +kernel
theorem dX3_meetToday_14 : decode cX3_meetToday 14 = .ok (.dup2, 1) := by decide +kernel
theorem dX3_meetToday_15 : decode cX3_meetToday 15 = .ok (.iaload, 1) := by decide +kernel
theorem dX3_meetToday_16 : decode cX3_meetToday 16 = .ok (.iconst 1, 1) := by decide +kernel
theorem dX3_meetToday_17 : decode cX3_meetToday 17 = .ok (.iadd, 1) := by decide +kernel
theorem dX3_meetToday_18 : decode cX3_meetToday 18 = .ok (.iastore, 1) := by decide +kernel
theorem dX3_meetToday_19 : decode cX3_meetToday 19 = .ok (.aload_n 0, 1) := by decide +kernel
theorem dX3_meetToday_20 : decode cX3_meetToday 20 = .ok (.getfield 9, 3) := by decide +kernel
theorem dX3_meetToday_23 : decode cX3_meetToday 23 = .ok (.bipush 86, 2) := by decide +kernel
theorem dX3_meetToday_25 : decode cX3_meetToday 25 = .ok (.iload_n 3, 1) := by decide +kernel
theorem dX3_meetToday_26 : decode cX3_meetToday 26 = .ok (.iadd, 1) := by decide +kernel
theorem dX3_meetToday_27 : decode cX3_meetToday 27 = .ok (.aload_n 0, 1) := by decide +kernel
theorem dX3_meetToday_28 : decode cX3_meetToday 28 = .ok (.invokevirtual 74, 3) := by decide +kernel
theorem dX3_meetToday_31 : decode cX3_meetToday 31 = .ok (.iastore, 1) := by decide +kernel
theorem dX3_meetToday_32 : decode cX3_meetToday 32 = .ok (.return_, 1) := by decide +kernel
theorem dX3_meeting_0 : decode cX3_meeting 0 = .ok (.iload_n 0, 1) := by decide +kernel
theorem dX3_meeting_1 : decode cX3_meeting 1 = .ok (.iconst 4, 1) := by decide +kernel
theorem dX3_meeting_2 : decode cX3_meeting 2 = .ok (.imul, 1) := by decide +kernel
theorem dX3_meeting_3 : decode cX3_meeting 3 = .ok (.iload_n 1, 1) := by decide +kernel
theorem dX3_meeting_4 : decode cX3_meeting 4 = .ok (.iadd, 1) := by decide +kernel
theorem dX3_meeting_5 : decode cX3_meeting 5 = .ok (.ireturn, 1) := by decide +kernel
theorem dX4_init_0 : decode cX4_init 0 = .ok (.aload_n 0, 1) := by decide +kernel
theorem dX4_init_1 : decode cX4_init 1 = .ok (.invokespecial 1, 3) := by decide +kernel
theorem dX4_init_4 : decode cX4_init 4 = .ok (.aload_n 0, 1) := by decide +kernel
theorem dX4_init_5 : decode cX4_init 5 = .ok (.bipush 120, 2) := by decide +kernel
theorem dX4_init_7 : decode cX4_init 7 = .ok (.newarray .int, 2) := by decide +kernel
theorem dX4_init_9 : decode cX4_init 9 = .ok (.putfield 9, 3) := by decide +kernel
theorem dX4_init_12 : decode cX4_init 12 = .ok (.aload_n 0, 1) := by decide +kernel
theorem dX4_init_13 : decode cX4_init 13 = .ok (.iconst 0, 1) := by decide +kernel
theorem dX4_init_14 : decode cX4_init 14 = .ok (.putfield 13, 3) := by decide +kernel
theorem dX4_init_17 : decode cX4_init 17 = .ok (.return_, 1) := by decide +kernel
theorem dX4_isFull_0 : decode cX4_isFull 0 = .ok (.aload_n 0, 1) := by decide +kernel
theorem dX4_isFull_1 : decode cX4_isFull 1 = .ok (.getfield 13, 3) := by decide +kernel
theorem dX4_isFull_4 : decode cX4_isFull 4 = .ok (.bipush 120, 2) := by decide +kernel
theorem dX4_isFull_6 : decode cX4_isFull 6 = .ok (.if_icmp .lt 7, 3) := by decide +kernel
theorem dX4_isFull_9 : decode cX4_isFull 9 = .ok (.iconst 1, 1) := by decide +kernel
theorem dX4_isFull_10 : decode cX4_isFull 10 = .ok (.goto 4, 3) := by decide +kernel
theorem dX4_isFull_13 : decode cX4_isFull 13 = .ok (.iconst 0, 1) := by decide +kernel
theorem dX4_isFull_14 : decode cX4_isFull 14 = .ok (.ireturn, 1) := by decide +kernel
theorem dX4_length_0 : decode cX4_length 0 = .ok (.aload_n 0, 1) := by decide +kernel
theorem dX4_length_1 : decode cX4_length 1 = .ok (.getfield 13, 3) := by decide +kernel
theorem dX4_length_4 : decode cX4_length 4 = .ok (.ireturn, 1) := by decide +kernel
theorem dX4_append_0 : decode cX4_append 0 = .ok (.aload_n 0, 1) := by decide +kernel
theorem dX4_append_1 : decode cX4_append 1 = .ok (.invokevirtual 17, 3) := by decide +kernel
theorem dX4_append_4 : decode cX4_append 4 = .ok (.ifCond .ne 23, 3) := by decide +kernel
theorem dX4_append_7 : decode cX4_append 7 = .ok (.aload_n 0, 1) := by decide +kernel
theorem dX4_append_8 : decode cX4_append 8 = .ok (.getfield 9, 3) := by decide +kernel
theorem dX4_append_11 : decode cX4_append 11 = .ok (.aload_n 0, 1) := by decide +kernel
theorem dX4_append_12 : decode cX4_append 12 = .ok (.getfield 13, 3) := by decide +kernel
theorem dX4_append_15 : decode cX4_append 15 = .ok (.iload_n 1, 1) := by decide +kernel
theorem dX4_append_16 : decode cX4_append 16 = .ok (.iastore, 1) := by decide +kernel
theorem dX4_append_17 : decode cX4_append 17 = .ok (.aload_n 0, 1) := by decide +kernel
theorem dX4_append_18 : decode cX4_append 18 = .ok (.dup, 1) := by decide +kernel
theorem dX4_append_19 : decode cX4_append 19 = .ok (.getfield 13, 3) := by decide +kernel
theorem dX4_append_22 : decode cX4_append 22 = .ok (.iconst 1, 1) := by decide +kernel
theorem dX4_append_23 : decode cX4_append 23 = .ok (.iadd, 1) := by decide +kernel
theorem dX4_append_24 : decode cX4_append 24 = .ok (.putfield 13, 3) := by decide +kernel
theorem dX4_append_27 : decode cX4_append 27 = .ok (.aload_n 0, 1) := by decide +kernel
theorem dX4_append_28 : decode cX4_append 28 = .ok (.getfield 13, 3) := by decide +kernel
theorem dX4_append_31 : decode cX4_append 31 = .ok (.ireturn, 1) := by decide +kernel
theorem dX4_clearTape_0 : decode cX4_clearTape 0 = .ok (.aload_n 0, 1) := by decide +kernel
theorem dX4_clearTape_1 : decode cX4_clearTape 1 = .ok (.iconst 0, 1) := by decide +kernel
theorem dX4_clearTape_2 : decode cX4_clearTape 2 = .ok (.putfield 13, 3) := by decide +kernel
theorem dX4_clearTape_5 : decode cX4_clearTape 5 = .ok (.return_, 1) := by decide +kernel
theorem dX4_faultNumber_0 : decode cX4_faultNumber 0 = .ok (.aload_n 0, 1) := by decide +kernel
theorem dX4_faultNumber_1 : decode cX4_faultNumber 1 = .ok (.getfield 21, 3) := by decide +kernel
theorem dX4_faultNumber_4 : decode cX4_faultNumber 4 = .ok (.ireturn, 1) := by decide +kernel
theorem dX4_faultPlace_0 : decode cX4_faultPlace 0 = .ok (.aload_n 0, 1) := by decide +kernel
theorem dX4_faultPlace_1 : decode cX4_faultPlace 1 = .ok (.getfield 24, 3) := by decide +kernel
theorem dX4_faultPlace_4 : decode cX4_faultPlace 4 = .ok (.ireturn, 1) := by decide +kernel
theorem dX4_readInto_0 : decode cX4_readInto 0 = .ok (.aload_n 0, 1) := by decide +kernel
theorem dX4_readInto_1 : decode cX4_readInto 1 = .ok (.iconst 0, 1) := by decide +kernel
theorem dX4_readInto_2 : decode cX4_readInto 2 = .ok (.putfield 24, 3) := by decide +kernel
theorem dX4_readInto_5 : decode cX4_readInto 5 = .ok (.aload_n 0, 1) := by decide +kernel
theorem dX4_readInto_6 : decode cX4_readInto 6 = .ok (.iconst 0, 1) := by decide +kernel
theorem dX4_readInto_7 : decode cX4_readInto 7 = .ok (.putfield 21, 3) := by decide +kernel
theorem dX4_readInto_10 : decode cX4_readInto 10 = .ok (.aload_n 1, 1) := by decide +kernel
theorem dX4_readInto_11 : decode cX4_readInto 11 = .ok (.invokevirtual 27, 3) := by decide +kernel
theorem dX4_readInto_14 : decode cX4_readInto 14 = .ok (.aload_n 0, 1) := by decide +kernel
theorem dX4_readInto_15 : decode cX4_readInto 15 = .ok (.aload_n 1, 1) := by decide +kernel
theorem dX4_readInto_16 : decode cX4_readInto 16 = .ok (.invokevirtual 32, 3) := by decide +kernel
theorem dX4_readInto_19 : decode cX4_readInto 19 = .ok (.ifCond .eq 30, 3) := by decide +kernel
theorem dX4_readInto_22 : decode cX4_readInto 22 = .ok (.aload_n 0, 1) := by decide +kernel
theorem dX4_readInto_23 : decode cX4_readInto 23 = .ok (.aload_n 1, 1) := by decide +kernel
theorem dX4_readInto_24 : decode cX4_readInto 24 = .ok (.invokevirtual 36, 3) := by decide +kernel
theorem dX4_readInto_27 : decode cX4_readInto 27 = .ok (.ifCond .eq 22, 3) := by decide +kernel
theorem dX4_readInto_30 : decode cX4_readInto 30 = .ok (.aload_n 0, 1) := by decide +kernel
theorem dX4_readInto_31 : decode cX4_readInto 31 = .ok (.aload_n 1, 1) := by decide +kernel
theorem dX4_readInto_32 : decode cX4_readInto 32 = .ok (.invokevirtual 39, 3) := by decide +kernel
theorem dX4_readInto_35 : decode cX4_readInto 35 = .ok (.ifCond .eq 14, 3) := by decide +kernel
theorem dX4_readInto_38 : decode cX4_readInto 38 = .ok (.aload_n 0, 1) := by decide +kernel
theorem dX4_readInto_39 : decode cX4_readInto 39 = .ok (.invokevirtual 42, 3) := by decide +kernel
theorem dX4_readInto_42 : decode cX4_readInto 42 = .ok (.ifCond .eq 7, 3) := by decide +kernel
theorem dX4_readInto_45 : decode cX4_readInto 45 = .ok (.iconst 1, 1) := by decide +kernel
theorem dX4_readInto_46 : decode cX4_readInto 46 = .ok (.goto 4, 3) := by decide +kernel
theorem dX4_readInto_49 : decode cX4_readInto 49 = .ok (.iconst 0, 1) := by decide +kernel
theorem dX4_readInto_50 : decode cX4_readInto 50 = .ok (.ireturn, 1) := by decide +kernel
theorem dX4_readLaw_0 : decode cX4_readLaw 0 = .ok (.aload_n 0, 1) := by decide +kernel
theorem dX4_readLaw_1 : decode cX4_readLaw 1 = .ok (.bipush 102, 2) := by decide +kernel
theorem dX4_readLaw_3 : decode cX4_readLaw 3 = .ok (.invokevirtual 45, 3) := by decide +kernel
theorem dX4_readLaw_6 : decode cX4_readLaw 6 = .ok (.ifCond .eq 14, 3) := by decide +kernel
theorem dX4_readLaw_9 : decode cX4_readLaw 9 = .ok (.aload_n 0, 1) := by decide +kernel
theorem dX4_readLaw_10 : decode cX4_readLaw 10 = .ok (.iconst 1, 1) := by decide +kernel
theorem dX4_readLaw_11 : decode cX4_readLaw 11 = .ok (.bipush 30, 2) := by decide +kernel
theorem dX4_readLaw_13 : decode cX4_readLaw 13 = .ok (.iconst (-1), 1) := by decide +kernel
theorem dX4_readLaw_14 : decode cX4_readLaw 14 = .ok (.invokevirtual 49, 3) := by decide +kernel
theorem dX4_readLaw_17 : decode cX4_readLaw 17 = .ok (.ifCond .ne 5, 3) := by decide +kernel
theorem dX4_readLaw_20 : decode cX4_readLaw 20 = .ok (.iconst 0, 1) := by decide +kernel
theorem dX4_readLaw_21 : decode cX4_readLaw 21 = .ok (.ireturn, 1) := by decide +kernel
theorem dX4_readLaw_22 : decode cX4_readLaw 22 = .ok (.aload_n 0, 1) := by decide +kernel
theorem dX4_readLaw_23 : decode cX4_readLaw 23 = .ok (.getfield 53, 3) := by decide +kernel
theorem dX4_readLaw_26 : decode cX4_readLaw 26 = .ok (.istore_n 2, 1) := by decide +kernel
theorem dX4_readLaw_27 : decode cX4_readLaw 27 = .ok (.aload_n 0, 1) := by decide +kernel
theorem dX4_readLaw_28 : decode cX4_readLaw 28 = .ok (.bipush 44, 2) := by decide +kernel
theorem dX4_readLaw_30 : decode cX4_readLaw 30 = .ok (.invokevirtual 45, 3) := by decide +kernel
theorem dX4_readLaw_33 : decode cX4_readLaw 33 = .ok (.ifCond .eq 14, 3) := by decide +kernel
theorem dX4_readLaw_36 : decode cX4_readLaw 36 = .ok (.aload_n 0, 1) := by decide +kernel
theorem dX4_readLaw_37 : decode cX4_readLaw 37 = .ok (.iconst 2, 1) := by decide +kernel
theorem dX4_readLaw_38 : decode cX4_readLaw 38 = .ok (.bipush 8, 2) := by decide +kernel
theorem dX4_readLaw_40 : decode cX4_readLaw 40 = .ok (.iconst (-1), 1) := by decide +kernel
theorem dX4_readLaw_41 : decode cX4_readLaw 41 = .ok (.invokevirtual 49, 3) := by decide +kernel
theorem dX4_readLaw_44 : decode cX4_readLaw 44 = .ok (.ifCond .ne 5, 3) := by decide +kernel
theorem dX4_readLaw_47 : decode cX4_readLaw 47 = .ok (.iconst 0, 1) := by decide +kernel
theorem dX4_readLaw_48 : decode cX4_readLaw 48 = .ok (.ireturn, 1) := by decide +kernel
theorem dX4_readLaw_49 : decode cX4_readLaw 49 = .ok (.aload_n 1, 1) := by decide +kernel
theorem dX4_readLaw_50 : decode cX4_readLaw 50 = .ok (.iload_n 2, 1) := by decide +kernel
theorem dX4_readLaw_51 : decode cX4_readLaw 51 = .ok (.aload_n 0, 1) := by decide +kernel
theorem dX4_readLaw_52 : decode cX4_readLaw 52 = .ok (.getfield 53, 3) := by decide +kernel
theorem dX4_readLaw_55 : decode cX4_readLaw 55 = .ok (.invokevirtual 56, 3) := by decide +kernel
theorem dX4_readLaw_58 : decode cX4_readLaw 58 = .ok (.aload_n 0, 1) := by decide +kernel
theorem dX4_readLaw_59 : decode cX4_readLaw 59 = .ok (.bipush 59, 2) := by decide +kernel
theorem dX4_readLaw_61 : decode cX4_readLaw 61 = .ok (.invokevirtual 45, 3) := by decide +kernel
theorem dX4_readLaw_64 : decode cX4_readLaw 64 = .ok (.ireturn, 1) := by decide +kernel
theorem dX4_readRoads_0 : decode cX4_readRoads 0 = .ok (.iconst 0, 1) := by decide +kernel
theorem dX4_readRoads_1 : decode cX4_readRoads 1 = .ok (.istore_n 2, 1) := by decide +kernel
theorem dX4_readRoads_2 : decode cX4_readRoads 2 = .ok (.iload_n 2, 1) := by decide +kernel
theorem dX4_readRoads_3 : decode cX4_readRoads 3 = .ok (.bipush 9, 2) := by decide +kernel
theorem dX4_readRoads_5 : decode cX4_readRoads 5 = .ok (.if_icmp .gt 64, 3) := by decide +kernel
theorem dX4_readRoads_8 : decode cX4_readRoads 8 = .ok (.aload_n 0, 1) := by decide +kernel
theorem dX4_readRoads_9 : decode cX4_readRoads 9 = .ok (.invokevirtual 60, 3) := by decide +kernel
theorem dX4_readRoads_12 : decode cX4_readRoads 12 = .ok (.aload_n 0, 1) := by decide +kernel
theorem dX4_readRoads_13 : decode cX4_readRoads 13 = .ok (.getfield 63, 3) := by decide +kernel
theorem dX4_readRoads_16 : decode cX4_readRoads 16 = .ok (.invokestatic 66, 3) := by decide +kernel
theorem dX4_readRoads_19 : decode cX4_readRoads 19 = .ok (.istore_n 3, 1) := by decide +kernel
theorem dX4_readRoads_20 : decode cX4_readRoads 20 = .ok (.iload_n 3, 1) := by decide +kernel
theorem dX4_readRoads_21 : decode cX4_readRoads 21 = .ok (.invokestatic 72, 3) := by decide +kernel
theorem dX4_readRoads_24 : decode cX4_readRoads 24 = .ok (.ifCond .ne 5, 3) := by decide +kernel
theorem dX4_readRoads_27 : decode cX4_readRoads 27 = .ok (.iconst 1, 1) := by decide +kernel
theorem dX4_readRoads_28 : decode cX4_readRoads 28 = .ok (.ireturn, 1) := by decide +kernel
theorem dX4_readRoads_29 : decode cX4_readRoads 29 = .ok (.iload_n 2, 1) := by decide +kernel
theorem dX4_readRoads_30 : decode cX4_readRoads 30 = .ok (.bipush 9, 2) := by decide +kernel
theorem dX4_readRoads_32 : decode cX4_readRoads 32 = .ok (.if_icmp .ne 9, 3) := by decide +kernel
theorem dX4_readRoads_35 : decode cX4_readRoads 35 = .ok (.aload_n 0, 1) := by decide +kernel
theorem dX4_readRoads_36 : decode cX4_readRoads 36 = .ok (.iconst 3, 1) := by decide +kernel
theorem dX4_readRoads_37 : decode cX4_readRoads 37 = .ok (.invokevirtual 75, 3) := by decide +kernel
theorem dX4_readRoads_40 : decode cX4_readRoads 40 = .ok (.ireturn, 1) := by decide +kernel
theorem dX4_readRoads_41 : decode cX4_readRoads 41 = .ok (.aload_n 0, 1) := by decide +kernel
theorem dX4_readRoads_42 : decode cX4_readRoads 42 = .ok (.aload_n 0, 1) := by decide +kernel
theorem dX4_readRoads_43 : decode cX4_readRoads 43 = .ok (.getfield 63, 3) := by decide +kernel
theorem dX4_readRoads_46 : decode cX4_readRoads 46 = .ok (.invokevirtual 45, 3) := by decide +kernel
theorem dX4_readRoads_49 : decode cX4_readRoads 49 = .ok (.ifCond .eq 12, 3) := by decide +kernel
theorem dX4_readRoads_52 : decode cX4_readRoads 52 = .ok (.aload_n 0, 1) := by decide +kernel
theorem dX4_readRoads_53 : decode cX4_readRoads 53 = .ok (.aload_n 1, 1) := by decide +kernel
theorem dX4_readRoads_54 : decode cX4_readRoads 54 = .ok (.iload_n 3, 1) := by decide +kernel
theorem dX4_readRoads_55 : decode cX4_readRoads 55 = .ok (.invokevirtual 78, 3) := by decide +kernel
theorem dX4_readRoads_58 : decode cX4_readRoads 58 = .ok (.ifCond .ne 5, 3) := by decide +kernel
theorem dX4_readRoads_61 : decode cX4_readRoads 61 = .ok (.iconst 0, 1) := by decide +kernel
theorem dX4_readRoads_62 : decode cX4_readRoads 62 = .ok (.ireturn, 1) := by decide +kernel
theorem dX4_readRoads_63 : decode cX4_readRoads 63 = .ok (.iinc 2 1, 3) := by decide +kernel
theorem dX4_readRoads_66 : decode cX4_readRoads 66 = .ok (.goto (-64), 3) := by decide +kernel
theorem dX4_readRoads_69 : decode cX4_readRoads 69 = .ok (.iconst 1, 1) := by decide +kernel
theorem dX4_readRoads_70 : decode cX4_readRoads 70 = .ok (.ireturn, 1) := by decide +kernel
theorem dX4_readRoad_0 : decode cX4_readRoad 0 = .ok (.aload_n 1, 1) := by decide +kernel
theorem dX4_readRoad_1 : decode cX4_readRoad 1 = .ok (.invokevirtual 82, 3) := by decide +kernel
theorem dX4_readRoad_4 : decode cX4_readRoad 4 = .ok (.iconst 1, 1) := by decide +kernel
theorem dX4_readRoad_5 : decode cX4_readRoad 5 = .ok (.isub, 1) := by decide +kernel
theorem dX4_readRoad_6 : decode cX4_readRoad 6 = .ok (.istore_n 3, 1) := by decide +kernel
theorem dX4_readRoad_7 : decode cX4_readRoad 7 = .ok (.aload_n 0, 1) := by decide +kernel
theorem dX4_readRoad_8 : decode cX4_readRoad 8 = .ok (.iconst 0, 1) := by decide +kernel
theorem dX4_readRoad_9 : decode cX4_readRoad 9 = .ok (.iload_n 3, 1) := by decide +kernel
theorem dX4_readRoad_10 : decode cX4_readRoad 10 = .ok (.iconst (-1), 1) := by decide +kernel
theorem dX4_readRoad_11 : decode cX4_readRoad 11 = .ok (.invokevirtual 49, 3) := by decide +kernel
theorem dX4_readRoad_14 : decode cX4_readRoad 14 = .ok (.ifCond .ne 5, 3) := by decide +kernel
theorem dX4_readRoad_17 : decode cX4_readRoad 17 = .ok (.iconst 0, 1) := by decide +kernel
theorem dX4_readRoad_18 : decode cX4_readRoad 18 = .ok (.ireturn, 1) := by decide +kernel
theorem dX4_readRoad_19 : decode cX4_readRoad 19 = .ok (.aload_n 0, 1) := by decide +kernel
theorem dX4_readRoad_20 : decode cX4_readRoad 20 = .ok (.getfield 53, 3) := by decide +kernel
theorem dX4_readRoad_23 : decode cX4_readRoad 23 = .ok (.istore 4, 2) := by decide +kernel
theorem dX4_readRoad_25 : decode cX4_readRoad 25 = .ok (.aload_n 0, 1) := by decide +kernel
theorem dX4_readRoad_26 : decode cX4_readRoad 26 = .ok (.bipush 44, 2) := by decide +kernel
theorem dX4_readRoad_28 : decode cX4_readRoad 28 = .ok (.invokevirtual 45, 3) := by decide +kernel
theorem dX4_readRoad_31 : decode cX4_readRoad 31 = .ok (.ifCond .eq 14, 3) := by decide +kernel
theorem dX4_readRoad_34 : decode cX4_readRoad 34 = .ok (.aload_n 0, 1) := by decide +kernel
theorem dX4_readRoad_35 : decode cX4_readRoad 35 = .ok (.iconst 0, 1) := by decide +kernel
theorem dX4_readRoad_36 : decode cX4_readRoad 36 = .ok (.iload_n 3, 1) := by decide +kernel
theorem dX4_readRoad_37 : decode cX4_readRoad 37 = .ok (.iload 4, 2) := by decide +kernel
theorem dX4_readRoad_39 : decode cX4_readRoad 39 = .ok (.invokevirtual 49, 3) := by decide +kernel
theorem dX4_readRoad_42 : decode cX4_readRoad 42 = .ok (.ifCond .ne 5, 3) := by decide +kernel
theorem dX4_readRoad_45 : decode cX4_readRoad 45 = .ok (.iconst 0, 1) := by decide +kernel
theorem dX4_readRoad_46 : decode cX4_readRoad 46 = .ok (.ireturn, 1) := by decide +kernel
theorem dX4_readRoad_47 : decode cX4_readRoad 47 = .ok (.aload_n 0, 1) := by decide +kernel
theorem dX4_readRoad_48 : decode cX4_readRoad 48 = .ok (.getfield 53, 3) := by decide +kernel
theorem dX4_readRoad_51 : decode cX4_readRoad 51 = .ok (.istore 5, 2) := by decide +kernel
theorem dX4_readRoad_53 : decode cX4_readRoad 53 = .ok (.aload_n 0, 1) := by decide +kernel
theorem dX4_readRoad_54 : decode cX4_readRoad 54 = .ok (.bipush 44, 2) := by decide +kernel
theorem dX4_readRoad_56 : decode cX4_readRoad 56 = .ok (.invokevirtual 45, 3) := by decide +kernel
theorem dX4_readRoad_59 : decode cX4_readRoad 59 = .ok (.ifCond .eq 14, 3) := by decide +kernel
theorem dX4_readRoad_62 : decode cX4_readRoad 62 = .ok (.aload_n 0, 1) := by decide +kernel
theorem dX4_readRoad_63 : decode cX4_readRoad 63 = .ok (.iconst 1, 1) := by decide +kernel
theorem dX4_readRoad_64 : decode cX4_readRoad 64 = .ok (.bipush 9, 2) := by decide +kernel
theorem dX4_readRoad_66 : decode cX4_readRoad 66 = .ok (.iconst (-1), 1) := by decide +kernel
theorem dX4_readRoad_67 : decode cX4_readRoad 67 = .ok (.invokevirtual 49, 3) := by decide +kernel
theorem dX4_readRoad_70 : decode cX4_readRoad 70 = .ok (.ifCond .ne 5, 3) := by decide +kernel
theorem dX4_readRoad_73 : decode cX4_readRoad 73 = .ok (.iconst 0, 1) := by decide +kernel
theorem dX4_readRoad_74 : decode cX4_readRoad 74 = .ok (.ireturn, 1) := by decide +kernel
theorem dX4_readRoad_75 : decode cX4_readRoad 75 = .ok (.aload_n 1, 1) := by decide +kernel
theorem dX4_readRoad_76 : decode cX4_readRoad 76 = .ok (.iload_n 2, 1) := by decide +kernel
theorem dX4_readRoad_77 : decode cX4_readRoad 77 = .ok (.iload 4, 2) := by decide +kernel
theorem dX4_readRoad_79 : decode cX4_readRoad 79 = .ok (.iload 5, 2) := by decide +kernel
theorem dX4_readRoad_81 : decode cX4_readRoad 81 = .ok (.aload_n 0, 1) := by decide +kernel
theorem dX4_readRoad_82 : decode cX4_readRoad 82 = .ok (.getfield 53, 3) := by decide +kernel
theorem dX4_readRoad_85 : decode cX4_readRoad 85 = .ok (.invokevirtual 86, 3) := by decide +kernel
theorem dX4_readRoad_88 : decode cX4_readRoad 88 = .ok (.aload_n 0, 1) := by decide +kernel
theorem dX4_readRoad_89 : decode cX4_readRoad 89 = .ok (.bipush 59, 2) := by decide +kernel
theorem dX4_readRoad_91 : decode cX4_readRoad 91 = .ok (.invokevirtual 45, 3) := by decide +kernel
theorem dX4_readRoad_94 : decode cX4_readRoad 94 = .ok (.ireturn, 1) := by decide +kernel
theorem dX4_readPeople_0 : decode cX4_readPeople 0 = .ok (.iconst 0, 1) := by decide +kernel
theorem dX4_readPeople_1 : decode cX4_readPeople 1 = .ok (.istore_n 2, 1) := by decide +kernel
theorem dX4_readPeople_2 : decode cX4_readPeople 2 = .ok (.iload_n 2, 1) := by decide +kernel
theorem dX4_readPeople_3 : decode cX4_readPeople 3 = .ok (.iconst 4, 1) := by decide +kernel
theorem dX4_readPeople_4 : decode cX4_readPeople 4 = .ok (.if_icmp .gt 54, 3) := by decide +kernel
theorem dX4_readPeople_7 : decode cX4_readPeople 7 = .ok (.aload_n 0, 1) := by decide +kernel
theorem dX4_readPeople_8 : decode cX4_readPeople 8 = .ok (.invokevirtual 60, 3) := by decide +kernel
theorem dX4_readPeople_11 : decode cX4_readPeople 11 = .ok (.aload_n 0, 1) := by decide +kernel
theorem dX4_readPeople_12 : decode cX4_readPeople 12 = .ok (.getfield 63, 3) := by decide +kernel
theorem dX4_readPeople_15 : decode cX4_readPeople 15 = .ok (.bipush 112, 2) := by decide +kernel
theorem dX4_readPeople_17 : decode cX4_readPeople 17 = .ok (.if_icmp .eq 5, 3) := by decide +kernel
theorem dX4_readPeople_20 : decode cX4_readPeople 20 = .ok (.iconst 1, 1) := by decide +kernel
theorem dX4_readPeople_21 : decode cX4_readPeople 21 = .ok (.ireturn, 1) := by decide +kernel
theorem dX4_readPeople_22 : decode cX4_readPeople 22 = .ok (.iload_n 2, 1) := by decide +kernel
theorem dX4_readPeople_23 : decode cX4_readPeople 23 = .ok (.iconst 4, 1) := by decide +kernel
theorem dX4_readPeople_24 : decode cX4_readPeople 24 = .ok (.if_icmp .ne 9, 3) := by decide +kernel
theorem dX4_readPeople_27 : decode cX4_readPeople 27 = .ok (.aload_n 0, 1) := by decide +kernel
theorem dX4_readPeople_28 : decode cX4_readPeople 28 = .ok (.iconst 3, 1) := by decide +kernel
theorem dX4_readPeople_29 : decode cX4_readPeople 29 = .ok (.invokevirtual 75, 3) := by decide +kernel
theorem dX4_readPeople_32 : decode cX4_readPeople 32 = .ok (.ireturn, 1) := by decide +kernel
theorem dX4_readPeople_33 : decode cX4_readPeople 33 = .ok (.aload_n 0, 1) := by decide +kernel
theorem dX4_readPeople_34 : decode cX4_readPeople 34 = .ok (.bipush 112, 2) := by decide +kernel
theorem dX4_readPeople_36 : decode cX4_readPeople 36 = .ok (.invokevirtual 45, 3) := by decide +kernel
theorem dX4_readPeople_39 : decode cX4_readPeople 39 = .ok (.ifCond .eq 11, 3) := by decide +kernel
theorem dX4_readPeople_42 : decode cX4_readPeople 42 = .ok (.aload_n 0, 1) := by decide +kernel
theorem dX4_readPeople_43 : decode cX4_readPeople 43 = .ok (.aload_n 1, 1) := by decide +kernel
theorem dX4_readPeople_44 : decode cX4_readPeople 44 = .ok (.invokevirtual 90, 3) := by decide +kernel
theorem dX4_readPeople_47 : decode cX4_readPeople 47 = .ok (.ifCond .ne 5, 3) := by decide +kernel
theorem dX4_readPeople_50 : decode cX4_readPeople 50 = .ok (.iconst 0, 1) := by decide +kernel
theorem dX4_readPeople_51 : decode cX4_readPeople 51 = .ok (.ireturn, 1) := by decide +kernel
theorem dX4_readPeople_52 : decode cX4_readPeople 52 = .ok (.iinc 2 1, 3) := by decide +kernel
theorem dX4_readPeople_55 : decode cX4_readPeople 55 = .ok (.goto (-53), 3) := by decide +kernel
theorem dX4_readPeople_58 : decode cX4_readPeople 58 = .ok (.iconst 1, 1) := by decide +kernel
theorem dX4_readPeople_59 : decode cX4_readPeople 59 = .ok (.ireturn, 1) := by decide +kernel
theorem dX4_readPerson_0 : decode cX4_readPerson 0 = .ok (.aload_n 0, 1) := by decide +kernel
theorem dX4_readPerson_1 : decode cX4_readPerson 1 = .ok (.iconst 0, 1) := by decide +kernel
theorem dX4_readPerson_2 : decode cX4_readPerson 2 = .ok (.aload_n 1, 1) := by decide +kernel
theorem dX4_readPerson_3 : decode cX4_readPerson 3 = .ok (.invokevirtual 82, 3) := by decide +kernel
theorem dX4_readPerson_6 : decode cX4_readPerson 6 = .ok (.iconst 1, 1) := by decide +kernel
theorem dX4_readPerson_7 : decode cX4_readPerson 7 = .ok (.isub, 1) := by decide +kernel
theorem dX4_readPerson_8 : decode cX4_readPerson 8 = .ok (.iconst (-1), 1) := by decide +kernel
theorem dX4_readPerson_9 : decode cX4_readPerson 9 = .ok (.invokevirtual 49, 3) := by decide +kernel
theorem dX4_readPerson_12 : decode cX4_readPerson 12 = .ok (.ifCond .ne 5, 3) := by decide +kernel
theorem dX4_readPerson_15 : decode cX4_readPerson 15 = .ok (.iconst 0, 1) := by decide +kernel
theorem dX4_readPerson_16 : decode cX4_readPerson 16 = .ok (.ireturn, 1) := by decide +kernel
theorem dX4_readPerson_17 : decode cX4_readPerson 17 = .ok (.aload_n 0, 1) := by decide +kernel
theorem dX4_readPerson_18 : decode cX4_readPerson 18 = .ok (.getfield 53, 3) := by decide +kernel
theorem dX4_readPerson_21 : decode cX4_readPerson 21 = .ok (.istore_n 2, 1) := by decide +kernel
theorem dX4_readPerson_22 : decode cX4_readPerson 22 = .ok (.iconst 1, 1) := by decide +kernel
theorem dX4_readPerson_23 : decode cX4_readPerson 23 = .ok (.aload_n 1, 1) := by decide +kernel
theorem dX4_readPerson_24 : decode cX4_readPerson 24 = .ok (.invokevirtual 93, 3) := by decide +kernel
theorem dX4_readPerson_27 : decode cX4_readPerson 27 = .ok (.ishl, 1) := by decide +kernel
theorem dX4_readPerson_28 : decode cX4_readPerson 28 = .ok (.iconst 1, 1) := by decide +kernel
theorem dX4_readPerson_29 : decode cX4_readPerson 29 = .ok (.isub, 1) := by decide +kernel
theorem dX4_readPerson_30 : decode cX4_readPerson 30 = .ok (.istore_n 3, 1) := by decide +kernel
theorem dX4_readPerson_31 : decode cX4_readPerson 31 = .ok (.aload_n 0, 1) := by decide +kernel
theorem dX4_readPerson_32 : decode cX4_readPerson 32 = .ok (.bipush 44, 2) := by decide +kernel
theorem dX4_readPerson_34 : decode cX4_readPerson 34 = .ok (.invokevirtual 45, 3) := by decide +kernel
theorem dX4_readPerson_37 : decode cX4_readPerson 37 = .ok (.ifCond .eq 13, 3) := by decide +kernel
theorem dX4_readPerson_40 : decode cX4_readPerson 40 = .ok (.aload_n 0, 1) := by decide +kernel
theorem dX4_readPerson_41 : decode cX4_readPerson 41 = .ok (.iconst 0, 1) := by decide +kernel
theorem dX4_readPerson_42 : decode cX4_readPerson 42 = .ok (.iload_n 3, 1) := by decide +kernel
theorem dX4_readPerson_43 : decode cX4_readPerson 43 = .ok (.iconst (-1), 1) := by decide +kernel
theorem dX4_readPerson_44 : decode cX4_readPerson 44 = .ok (.invokevirtual 49, 3) := by decide +kernel
theorem dX4_readPerson_47 : decode cX4_readPerson 47 = .ok (.ifCond .ne 5, 3) := by decide +kernel
theorem dX4_readPerson_50 : decode cX4_readPerson 50 = .ok (.iconst 0, 1) := by decide +kernel
theorem dX4_readPerson_51 : decode cX4_readPerson 51 = .ok (.ireturn, 1) := by decide +kernel
theorem dX4_readPerson_52 : decode cX4_readPerson 52 = .ok (.aload_n 1, 1) := by decide +kernel
theorem dX4_readPerson_53 : decode cX4_readPerson 53 = .ok (.iload_n 2, 1) := by decide +kernel
theorem dX4_readPerson_54 : decode cX4_readPerson 54 = .ok (.aload_n 0, 1) := by decide +kernel
theorem dX4_readPerson_55 : decode cX4_readPerson 55 = .ok (.getfield 53, 3) := by decide +kernel
theorem dX4_readPerson_58 : decode cX4_readPerson 58 = .ok (.invokevirtual 96, 3) := by decide +kernel
theorem dX4_readPerson_61 : decode cX4_readPerson 61 = .ok (.aload_n 0, 1) := by decide +kernel
theorem dX4_readPerson_62 : decode cX4_readPerson 62 = .ok (.bipush 59, 2) := by decide +kernel
theorem dX4_readPerson_64 : decode cX4_readPerson 64 = .ok (.invokevirtual 45, 3) := by decide +kernel
theorem dX4_readPerson_67 : decode cX4_readPerson 67 = .ok (.ireturn, 1) := by decide +kernel
theorem dX4_readEnd_0 : decode cX4_readEnd 0 = .ok (.aload_n 0, 1) := by decide +kernel
theorem dX4_readEnd_1 : decode cX4_readEnd 1 = .ok (.invokevirtual 60, 3) := by decide +kernel
theorem dX4_readEnd_4 : decode cX4_readEnd 4 = .ok (.aload_n 0, 1) := by decide +kernel
theorem dX4_readEnd_5 : decode cX4_readEnd 5 = .ok (.getfield 63, 3) := by decide +kernel
theorem dX4_readEnd_8 : decode cX4_readEnd 8 = .ok (.iconst (-1), 1) := by decide +kernel
theorem dX4_readEnd_9 : decode cX4_readEnd 9 = .ok (.if_icmp .eq 11, 3) := by decide +kernel
theorem dX4_readEnd_12 : decode cX4_readEnd 12 = .ok (.aload_n 0, 1) := by decide +kernel
theorem dX4_readEnd_13 : decode cX4_readEnd 13 = .ok (.iconst 1, 1) := by decide +kernel
theorem dX4_readEnd_14 : decode cX4_readEnd 14 = .ok (.invokevirtual 75, 3) := by decide +kernel
theorem dX4_readEnd_17 : decode cX4_readEnd 17 = .ok (.ifCond .eq 7, 3) := by decide +kernel
theorem dX4_readEnd_20 : decode cX4_readEnd 20 = .ok (.iconst 1, 1) := by decide +kernel
theorem dX4_readEnd_21 : decode cX4_readEnd 21 = .ok (.goto 4, 3) := by decide +kernel
theorem dX4_readEnd_24 : decode cX4_readEnd 24 = .ok (.iconst 0, 1) := by decide +kernel
theorem dX4_readEnd_25 : decode cX4_readEnd 25 = .ok (.ireturn, 1) := by decide +kernel
theorem dX4_take_0 : decode cX4_take 0 = .ok (.aload_n 0, 1) := by decide +kernel
theorem dX4_take_1 : decode cX4_take 1 = .ok (.invokevirtual 60, 3) := by decide +kernel
theorem dX4_take_4 : decode cX4_take 4 = .ok (.aload_n 0, 1) := by decide +kernel
theorem dX4_take_5 : decode cX4_take 5 = .ok (.getfield 63, 3) := by decide +kernel
theorem dX4_take_8 : decode cX4_take 8 = .ok (.iload_n 1, 1) := by decide +kernel
theorem dX4_take_9 : decode cX4_take 9 = .ok (.if_icmp .eq 9, 3) := by decide +kernel
theorem dX4_take_12 : decode cX4_take 12 = .ok (.aload_n 0, 1) := by decide +kernel
theorem dX4_take_13 : decode cX4_take 13 = .ok (.iconst 1, 1) := by decide +kernel
theorem dX4_take_14 : decode cX4_take 14 = .ok (.invokevirtual 75, 3) := by decide +kernel
theorem dX4_take_17 : decode cX4_take 17 = .ok (.ireturn, 1) := by decide +kernel
theorem dX4_take_18 : decode cX4_take 18 = .ok (.aload_n 0, 1) := by decide +kernel
theorem dX4_take_19 : decode cX4_take 19 = .ok (.aload_n 0, 1) := by decide +kernel
theorem dX4_take_20 : decode cX4_take 20 = .ok (.getfield 99, 3) := by decide +kernel
theorem dX4_take_23 : decode cX4_take 23 = .ok (.putfield 24, 3) := by decide +kernel
theorem dX4_take_26 : decode cX4_take 26 = .ok (.iconst 1, 1) := by decide +kernel
theorem dX4_take_27 : decode cX4_take 27 = .ok (.ireturn, 1) := by decide +kernel
theorem dX4_takeNumber_0 : decode cX4_takeNumber 0 = .ok (.aload_n 0, 1) := by decide +kernel
theorem dX4_takeNumber_1 : decode cX4_takeNumber 1 = .ok (.invokevirtual 60, 3) := by decide +kernel
theorem dX4_takeNumber_4 : decode cX4_takeNumber 4 = .ok (.aload_n 0, 1) := by decide +kernel
theorem dX4_takeNumber_5 : decode cX4_takeNumber 5 = .ok (.getfield 63, 3) := by decide +kernel
theorem dX4_takeNumber_8 : decode cX4_takeNumber 8 = .ok (.bipush (-3), 2) := by decide +kernel
theorem dX4_takeNumber_10 : decode cX4_takeNumber 10 = .ok (.if_icmp .eq 9, 3) := by decide +kernel
theorem dX4_takeNumber_13 : decode cX4_takeNumber 13 = .ok (.aload_n 0, 1) := by decide +kernel
theorem dX4_takeNumber_14 : decode cX4_takeNumber 14 = .ok (.iconst 1, 1) := by decide +kernel
theorem dX4_takeNumber_15 : decode cX4_takeNumber 15 = .ok (.invokevirtual 75, 3) := by decide +kernel
theorem dX4_takeNumber_18 : decode cX4_takeNumber 18 = .ok (.ireturn, 1) := by decide +kernel
theorem dX4_takeNumber_19 : decode cX4_takeNumber 19 = .ok (.aload_n 0, 1) := by decide +kernel
theorem dX4_takeNumber_20 : decode cX4_takeNumber 20 = .ok (.getfield 53, 3) := by decide +kernel
theorem dX4_takeNumber_23 : decode cX4_takeNumber 23 = .ok (.iload_n 1, 1) := by decide +kernel
theorem dX4_takeNumber_24 : decode cX4_takeNumber 24 = .ok (.if_icmp .lt 19, 3) := by decide +kernel
theorem dX4_takeNumber_27 : decode cX4_takeNumber 27 = .ok (.aload_n 0, 1) := by decide +kernel
theorem dX4_takeNumber_28 : decode cX4_takeNumber 28 = .ok (.getfield 53, 3) := by decide +kernel
theorem dX4_takeNumber_31 : decode cX4_takeNumber 31 = .ok (.iload_n 2, 1) := by decide +kernel
theorem dX4_takeNumber_32 : decode cX4_takeNumber 32 = .ok (.if_icmp .gt 11, 3) := by decide +kernel
theorem dX4_takeNumber_35 : decode cX4_takeNumber 35 = .ok (.aload_n 0, 1) := by decide +kernel
theorem dX4_takeNumber_36 : decode cX4_takeNumber 36 = .ok (.getfield 53, 3) := by decide +kernel
theorem dX4_takeNumber_39 : decode cX4_takeNumber 39 = .ok (.iload_n 3, 1) := by decide +kernel
theorem dX4_takeNumber_40 : decode cX4_takeNumber 40 = .ok (.if_icmp .ne 9, 3) := by decide +kernel
theorem dX4_takeNumber_43 : decode cX4_takeNumber 43 = .ok (.aload_n 0, 1) := by decide +kernel
theorem dX4_takeNumber_44 : decode cX4_takeNumber 44 = .ok (.iconst 2, 1) := by decide +kernel
theorem dX4_takeNumber_45 : decode cX4_takeNumber 45 = .ok (.invokevirtual 75, 3) := by decide +kernel
theorem dX4_takeNumber_48 : decode cX4_takeNumber 48 = .ok (.ireturn, 1) := by decide +kernel
theorem dX4_takeNumber_49 : decode cX4_takeNumber 49 = .ok (.aload_n 0, 1) := by decide +kernel
theorem dX4_takeNumber_50 : decode cX4_takeNumber 50 = .ok (.aload_n 0, 1) := by decide +kernel
theorem dX4_takeNumber_51 : decode cX4_takeNumber 51 = .ok (.getfield 99, 3) := by decide +kernel
theorem dX4_takeNumber_54 : decode cX4_takeNumber 54 = .ok (.putfield 24, 3) := by decide +kernel
theorem dX4_takeNumber_57 : decode cX4_takeNumber 57 = .ok (.iconst 1, 1) := by decide +kernel
theorem dX4_takeNumber_58 : decode cX4_takeNumber 58 = .ok (.ireturn, 1) := by decide +kernel
theorem dX4_refuse_0 : decode cX4_refuse 0 = .ok (.aload_n 0, 1) := by decide +kernel
theorem dX4_refuse_1 : decode cX4_refuse 1 = .ok (.iload_n 1, 1) := by decide +kernel
theorem dX4_refuse_2 : decode cX4_refuse 2 = .ok (.putfield 21, 3) := by decide +kernel
theorem dX4_refuse_5 : decode cX4_refuse 5 = .ok (.iconst 0, 1) := by decide +kernel
theorem dX4_refuse_6 : decode cX4_refuse 6 = .ok (.ireturn, 1) := by decide +kernel
theorem dX4_look_0 : decode cX4_look 0 = .ok (.aload_n 0, 1) := by decide +kernel
theorem dX4_look_1 : decode cX4_look 1 = .ok (.aload_n 0, 1) := by decide +kernel
theorem dX4_look_2 : decode cX4_look 2 = .ok (.getfield 24, 3) := by decide +kernel
theorem dX4_look_5 : decode cX4_look 5 = .ok (.putfield 99, 3) := by decide +kernel
theorem dX4_look_8 : decode cX4_look 8 = .ok (.aload_n 0, 1) := by decide +kernel
theorem dX4_look_9 : decode cX4_look 9 = .ok (.iconst 0, 1) := by decide +kernel
theorem dX4_look_10 : decode cX4_look 10 = .ok (.putfield 53, 3) := by decide +kernel
theorem dX4_look_13 : decode cX4_look 13 = .ok (.aload_n 0, 1) := by decide +kernel
theorem dX4_look_14 : decode cX4_look 14 = .ok (.getfield 99, 3) := by decide +kernel
theorem dX4_look_17 : decode cX4_look 17 = .ok (.aload_n 0, 1) := by decide +kernel
theorem dX4_look_18 : decode cX4_look 18 = .ok (.getfield 13, 3) := by decide +kernel
theorem dX4_look_21 : decode cX4_look 21 = .ok (.if_icmp .ge 61, 3) := by decide +kernel
theorem dX4_look_24 : decode cX4_look 24 = .ok (.aload_n 0, 1) := by decide +kernel
theorem dX4_look_25 : decode cX4_look 25 = .ok (.getfield 9, 3) := by decide +kernel
theorem dX4_look_28 : decode cX4_look 28 = .ok (.aload_n 0, 1) := by decide +kernel
theorem dX4_look_29 : decode cX4_look 29 = .ok (.getfield 99, 3) := by decide +kernel
theorem dX4_look_32 : decode cX4_look 32 = .ok (.iaload, 1) := by decide +kernel
theorem dX4_look_33 : decode cX4_look 33 = .ok (.invokestatic 102, 3) := by decide +kernel
theorem dX4_look_36 : decode cX4_look 36 = .ok (.ifCond .eq 46, 3) := by decide +kernel
theorem dX4_look_39 : decode cX4_look 39 = .ok (.aload_n 0, 1) := by decide +kernel
theorem dX4_look_40 : decode cX4_look 40 = .ok (.aload_n 0, 1) := by decide +kernel
theorem dX4_look_41 : decode cX4_look 41 = .ok (.getfield 53, 3) := by decide +kernel
theorem dX4_look_44 : decode cX4_look 44 = .ok (.bipush 10, 2) := by decide +kernel
theorem dX4_look_46 : decode cX4_look 46 = .ok (.imul, 1) := by decide +kernel
theorem dX4_look_47 : decode cX4_look 47 = .ok (.aload_n 0, 1) := by decide +kernel
theorem dX4_look_48 : decode cX4_look 48 = .ok (.getfield 9, 3) := by decide +kernel
theorem dX4_look_51 : decode cX4_look 51 = .ok (.aload_n 0, 1) := by decide +kernel
theorem dX4_look_52 : decode cX4_look 52 = .ok (.getfield 99, 3) := by decide +kernel
theorem dX4_look_55 : decode cX4_look 55 = .ok (.iaload, 1) := by decide +kernel
theorem dX4_look_56 : decode cX4_look 56 = .ok (.iadd, 1) := by decide +kernel
theorem dX4_look_57 : decode cX4_look 57 = .ok (.bipush 48, 2) := by decide +kernel
theorem dX4_look_59 : decode cX4_look 59 = .ok (.isub, 1) := by decide +kernel
theorem dX4_look_60 : decode cX4_look 60 = .ok (.sipush 1000, 3) := by decide +kernel
theorem dX4_look_63 : decode cX4_look 63 = .ok (.invokestatic 105, 3) := by decide +kernel
theorem dX4_look_66 : decode cX4_look 66 = .ok (.putfield 53, 3) := by decide +kernel
theorem dX4_look_69 : decode cX4_look 69 = .ok (.aload_n 0, 1) := by decide +kernel
theorem dX4_look_70 : decode cX4_look 70 = .ok (.dup, 1) := by decide +kernel
theorem dX4_look_71 : decode cX4_look 71 = .ok (.getfield 99, 3) := by decide +kernel
theorem dX4_look_74 : decode cX4_look 74 = .ok (.iconst 1, 1) := by decide +kernel
theorem dX4_look_75 : decode cX4_look 75 = .ok (.iadd, 1) := by decide +kernel
theorem dX4_look_76 : decode cX4_look 76 = .ok (.putfield 99, 3) := by decide +kernel
theorem dX4_look_79 : decode cX4_look 79 = .ok (.goto (-66), 3) := by decide +kernel
theorem dX4_look_82 : decode cX4_look 82 = .ok (.aload_n 0, 1) := by decide +kernel
theorem dX4_look_83 : decode cX4_look 83 = .ok (.getfield 99, 3) := by decide +kernel
theorem dX4_look_86 : decode cX4_look 86 = .ok (.aload_n 0, 1) := by decide +kernel
theorem dX4_look_87 : decode cX4_look 87 = .ok (.getfield 24, 3) := by decide +kernel
theorem dX4_look_90 : decode cX4_look 90 = .ok (.isub, 1) := by decide +kernel
theorem dX4_look_91 : decode cX4_look 91 = .ok (.istore_n 1, 1) := by decide +kernel
theorem dX4_look_92 : decode cX4_look 92 = .ok (.iload_n 1, 1) := by decide +kernel
theorem dX4_look_93 : decode cX4_look 93 = .ok (.ifCond .le 22, 3) := by decide +kernel
theorem dX4_look_96 : decode cX4_look 96 = .ok (.aload_n 0, 1) := by decide +kernel
theorem dX4_look_97 : decode cX4_look 97 = .ok (.iload_n 1, 1) := by decide +kernel
theorem dX4_look_98 : decode cX4_look 98 = .ok (.iconst 3, 1) := by decide +kernel
theorem dX4_look_99 : decode cX4_look 99 = .ok (.if_icmp .gt 8, 3) := by decide +kernel
theorem dX4_look_102 : decode cX4_look 102 = .ok (.bipush (-3), 2) := by decide +kernel
theorem dX4_look_104 : decode cX4_look 104 = .ok (.goto 5, 3) := by decide +kernel
theorem dX4_look_107 : decode cX4_look 107 = .ok (.bipush (-2), 2) := by decide +kernel
theorem dX4_look_109 : decode cX4_look 109 = .ok (.putfield 63, 3) := by decide +kernel
theorem dX4_look_112 : decode cX4_look 112 = .ok (.goto 65, 3) := by decide +kernel
theorem dX4_look_115 : decode cX4_look 115 = .ok (.aload_n 0, 1) := by decide +kernel
theorem dX4_look_116 : decode cX4_look 116 = .ok (.getfield 24, 3) := by decide +kernel
theorem dX4_look_119 : decode cX4_look 119 = .ok (.aload_n 0, 1) := by decide +kernel
theorem dX4_look_120 : decode cX4_look 120 = .ok (.getfield 13, 3) := by decide +kernel
theorem dX4_look_123 : decode cX4_look 123 = .ok (.if_icmp .lt 11, 3) := by decide +kernel
theorem dX4_look_126 : decode cX4_look 126 = .ok (.aload_n 0, 1) := by decide +kernel
theorem dX4_look_127 : decode cX4_look 127 = .ok (.iconst (-1), 1) := by decide +kernel
theorem dX4_look_128 : decode cX4_look 128 = .ok (.putfield 63, 3) := by decide +kernel
theorem dX4_look_131 : decode cX4_look 131 = .ok (.goto 46, 3) := by decide +kernel
theorem dX4_look_134 : decode cX4_look 134 = .ok (.aload_n 0, 1) := by decide +kernel
theorem dX4_look_135 : decode cX4_look 135 = .ok (.aload_n 0, 1) := by decide +kernel
theorem dX4_look_136 : decode cX4_look 136 = .ok (.getfield 9, 3) := by decide +kernel
theorem dX4_look_139 : decode cX4_look 139 = .ok (.aload_n 0, 1) := by decide +kernel
theorem dX4_look_140 : decode cX4_look 140 = .ok (.getfield 24, 3) := by decide +kernel
theorem dX4_look_143 : decode cX4_look 143 = .ok (.iaload, 1) := by decide +kernel
theorem dX4_look_144 : decode cX4_look 144 = .ok (.invokestatic 111, 3) := by decide +kernel
theorem dX4_look_147 : decode cX4_look 147 = .ok (.ifCond .eq 15, 3) := by decide +kernel
theorem dX4_look_150 : decode cX4_look 150 = .ok (.aload_n 0, 1) := by decide +kernel
theorem dX4_look_151 : decode cX4_look 151 = .ok (.getfield 9, 3) := by decide +kernel
theorem dX4_look_154 : decode cX4_look 154 = .ok (.aload_n 0, 1) := by decide +kernel
theorem dX4_look_155 : decode cX4_look 155 = .ok (.getfield 24, 3) := by decide +kernel
theorem dX4_look_158 : decode cX4_look 158 = .ok (.iaload, 1) := by decide +kernel
theorem dX4_look_159 : decode cX4_look 159 = .ok (.goto 5, 3) := by decide +kernel
theorem dX4_look_162 : decode cX4_look 162 = .ok (.bipush (-2), 2) := by decide +kernel
theorem dX4_look_164 : decode cX4_look 164 = .ok (.putfield 63, 3) := by decide +kernel
theorem dX4_look_167 : decode cX4_look 167 = .ok (.aload_n 0, 1) := by decide +kernel
theorem dX4_look_168 : decode cX4_look 168 = .ok (.aload_n 0, 1) := by decide +kernel
theorem dX4_look_169 : decode cX4_look 169 = .ok (.getfield 24, 3) := by decide +kernel
theorem dX4_look_172 : decode cX4_look 172 = .ok (.iconst 1, 1) := by decide +kernel
theorem dX4_look_173 : decode cX4_look 173 = .ok (.iadd, 1) := by decide +kernel
theorem dX4_look_174 : decode cX4_look 174 = .ok (.putfield 99, 3) := by decide +kernel
theorem dX4_look_177 : decode cX4_look 177 = .ok (.return_, 1) := by decide +kernel
theorem dX4_isFigure_0 : decode cX4_isFigure 0 = .ok (.iload_n 0, 1) := by decide +kernel
theorem dX4_isFigure_1 : decode cX4_isFigure 1 = .ok (.bipush 48, 2) := by decide +kernel
theorem dX4_isFigure_3 : decode cX4_isFigure 3 = .ok (.if_icmp .lt 13, 3) := by decide +kernel
theorem dX4_isFigure_6 : decode cX4_isFigure 6 = .ok (.iload_n 0, 1) := by decide +kernel
theorem dX4_isFigure_7 : decode cX4_isFigure 7 = .ok (.bipush 57, 2) := by decide +kernel
theorem dX4_isFigure_9 : decode cX4_isFigure 9 = .ok (.if_icmp .gt 7, 3) := by decide +kernel
theorem dX4_isFigure_12 : decode cX4_isFigure 12 = .ok (.iconst 1, 1) := by decide +kernel
theorem dX4_isFigure_13 : decode cX4_isFigure 13 = .ok (.goto 4, 3) := by decide +kernel
theorem dX4_isFigure_16 : decode cX4_isFigure 16 = .ok (.iconst 0, 1) := by decide +kernel
theorem dX4_isFigure_17 : decode cX4_isFigure 17 = .ok (.ireturn, 1) := by decide +kernel
theorem dX4_isLetterOrSign_0 : decode cX4_isLetterOrSign 0 = .ok (.iload_n 0, 1) := by decide +kernel
theorem dX4_isLetterOrSign_1 : decode cX4_isLetterOrSign 1 = .ok (.bipush 97, 2) := by decide +kernel
theorem dX4_isLetterOrSign_3 : decode cX4_isLetterOrSign 3 = .ok (.if_icmp .lt 9, 3) := by decide +kernel
theorem dX4_isLetterOrSign_6 : decode cX4_isLetterOrSign 6 = .ok (.iload_n 0, 1) := by decide +kernel
theorem dX4_isLetterOrSign_7 : decode cX4_isLetterOrSign 7 = .ok (.bipush 122, 2) := by decide +kernel
theorem dX4_isLetterOrSign_9 : decode cX4_isLetterOrSign 9 = .ok (.if_icmp .le 15, 3) := by decide +kernel
theorem dX4_isLetterOrSign_12 : decode cX4_isLetterOrSign 12 = .ok (.iload_n 0, 1) := by decide +kernel
theorem dX4_isLetterOrSign_13 : decode cX4_isLetterOrSign 13 = .ok (.bipush 44, 2) := by decide +kernel
theorem dX4_isLetterOrSign_15 : decode cX4_isLetterOrSign 15 = .ok (.if_icmp .eq 9, 3) := by decide +kernel
theorem dX4_isLetterOrSign_18 : decode cX4_isLetterOrSign 18 = .ok (.iload_n 0, 1) := by decide +kernel
theorem dX4_isLetterOrSign_19 : decode cX4_isLetterOrSign 19 = .ok (.bipush 59, 2) := by decide +kernel
theorem dX4_isLetterOrSign_21 : decode cX4_isLetterOrSign 21 = .ok (.if_icmp .ne 7, 3) := by decide +kernel
theorem dX4_isLetterOrSign_24 : decode cX4_isLetterOrSign 24 = .ok (.iconst 1, 1) := by decide +kernel
theorem dX4_isLetterOrSign_25 : decode cX4_isLetterOrSign 25 = .ok (.goto 4, 3) := by decide +kernel
theorem dX4_isLetterOrSign_28 : decode cX4_isLetterOrSign 28 = .ok (.iconst 0, 1) := by decide +kernel
theorem dX4_isLetterOrSign_29 : decode cX4_isLetterOrSign 29 = .ok (.ireturn, 1) := by decide +kernel
theorem dX5_init_0 : decode cX5_init 0 = .ok (.aload_n 0, 1) := by decide +kernel
theorem dX5_init_1 : decode cX5_init 1 = .ok (.invokespecial 5, 3) := by decide +kernel
theorem dX5_init_4 : decode cX5_init 4 = .ok (.aload_n 0, 1) := by decide +kernel
theorem dX5_init_5 : decode cX5_init 5 = .ok (.aload_n 1, 1) := by decide +kernel
theorem dX5_init_6 : decode cX5_init 6 = .ok (.putfield 11, 3) := by decide +kernel
theorem dX5_init_9 : decode cX5_init 9 = .ok (.aload_n 0, 1) := by decide +kernel
theorem dX5_init_10 : decode cX5_init 10 = .ok (.bipush 9, 2) := by decide +kernel
theorem dX5_init_12 : decode cX5_init 12 = .ok (.newarray .int, 2) := by decide +kernel
theorem dX5_init_14 : decode cX5_init 14 = .ok (.putfield 17, 3) := by decide +kernel
theorem dX5_init_17 : decode cX5_init 17 = .ok (.aload_n 0, 1) := by decide +kernel
theorem dX5_init_18 : decode cX5_init 18 = .ok (.bipush 9, 2) := by decide +kernel
theorem dX5_init_20 : decode cX5_init 20 = .ok (.newarray .int, 2) := by decide +kernel
theorem dX5_init_22 : decode cX5_init 22 = .ok (.putfield 21, 3) := by decide +kernel
theorem dX5_init_25 : decode cX5_init 25 = .ok (.aload_n 0, 1) := by decide +kernel
theorem dX5_init_26 : decode cX5_init 26 = .ok (.bipush 8, 2) := by decide +kernel
theorem dX5_init_28 : decode cX5_init 28 = .ok (.newarray .int, 2) := by decide +kernel
theorem dX5_init_30 : decode cX5_init 30 = .ok (.putfield 24, 3) := by decide +kernel
theorem dX5_init_33 : decode cX5_init 33 = .ok (.aload_n 0, 1) := by decide +kernel
theorem dX5_init_34 : decode cX5_init 34 = .ok (.bipush 8, 2) := by decide +kernel
theorem dX5_init_36 : decode cX5_init 36 = .ok (.newarray .int, 2) := by decide +kernel
theorem dX5_init_38 : decode cX5_init 38 = .ok (.putfield 27, 3) := by decide +kernel
theorem dX5_init_41 : decode cX5_init 41 = .ok (.aload_n 0, 1) := by decide +kernel
theorem dX5_init_42 : decode cX5_init 42 = .ok (.bipush 64, 2) := by decide +kernel
theorem dX5_init_44 : decode cX5_init 44 = .ok (.newarray .int, 2) := by decide +kernel
theorem dX5_init_46 : decode cX5_init 46 = .ok (.putfield 30, 3) := by decide +kernel
theorem dX5_init_49 : decode cX5_init 49 = .ok (.aload_n 0, 1) := by decide +kernel
theorem dX5_init_50 : decode cX5_init 50 = .ok (.bipush 9, 2) := by decide +kernel
theorem dX5_init_52 : decode cX5_init 52 = .ok (.newarray .int, 2) := by decide +kernel
theorem dX5_init_54 : decode cX5_init 54 = .ok (.putfield 33, 3) := by decide +kernel
theorem dX5_init_57 : decode cX5_init 57 = .ok (.aload_n 0, 1) := by decide +kernel
theorem dX5_init_58 : decode cX5_init 58 = .ok (.sipush 4096, 3) := by decide +kernel
theorem dX5_init_61 : decode cX5_init 61 = .ok (.newarray .int, 2) := by decide +kernel
theorem dX5_init_63 : decode cX5_init 63 = .ok (.putfield 36, 3) := by decide +kernel
theorem dX5_init_66 : decode cX5_init 66 = .ok (.return_, 1) := by decide +kernel
theorem dX5_reachOf_0 : decode cX5_reachOf 0 = .ok (.aload_n 0, 1) := by decide +kernel
theorem dX5_reachOf_1 : decode cX5_reachOf 1 = .ok (.invokevirtual 39, 3) := by decide +kernel
theorem dX5_reachOf_4 : decode cX5_reachOf 4 = .ok (.aload_n 0, 1) := by decide +kernel
theorem dX5_reachOf_5 : decode cX5_reachOf 5 = .ok (.aload_n 0, 1) := by decide +kernel
theorem dX5_reachOf_6 : decode cX5_reachOf 6 = .ok (.getfield 11, 3) := by decide +kernel
theorem dX5_reachOf_9 : decode cX5_reachOf 9 = .ok (.iload_n 1, 1) := by decide +kernel
theorem dX5_reachOf_10 : decode cX5_reachOf 10 = .ok (.invokevirtual 42, 3) := by decide +kernel
theorem dX5_reachOf_13 : decode cX5_reachOf 13 = .ok (.aload_n 0, 1) := by decide +kernel
theorem dX5_reachOf_14 : decode cX5_reachOf 14 = .ok (.getfield 11, 3) := by decide +kernel
theorem dX5_reachOf_17 : decode cX5_reachOf 17 = .ok (.iload_n 1, 1) := by decide +kernel
theorem dX5_reachOf_18 : decode cX5_reachOf 18 = .ok (.invokevirtual 46, 3) := by decide +kernel
theorem dX5_reachOf_21 : decode cX5_reachOf 21 = .ok (.invokevirtual 49, 3) := by decide +kernel
theorem dX5_reachOf_24 : decode cX5_reachOf 24 = .ok (.ireturn, 1) := by decide +kernel
theorem dX5_wayTo_0 : decode cX5_wayTo 0 = .ok (.aload_n 0, 1) := by decide +kernel
theorem dX5_wayTo_1 : decode cX5_wayTo 1 = .ok (.iload_n 1, 1) := by decide +kernel
theorem dX5_wayTo_2 : decode cX5_wayTo 2 = .ok (.aload_n 0, 1) := by decide +kernel
theorem dX5_wayTo_3 : decode cX5_wayTo 3 = .ok (.getfield 24, 3) := by decide +kernel
theorem dX5_wayTo_6 : decode cX5_wayTo 6 = .ok (.invokevirtual 53, 3) := by decide +kernel
theorem dX5_wayTo_9 : decode cX5_wayTo 9 = .ok (.aload_n 0, 1) := by decide +kernel
theorem dX5_wayTo_10 : decode cX5_wayTo 10 = .ok (.getfield 24, 3) := by decide +kernel
theorem dX5_wayTo_13 : decode cX5_wayTo 13 = .ok (.iload_n 2, 1) := by decide +kernel
theorem dX5_wayTo_14 : decode cX5_wayTo 14 = .ok (.iaload, 1) := by decide +kernel
theorem dX5_wayTo_15 : decode cX5_wayTo 15 = .ok (.invokestatic 57, 3) := by decide +kernel
theorem dX5_wayTo_18 : decode cX5_wayTo 18 = .ok (.ireturn, 1) := by decide +kernel
theorem dX5_ledTo_0 : decode cX5_ledTo 0 = .ok (.aload_n 0, 1) := by decide +kernel
theorem dX5_ledTo_1 : decode cX5_ledTo 1 = .ok (.aload_n 0, 1) := by decide +kernel
theorem dX5_ledTo_2 : decode cX5_ledTo 2 = .ok (.getfield 11, 3) := by decide +kernel
theorem dX5_ledTo_5 : decode cX5_ledTo 5 = .ok (.iload_n 1, 1) := by decide +kernel
theorem dX5_ledTo_6 : decode cX5_ledTo 6 = .ok (.invokevirtual 46, 3) := by decide +kernel
theorem dX5_ledTo_9 : decode cX5_ledTo 9 = .ok (.aload_n 0, 1) := by decide +kernel
theorem dX5_ledTo_10 : decode cX5_ledTo 10 = .ok (.getfield 11, 3) := by decide +kernel
theorem dX5_ledTo_13 : decode cX5_ledTo 13 = .ok (.iload_n 2, 1) := by decide +kernel
theorem dX5_ledTo_14 : decode cX5_ledTo 14 = .ok (.invokevirtual 46, 3) := by decide +kernel
theorem dX5_ledTo_17 : decode cX5_ledTo 17 = .ok (.ior, 1) := by decide +kernel
theorem dX5_ledTo_18 : decode cX5_ledTo 18 = .ok (.invokevirtual 60, 3) := by decide +kernel
theorem dX5_ledTo_21 : decode cX5_ledTo 21 = .ok (.aload_n 0, 1) := by decide +kernel
theorem dX5_ledTo_22 : decode cX5_ledTo 22 = .ok (.aload_n 0, 1) := by decide +kernel
theorem dX5_ledTo_23 : decode cX5_ledTo 23 = .ok (.getfield 11, 3) := by decide +kernel
theorem dX5_ledTo_26 : decode cX5_ledTo 26 = .ok (.iload_n 1, 1) := by decide +kernel
theorem dX5_ledTo_27 : decode cX5_ledTo 27 = .ok (.invokevirtual 42, 3) := by decide +kernel
theorem dX5_ledTo_30 : decode cX5_ledTo 30 = .ok (.aload_n 0, 1) := by decide +kernel
theorem dX5_ledTo_31 : decode cX5_ledTo 31 = .ok (.getfield 24, 3) := by decide +kernel
theorem dX5_ledTo_34 : decode cX5_ledTo 34 = .ok (.invokevirtual 64, 3) := by decide +kernel
theorem dX5_ledTo_37 : decode cX5_ledTo 37 = .ok (.aload_n 0, 1) := by decide +kernel
theorem dX5_ledTo_38 : decode cX5_ledTo 38 = .ok (.getfield 24, 3) := by decide +kernel
theorem dX5_ledTo_41 : decode cX5_ledTo 41 = .ok (.iload_n 3, 1) := by decide +kernel
theorem dX5_ledTo_42 : decode cX5_ledTo 42 = .ok (.iaload, 1) := by decide +kernel
theorem dX5_ledTo_43 : decode cX5_ledTo 43 = .ok (.invokestatic 57, 3) := by decide +kernel
theorem dX5_ledTo_46 : decode cX5_ledTo 46 = .ok (.ireturn, 1) := by decide +kernel
theorem dX5_introducedTo_0 : decode cX5_introducedTo 0 = .ok (.aload_n 0, 1) := by decide +kernel
theorem dX5_introducedTo_1 : decode cX5_introducedTo 1 = .ok (.aload_n 0, 1) := by decide +kernel
theorem dX5_introducedTo_2 : decode cX5_introducedTo 2 = .ok (.getfield 11, 3) := by decide +kernel
theorem dX5_introducedTo_5 : decode cX5_introducedTo 5 = .ok (.iload_n 1, 1) := by decide +kernel
theorem dX5_introducedTo_6 : decode cX5_introducedTo 6 = .ok (.invokevirtual 46, 3) := by decide +kernel
theorem dX5_introducedTo_9 : decode cX5_introducedTo 9 = .ok (.invokevirtual 67, 3) := by decide +kernel
theorem dX5_introducedTo_12 : decode cX5_introducedTo 12 = .ok (.aload_n 0, 1) := by decide +kernel
theorem dX5_introducedTo_13 : decode cX5_introducedTo 13 = .ok (.aload_n 0, 1) := by decide +kernel
theorem dX5_introducedTo_14 : decode cX5_introducedTo 14 = .ok (.getfield 11, 3) := by decide +kernel
theorem dX5_introducedTo_17 : decode cX5_introducedTo 17 = .ok (.iload_n 1, 1) := by decide +kernel
theorem dX5_introducedTo_18 : decode cX5_introducedTo 18 = .ok (.invokevirtual 42, 3) := by decide +kernel
theorem dX5_introducedTo_21 : decode cX5_introducedTo 21 = .ok (.aload_n 0, 1) := by decide +kernel
theorem dX5_introducedTo_22 : decode cX5_introducedTo 22 = .ok (.getfield 24, 3) := by decide +kernel
theorem dX5_introducedTo_25 : decode cX5_introducedTo 25 = .ok (.invokevirtual 64, 3) := by decide +kernel
theorem dX5_introducedTo_28 : decode cX5_introducedTo 28 = .ok (.aload_n 0, 1) := by decide +kernel
theorem dX5_introducedTo_29 : decode cX5_introducedTo 29 = .ok (.getfield 24, 3) := by decide +kernel
theorem dX5_introducedTo_32 : decode cX5_introducedTo 32 = .ok (.iload_n 2, 1) := by decide +kernel
theorem dX5_introducedTo_33 : decode cX5_introducedTo 33 = .ok (.iaload, 1) := by decide +kernel
theorem dX5_introducedTo_34 : decode cX5_introducedTo 34 = .ok (.ldc 70, 2) := by decide +kernel
theorem dX5_introducedTo_36 : decode cX5_introducedTo 36 = .ok (.if_icmp .lt 6, 3) := by decide +kernel
theorem dX5_introducedTo_39 : decode cX5_introducedTo 39 = .ok (.ldc 71, 2) := by decide +kernel
theorem dX5_introducedTo_41 : decode cX5_introducedTo 41 = .ok (.ireturn, 1) := by decide +kernel
theorem dX5_introducedTo_42 : decode cX5_introducedTo 42 = .ok (.iload_n 3, 1) := by decide +kernel
theorem dX5_introducedTo_43 : decode cX5_introducedTo 43 = .ok (.ifCond .ne 16, 3) := by decide +kernel
theorem dX5_introducedTo_46 : decode cX5_introducedTo 46 = .ok (.aload_n 0, 1) := by decide +kernel
theorem dX5_introducedTo_47 : decode cX5_introducedTo 47 = .ok (.getfield 24, 3) := by decide +kernel
theorem dX5_introducedTo_50 : decode cX5_introducedTo 50 = .ok (.iload_n 2, 1) := by decide +kernel
theorem dX5_introducedTo_51 : decode cX5_introducedTo 51 = .ok (.iaload, 1) := by decide +kernel
theorem dX5_introducedTo_52 : decode cX5_introducedTo 52 = .ok (.sipush 1000, 3) := by decide +kernel
theorem dX5_introducedTo_55 : decode cX5_introducedTo 55 = .ok (.idiv, 1) := by decide +kernel
theorem dX5_introducedTo_56 : decode cX5_introducedTo 56 = .ok (.goto 13, 3) := by decide +kernel
theorem dX5_introducedTo_59 : decode cX5_introducedTo 59 = .ok (.aload_n 0, 1) := by decide +kernel
theorem dX5_introducedTo_60 : decode cX5_introducedTo 60 = .ok (.getfield 24, 3) := by decide +kernel
theorem dX5_introducedTo_63 : decode cX5_introducedTo 63 = .ok (.iload_n 2, 1) := by decide +kernel
theorem dX5_introducedTo_64 : decode cX5_introducedTo 64 = .ok (.iaload, 1) := by decide +kernel
theorem dX5_introducedTo_65 : decode cX5_introducedTo 65 = .ok (.sipush 1000, 3) := by decide +kernel
theorem dX5_introducedTo_68 : decode cX5_introducedTo 68 = .ok (.irem, 1) := by decide +kernel
theorem dX5_introducedTo_69 : decode cX5_introducedTo 69 = .ok (.ireturn, 1) := by decide +kernel
theorem dX5_daysUntilForgotten_0 : decode cX5_daysUntilForgotten 0 = .ok (.ldc 70, 2) := by decide +kernel
theorem dX5_daysUntilForgotten_2 : decode cX5_daysUntilForgotten 2 = .ok (.istore_n 1, 1) := by decide +kernel
theorem dX5_daysUntilForgotten_3 : decode cX5_daysUntilForgotten 3 = .ok (.iconst 0, 1) := by decide +kernel
theorem dX5_daysUntilForgotten_4 : decode cX5_daysUntilForgotten 4 = .ok (.istore_n 2, 1) := by decide +kernel
theorem dX5_daysUntilForgotten_5 : decode cX5_daysUntilForgotten 5 = .ok (.iload_n 2, 1) := by decide +kernel
theorem dX5_daysUntilForgotten_6 : decode cX5_daysUntilForgotten 6 = .ok (.aload_n 0, 1) := by decide +kernel
theorem dX5_daysUntilForgotten_7 : decode cX5_daysUntilForgotten 7 = .ok (.getfield 11, 3) := by decide +kernel
theorem dX5_daysUntilForgotten_10 : decode cX5_daysUntilForgotten 10 = .ok (.invokevirtual 72, 3) := by decide +kernel
theorem dX5_daysUntilForgotten_13 : decode cX5_daysUntilForgotten 13 = .ok (.if_icmp .ge 30, 3) := by decide +kernel
theorem dX5_daysUntilForgotten_16 : decode cX5_daysUntilForgotten 16 = .ok (.aload_n 0, 1) := by decide +kernel
theorem dX5_daysUntilForgotten_17 : decode cX5_daysUntilForgotten 17 = .ok (.getfield 11, 3) := by decide +kernel
theorem dX5_daysUntilForgotten_20 : decode cX5_daysUntilForgotten 20 = .ok (.iload_n 2, 1) := by decide +kernel
theorem dX5_daysUntilForgotten_21 : decode cX5_daysUntilForgotten 21 = .ok (.invokevirtual 76, 3) := by decide +kernel
theorem dX5_daysUntilForgotten_24 : decode cX5_daysUntilForgotten 24 = .ok (.ifCond .eq 13, 3) := by decide +kernel
theorem dX5_daysUntilForgotten_27 : decode cX5_daysUntilForgotten 27 = .ok (.iload_n 1, 1) := by decide +kernel
theorem dX5_daysUntilForgotten_28 : decode cX5_daysUntilForgotten 28 = .ok (.aload_n 0, 1) := by decide +kernel
theorem dX5_daysUntilForgotten_29 : decode cX5_daysUntilForgotten 29 = .ok (.iload_n 2, 1) := by decide +kernel
theorem dX5_daysUntilForgotten_30 : decode cX5_daysUntilForgotten 30 = .ok (.invokevirtual 80, 3) := by decide +kernel
theorem dX5_daysUntilForgotten_33 : decode cX5_daysUntilForgotten 33 = .ok (.invokestatic 83, 3) := by decide +kernel
theorem dX5_daysUntilForgotten_36 : decode cX5_daysUntilForgotten 36 = .ok (.istore_n 1, 1) := by decide +kernel
theorem dX5_daysUntilForgotten_37 : decode cX5_daysUntilForgotten 37 = .ok (.iinc 2 1, 3) := by decide +kernel
theorem dX5_daysUntilForgotten_40 : decode cX5_daysUntilForgotten 40 = .ok (.goto (-35), 3) := by decide +kernel
theorem dX5_daysUntilForgotten_43 : decode cX5_daysUntilForgotten 43 = .ok (.iload_n 1, 1) := by decide +kernel
theorem dX5_daysUntilForgotten_44 : decode cX5_daysUntilForgotten 44 = .ok (.invokestatic 57, 3) := by decide +kernel
theorem dX5_daysUntilForgotten_47 : decode cX5_daysUntilForgotten 47 = .ok (.ireturn, 1) := by decide +kernel
theorem dX5_roadsKnowingNobody_0 : decode cX5_roadsKnowingNobody 0 = .ok (.iconst 0, 1) := by decide +kernel
theorem dX5_roadsKnowingNobody_1 : decode cX5_roadsKnowingNobody 1 = .ok (.istore_n 2, 1) := by decide +kernel
theorem dX5_roadsKnowingNobody_2 : decode cX5_roadsKnowingNobody 2 = .ok (.iconst 0, 1) := by decide +kernel
theorem dX5_roadsKnowingNobody_3 : decode cX5_roadsKnowingNobody 3 = .ok (.istore_n 3, 1) := by decide +kernel
theorem dX5_roadsKnowingNobody_4 : decode cX5_roadsKnowingNobody 4 = .ok (.iload_n 3, 1) := by decide +kernel
theorem dX5_roadsKnowingNobody_5 : decode cX5_roadsKnowingNobody 5 = .ok (.aload_n 0, 1) := by decide +kernel
theorem dX5_roadsKnowingNobody_6 : decode cX5_roadsKnowingNobody 6 = .ok (.getfield 11, 3) := by decide +kernel
theorem dX5_roadsKnowingNobody_9 : decode cX5_roadsKnowingNobody 9 = .ok (.invokevirtual 72, 3) := by decide +kernel
theorem dX5_roadsKnowingNobody_12 : decode cX5_roadsKnowingNobody 12 = .ok (.if_icmp .ge 46, 3) := by decide +kernel
theorem dX5_roadsKnowingNobody_15 : decode cX5_roadsKnowingNobody 15 = .ok (.aload_n 0, 1) := by decide +kernel
theorem dX5_roadsKnowingNobody_16 : decode cX5_roadsKnowingNobody 16 = .ok (.getfield 11, 3) := by decide +kernel
theorem dX5_roadsKnowingNobody_19 : decode cX5_roadsKnowingNobody 19 = .ok (.iload_n 3, 1) := by decide +kernel
theorem dX5_roadsKnowingNobody_20 : decode cX5_roadsKnowingNobody 20 = .ok (.invokevirtual 76, 3) := by decide +kernel
theorem dX5_roadsKnowingNobody_23 : decode cX5_roadsKnowingNobody 23 = .ok (.ifCond .eq 29, 3) := by decide +kernel
theorem dX5_roadsKnowingNobody_26 : decode cX5_roadsKnowingNobody 26 = .ok (.aload_n 0, 1) := by decide +kernel
theorem dX5_roadsKnowingNobody_27 : decode cX5_roadsKnowingNobody 27 = .ok (.getfield 11, 3) := by decide +kernel
theorem dX5_roadsKnowingNobody_30 : decode cX5_roadsKnowingNobody 30 = .ok (.iload_n 3, 1) := by decide +kernel
theorem dX5_roadsKnowingNobody_31 : decode cX5_roadsKnowingNobody 31 = .ok (.aload_n 0, 1) := by decide +kernel
theorem dX5_roadsKnowingNobody_32 : decode cX5_roadsKnowingNobody 32 = .ok (.getfield 11, 3) := by decide +kernel
theorem dX5_roadsKnowingNobody_35 : decode cX5_roadsKnowingNobody 35 = .ok (.invokevirtual 88, 3) := by decide +kernel
theorem dX5_roadsKnowingNobody_38 : decode cX5_roadsKnowingNobody 38 = .ok (.iload_n 1, 1) := by decide +kernel
theorem dX5_roadsKnowingNobody_39 : decode cX5_roadsKnowingNobody 39 = .ok (.iadd, 1) := by decide +kernel
theorem dX5_roadsKnowingNobody_40 : decode cX5_roadsKnowingNobody 40 = .ok (.invokevirtual 91, 3) := by decide +kernel
theorem dX5_roadsKnowingNobody_43 : decode cX5_roadsKnowingNobody 43 = .ok (.ifCond .ne 9, 3) := by decide +kernel
theorem dX5_roadsKnowingNobody_46 : decode cX5_roadsKnowingNobody 46 = .ok (.iload_n 2, 1) := by decide +kernel
theorem dX5_roadsKnowingNobody_47 : decode cX5_roadsKnowingNobody 47 = .ok (.iconst 1, 1) := by decide +kernel
theorem dX5_roadsKnowingNobody_48 : decode cX5_roadsKnowingNobody 48 = .ok (.iload_n 3, 1) := by decide +kernel
theorem dX5_roadsKnowingNobody_49 : decode cX5_roadsKnowingNobody 49 = .ok (.ishl, 1) := by decide +kernel
theorem dX5_roadsKnowingNobody_50 : decode cX5_roadsKnowingNobody 50 = .ok (.ior, 1) := by decide +kernel
theorem dX5_roadsKnowingNobody_51 : decode cX5_roadsKnowingNobody 51 = .ok (.istore_n 2, 1) := by decide +kernel
theorem dX5_roadsKnowingNobody_52 : decode cX5_roadsKnowingNobody 52 = .ok (.iinc 3 1, 3) := by decide +kernel
theorem dX5_roadsKnowingNobody_55 : decode cX5_roadsKnowingNobody 55 = .ok (.goto (-51), 3) := by decide +kernel
theorem dX5_roadsKnowingNobody_58 : decode cX5_roadsKnowingNobody 58 = .ok (.iload_n 2, 1) := by decide +kernel
theorem dX5_roadsKnowingNobody_59 : decode cX5_roadsKnowingNobody 59 = .ok (.ireturn, 1) := by decide +kernel
theorem dX5_roundOf_0 : decode cX5_roundOf 0 = .ok (.aload_n 0, 1) := by decide +kernel
theorem dX5_roundOf_1 : decode cX5_roundOf 1 = .ok (.getfield 11, 3) := by decide +kernel
theorem dX5_roundOf_4 : decode cX5_roundOf 4 = .ok (.iload_n 1, 1) := by decide +kernel
theorem dX5_roundOf_5 : decode cX5_roundOf 5 = .ok (.invokevirtual 42, 3) := by decide +kernel
theorem dX5_roundOf_8 : decode cX5_roundOf 8 = .ok (.istore_n 2, 1) := by decide +kernel
theorem dX5_roundOf_9 : decode cX5_roundOf 9 = .ok (.aload_n 0, 1) := by decide +kernel
theorem dX5_roundOf_10 : decode cX5_roundOf 10 = .ok (.getfield 11, 3) := by decide +kernel
theorem dX5_roundOf_13 : decode cX5_roundOf 13 = .ok (.iload_n 1, 1) := by decide +kernel
theorem dX5_roundOf_14 : decode cX5_roundOf 14 = .ok (.invokevirtual 46, 3) := by decide +kernel
theorem dX5_roundOf_17 : decode cX5_roundOf 17 = .ok (.istore_n 3, 1) := by decide +kernel
theorem dX5_roundOf_18 : decode cX5_roundOf 18 = .ok (.aload_n 0, 1) := by decide +kernel
theorem dX5_roundOf_19 : decode cX5_roundOf 19 = .ok (.iload_n 3, 1) := by decide +kernel
theorem dX5_roundOf_20 : decode cX5_roundOf 20 = .ok (.invokevirtual 94, 3) := by decide +kernel
theorem dX5_roundOf_23 : decode cX5_roundOf 23 = .ok (.aload_n 0, 1) := by decide +kernel
theorem dX5_roundOf_24 : decode cX5_roundOf 24 = .ok (.iload_n 3, 1) := by decide +kernel
theorem dX5_roundOf_25 : decode cX5_roundOf 25 = .ok (.invokevirtual 97, 3) := by decide +kernel
theorem dX5_roundOf_28 : decode cX5_roundOf 28 = .ok (.istore 4, 2) := by decide +kernel
theorem dX5_roundOf_30 : decode cX5_roundOf 30 = .ok (.iconst 1, 1) := by decide +kernel
theorem dX5_roundOf_31 : decode cX5_roundOf 31 = .ok (.iload 4, 2) := by decide +kernel
theorem dX5_roundOf_33 : decode cX5_roundOf 33 = .ok (.ishl, 1) := by decide +kernel
theorem dX5_roundOf_34 : decode cX5_roundOf 34 = .ok (.iconst 1, 1) := by decide +kernel
theorem dX5_roundOf_35 : decode cX5_roundOf 35 = .ok (.isub, 1) := by decide +kernel
theorem dX5_roundOf_36 : decode cX5_roundOf 36 = .ok (.istore 5, 2) := by decide +kernel
theorem dX5_roundOf_38 : decode cX5_roundOf 38 = .ok (.aload_n 0, 1) := by decide +kernel
theorem dX5_roundOf_39 : decode cX5_roundOf 39 = .ok (.getfield 36, 3) := by decide +kernel
theorem dX5_roundOf_42 : decode cX5_roundOf 42 = .ok (.ldc 70, 2) := by decide +kernel
theorem dX5_roundOf_44 : decode cX5_roundOf 44 = .ok (.invokestatic 100, 3) := by decide +kernel
theorem dX5_roundOf_47 : decode cX5_roundOf 47 = .ok (.aload_n 0, 1) := by decide +kernel
theorem dX5_roundOf_48 : decode cX5_roundOf 48 = .ok (.getfield 36, 3) := by decide +kernel
theorem dX5_roundOf_51 : decode cX5_roundOf 51 = .ok (.iload_n 2, 1) := by decide +kernel
theorem dX5_roundOf_52 : decode cX5_roundOf 52 = .ok (.iconst 0, 1) := by decide +kernel
theorem dX5_roundOf_53 : decode cX5_roundOf 53 = .ok (.iastore, 1) := by decide +kernel
theorem dX5_roundOf_54 : decode cX5_roundOf 54 = .ok (.iconst 0, 1) := by decide +kernel
theorem dX5_roundOf_55 : decode cX5_roundOf 55 = .ok (.istore 6, 2) := by decide +kernel
theorem dX5_roundOf_57 : decode cX5_roundOf 57 = .ok (.iload 6, 2) := by decide +kernel
theorem dX5_roundOf_59 : decode cX5_roundOf 59 = .ok (.iload 5, 2) := by decide +kernel
theorem dX5_roundOf_61 : decode cX5_roundOf 61 = .ok (.if_icmp .ge 43, 3) := by decide +kernel
theorem dX5_roundOf_64 : decode cX5_roundOf 64 = .ok (.iconst 0, 1) := by decide +kernel
theorem dX5_roundOf_65 : decode cX5_roundOf 65 = .ok (.istore 7, 2) := by decide +kernel
theorem dX5_roundOf_67 : decode cX5_roundOf 67 = .ok (.iload 7, 2) := by decide +kernel
theorem dX5_roundOf_69 : decode cX5_roundOf 69 = .ok (.iload 4, 2) := by decide +kernel
theorem dX5_roundOf_71 : decode cX5_roundOf 71 = .ok (.if_icmp .ge 27, 3) := by decide +kernel
theorem dX5_roundOf_74 : decode cX5_roundOf 74 = .ok (.iload 6, 2) := by decide +kernel
theorem dX5_roundOf_76 : decode cX5_roundOf 76 = .ok (.iload 7, 2) := by decide +kernel
theorem dX5_roundOf_78 : decode cX5_roundOf 78 = .ok (.ishr, 1) := by decide +kernel
theorem dX5_roundOf_79 : decode cX5_roundOf 79 = .ok (.iconst 1, 1) := by decide +kernel
theorem dX5_roundOf_80 : decode cX5_roundOf 80 = .ok (.iand, 1) := by decide +kernel
theorem dX5_roundOf_81 : decode cX5_roundOf 81 = .ok (.ifCond .ne 11, 3) := by decide +kernel
theorem dX5_roundOf_84 : decode cX5_roundOf 84 = .ok (.aload_n 0, 1) := by decide +kernel
theorem dX5_roundOf_85 : decode cX5_roundOf 85 = .ok (.iload 6, 2) := by decide +kernel
theorem dX5_roundOf_87 : decode cX5_roundOf 87 = .ok (.iload 7, 2) := by decide +kernel
theorem dX5_roundOf_89 : decode cX5_roundOf 89 = .ok (.invokevirtual 106, 3) := by decide +kernel
theorem dX5_roundOf_92 : decode cX5_roundOf 92 = .ok (.iinc 7 1, 3) := by decide +kernel
theorem dX5_roundOf_95 : decode cX5_roundOf 95 = .ok (.goto (-28), 3) := by decide +kernel
theorem dX5_roundOf_98 : decode cX5_roundOf 98 = .ok (.iinc 6 1, 3) := by decide +kernel
theorem dX5_roundOf_101 : decode cX5_roundOf 101 = .ok (.goto (-44), 3) := by decide +kernel
theorem dX5_roundOf_104 : decode cX5_roundOf 104 = .ok (.ldc 70, 2) := by decide +kernel
theorem dX5_roundOf_106 : decode cX5_roundOf 106 = .ok (.istore 6, 2) := by decide +kernel
theorem dX5_roundOf_108 : decode cX5_roundOf 108 = .ok (.iconst 0, 1) := by decide +kernel
theorem dX5_roundOf_109 : decode cX5_roundOf 109 = .ok (.istore 7, 2) := by decide +kernel
theorem dX5_roundOf_111 : decode cX5_roundOf 111 = .ok (.iload 7, 2) := by decide +kernel
theorem dX5_roundOf_113 : decode cX5_roundOf 113 = .ok (.aload_n 0, 1) := by decide +kernel
theorem dX5_roundOf_114 : decode cX5_roundOf 114 = .ok (.getfield 11, 3) := by decide +kernel
theorem dX5_roundOf_117 : decode cX5_roundOf 117 = .ok (.invokevirtual 110, 3) := by decide +kernel
theorem dX5_roundOf_120 : decode cX5_roundOf 120 = .ok (.if_icmp .ge 42, 3) := by decide +kernel
theorem dX5_roundOf_123 : decode cX5_roundOf 123 = .ok (.iload 6, 2) := by decide +kernel
theorem dX5_roundOf_125 : decode cX5_roundOf 125 = .ok (.aload_n 0, 1) := by decide +kernel
theorem dX5_roundOf_126 : decode cX5_roundOf 126 = .ok (.getfield 36, 3) := by decide +kernel
theorem dX5_roundOf_129 : decode cX5_roundOf 129 = .ok (.iload 5, 2) := by decide +kernel
theorem dX5_roundOf_131 : decode cX5_roundOf 131 = .ok (.bipush 8, 2) := by decide +kernel
theorem dX5_roundOf_133 : decode cX5_roundOf 133 = .ok (.imul, 1) := by decide +kernel
theorem dX5_roundOf_134 : decode cX5_roundOf 134 = .ok (.iload 7, 2) := by decide +kernel
theorem dX5_roundOf_136 : decode cX5_roundOf 136 = .ok (.iadd, 1) := by decide +kernel
theorem dX5_roundOf_137 : decode cX5_roundOf 137 = .ok (.iaload, 1) := by decide +kernel
theorem dX5_roundOf_138 : decode cX5_roundOf 138 = .ok (.aload_n 0, 1) := by decide +kernel
theorem dX5_roundOf_139 : decode cX5_roundOf 139 = .ok (.getfield 30, 3) := by decide +kernel
theorem dX5_roundOf_142 : decode cX5_roundOf 142 = .ok (.iload 7, 2) := by decide +kernel
theorem dX5_roundOf_144 : decode cX5_roundOf 144 = .ok (.bipush 8, 2) := by decide +kernel
theorem dX5_roundOf_146 : decode cX5_roundOf 146 = .ok (.imul, 1) := by decide +kernel
theorem dX5_roundOf_147 : decode cX5_roundOf 147 = .ok (.iload_n 2, 1) := by decide +kernel
theorem dX5_roundOf_148 : decode cX5_roundOf 148 = .ok (.iadd, 1) := by decide +kernel
theorem dX5_roundOf_149 : decode cX5_roundOf 149 = .ok (.iaload, 1) := by decide +kernel
theorem dX5_roundOf_150 : decode cX5_roundOf 150 = .ok (.iadd, 1) := by decide +kernel
theorem dX5_roundOf_151 : decode cX5_roundOf 151 = .ok (.invokestatic 83, 3) := by decide +kernel
theorem dX5_roundOf_154 : decode cX5_roundOf 154 = .ok (.istore 6, 2) := by decide +kernel
theorem dX5_roundOf_156 : decode cX5_roundOf 156 = .ok (.iinc 7 1, 3) := by decide +kernel
theorem dX5_roundOf_159 : decode cX5_roundOf 159 = .ok (.goto (-48), 3) := by decide +kernel
theorem dX5_roundOf_162 : decode cX5_roundOf 162 = .ok (.iload 6, 2) := by decide +kernel
theorem dX5_roundOf_164 : decode cX5_roundOf 164 = .ok (.invokestatic 57, 3) := by decide +kernel
theorem dX5_roundOf_167 : decode cX5_roundOf 167 = .ok (.ireturn, 1) := by decide +kernel
theorem dX5_barsAgainst_0 : decode cX5_barsAgainst 0 = .ok (.aload_n 0, 1) := by decide +kernel
theorem dX5_barsAgainst_1 : decode cX5_barsAgainst 1 = .ok (.getfield 11, 3) := by decide +kernel
theorem dX5_barsAgainst_4 : decode cX5_barsAgainst 4 = .ok (.iload_n 1, 1) := by decide +kernel
theorem dX5_barsAgainst_5 : decode cX5_barsAgainst 5 = .ok (.invokevirtual 42, 3) := by decide +kernel
theorem dX5_barsAgainst_8 : decode cX5_barsAgainst 8 = .ok (.istore_n 3, 1) := by decide +kernel
theorem dX5_barsAgainst_9 : decode cX5_barsAgainst 9 = .ok (.aload_n 0, 1) := by decide +kernel
theorem dX5_barsAgainst_10 : decode cX5_barsAgainst 10 = .ok (.getfield 11, 3) := by decide +kernel
theorem dX5_barsAgainst_13 : decode cX5_barsAgainst 13 = .ok (.iload_n 1, 1) := by decide +kernel
theorem dX5_barsAgainst_14 : decode cX5_barsAgainst 14 = .ok (.invokevirtual 46, 3) := by decide +kernel
theorem dX5_barsAgainst_17 : decode cX5_barsAgainst 17 = .ok (.istore 4, 2) := by decide +kernel
theorem dX5_barsAgainst_19 : decode cX5_barsAgainst 19 = .ok (.iload 4, 2) := by decide +kernel
theorem dX5_barsAgainst_21 : decode cX5_barsAgainst 21 = .ok (.istore 5, 2) := by decide +kernel
theorem dX5_barsAgainst_23 : decode cX5_barsAgainst 23 = .ok (.bipush 10, 2) := by decide +kernel
theorem dX5_barsAgainst_25 : decode cX5_barsAgainst 25 = .ok (.istore 6, 2) := by decide +kernel
theorem dX5_barsAgainst_27 : decode cX5_barsAgainst 27 = .ok (.aload_n 0, 1) := by decide +kernel
theorem dX5_barsAgainst_28 : decode cX5_barsAgainst 28 = .ok (.invokevirtual 39, 3) := by decide +kernel
theorem dX5_barsAgainst_31 : decode cX5_barsAgainst 31 = .ok (.iconst 0, 1) := by decide +kernel
theorem dX5_barsAgainst_32 : decode cX5_barsAgainst 32 = .ok (.istore 7, 2) := by decide +kernel
theorem dX5_barsAgainst_34 : decode cX5_barsAgainst 34 = .ok (.iload 7, 2) := by decide +kernel
theorem dX5_barsAgainst_36 : decode cX5_barsAgainst 36 = .ok (.iconst 1, 1) := by decide +kernel
theorem dX5_barsAgainst_37 : decode cX5_barsAgainst 37 = .ok (.aload_n 0, 1) := by decide +kernel
theorem dX5_barsAgainst_38 : decode cX5_barsAgainst 38 = .ok (.getfield 11, 3) := by decide +kernel
theorem dX5_barsAgainst_41 : decode cX5_barsAgainst 41 = .ok (.invokevirtual 72, 3) := by decide +kernel
theorem dX5_barsAgainst_44 : decode cX5_barsAgainst 44 = .ok (.ishl, 1) := by decide +kernel
theorem dX5_barsAgainst_45 : decode cX5_barsAgainst 45 = .ok (.if_icmp .ge 68, 3) := by decide +kernel
theorem dX5_barsAgainst_48 : decode cX5_barsAgainst 48 = .ok (.iload 7, 2) := by decide +kernel
theorem dX5_barsAgainst_50 : decode cX5_barsAgainst 50 = .ok (.iload 4, 2) := by decide +kernel
theorem dX5_barsAgainst_52 : decode cX5_barsAgainst 52 = .ok (.iconst (-1), 1) := by decide +kernel
theorem dX5_barsAgainst_53 : decode cX5_barsAgainst 53 = .ok (.ixor, 1) := by decide +kernel
theorem dX5_barsAgainst_54 : decode cX5_barsAgainst 54 = .ok (.iand, 1) := by decide +kernel
theorem dX5_barsAgainst_55 : decode cX5_barsAgainst 55 = .ok (.ifCond .ne 17, 3) := by decide +kernel
theorem dX5_barsAgainst_58 : decode cX5_barsAgainst 58 = .ok (.iload 7, 2) := by decide +kernel
theorem dX5_barsAgainst_60 : decode cX5_barsAgainst 60 = .ok (.invokestatic 113, 3) := by decide +kernel
theorem dX5_barsAgainst_63 : decode cX5_barsAgainst 63 = .ok (.iload 6, 2) := by decide +kernel
theorem dX5_barsAgainst_65 : decode cX5_barsAgainst 65 = .ok (.if_icmp .ge 7, 3) := by decide +kernel
theorem dX5_barsAgainst_68 : decode cX5_barsAgainst 68 = .ok (.iconst 1, 1) := by decide +kernel
theorem dX5_barsAgainst_69 : decode cX5_barsAgainst 69 = .ok (.goto 4, 3) := by decide +kernel
theorem dX5_barsAgainst_72 : decode cX5_barsAgainst 72 = .ok (.iconst 0, 1) := by decide +kernel
theorem dX5_barsAgainst_73 : decode cX5_barsAgainst 73 = .ok (.istore 8, 2) := by decide +kernel
theorem dX5_barsAgainst_75 : decode cX5_barsAgainst 75 = .ok (.iload 8, 2) := by decide +kernel
theorem dX5_barsAgainst_77 : decode cX5_barsAgainst 77 = .ok (.ifCond .eq 30, 3) := by decide +kernel
theorem dX5_barsAgainst_80 : decode cX5_barsAgainst 80 = .ok (.aload_n 0, 1) := by decide +kernel
theorem dX5_barsAgainst_81 : decode cX5_barsAgainst 81 = .ok (.iload_n 3, 1) := by decide +kernel
theorem dX5_barsAgainst_82 : decode cX5_barsAgainst 82 = .ok (.iload 4, 2) := by decide +kernel
theorem dX5_barsAgainst_84 : decode cX5_barsAgainst 84 = .ok (.iload 7, 2) := by decide +kernel
theorem dX5_barsAgainst_86 : decode cX5_barsAgainst 86 = .ok (.iconst (-1), 1) := by decide +kernel
theorem dX5_barsAgainst_87 : decode cX5_barsAgainst 87 = .ok (.ixor, 1) := by decide +kernel
theorem dX5_barsAgainst_88 : decode cX5_barsAgainst 88 = .ok (.iand, 1) := by decide +kernel
theorem dX5_barsAgainst_89 : decode cX5_barsAgainst 89 = .ok (.iload_n 2, 1) := by decide +kernel
theorem dX5_barsAgainst_90 : decode cX5_barsAgainst 90 = .ok (.invokevirtual 118, 3) := by decide +kernel
theorem dX5_barsAgainst_93 : decode cX5_barsAgainst 93 = .ok (.ifCond .ne 14, 3) := by decide +kernel
theorem dX5_barsAgainst_96 : decode cX5_barsAgainst 96 = .ok (.iload 7, 2) := by decide +kernel
theorem dX5_barsAgainst_98 : decode cX5_barsAgainst 98 = .ok (.istore 5, 2) := by decide +kernel
theorem dX5_barsAgainst_100 : decode cX5_barsAgainst 100 = .ok (.iload 7, 2) := by decide +kernel
theorem dX5_barsAgainst_102 : decode cX5_barsAgainst 102 = .ok (.invokestatic 113, 3) := by decide +kernel
theorem dX5_barsAgainst_105 : decode cX5_barsAgainst 105 = .ok (.istore 6, 2) := by decide +kernel
theorem dX5_barsAgainst_107 : decode cX5_barsAgainst 107 = .ok (.iinc 7 1, 3) := by decide +kernel
theorem dX5_barsAgainst_110 : decode cX5_barsAgainst 110 = .ok (.goto (-76), 3) := by decide +kernel
theorem dX5_barsAgainst_113 : decode cX5_barsAgainst 113 = .ok (.iload 5, 2) := by decide +kernel
theorem dX5_barsAgainst_115 : decode cX5_barsAgainst 115 = .ok (.ireturn, 1) := by decide +kernel
theorem dX5_meetingOf_0 : decode cX5_meetingOf 0 = .ok (.aload_n 0, 1) := by decide +kernel
theorem dX5_meetingOf_1 : decode cX5_meetingOf 1 = .ok (.iload_n 1, 1) := by decide +kernel
theorem dX5_meetingOf_2 : decode cX5_meetingOf 2 = .ok (.aload_n 0, 1) := by decide +kernel
theorem dX5_meetingOf_3 : decode cX5_meetingOf 3 = .ok (.getfield 24, 3) := by decide +kernel
theorem dX5_meetingOf_6 : decode cX5_meetingOf 6 = .ok (.invokevirtual 53, 3) := by decide +kernel
theorem dX5_meetingOf_9 : decode cX5_meetingOf 9 = .ok (.aload_n 0, 1) := by decide +kernel
theorem dX5_meetingOf_10 : decode cX5_meetingOf 10 = .ok (.iload_n 2, 1) := by decide +kernel
theorem dX5_meetingOf_11 : decode cX5_meetingOf 11 = .ok (.aload_n 0, 1) := by decide +kernel
theorem dX5_meetingOf_12 : decode cX5_meetingOf 12 = .ok (.getfield 27, 3) := by decide +kernel
theorem dX5_meetingOf_15 : decode cX5_meetingOf 15 = .ok (.invokevirtual 53, 3) := by decide +kernel
theorem dX5_meetingOf_18 : decode cX5_meetingOf 18 = .ok (.iconst 0, 1) := by decide +kernel
theorem dX5_meetingOf_19 : decode cX5_meetingOf 19 = .ok (.istore 4, 2) := by decide +kernel
theorem dX5_meetingOf_21 : decode cX5_meetingOf 21 = .ok (.iconst 1, 1) := by decide +kernel
theorem dX5_meetingOf_22 : decode cX5_meetingOf 22 = .ok (.istore 5, 2) := by decide +kernel
theorem dX5_meetingOf_24 : decode cX5_meetingOf 24 = .ok (.iload 5, 2) := by decide +kernel
theorem dX5_meetingOf_26 : decode cX5_meetingOf 26 = .ok (.aload_n 0, 1) := by decide +kernel
theorem dX5_meetingOf_27 : decode cX5_meetingOf 27 = .ok (.getfield 11, 3) := by decide +kernel
theorem dX5_meetingOf_30 : decode cX5_meetingOf 30 = .ok (.invokevirtual 110, 3) := by decide +kernel
theorem dX5_meetingOf_33 : decode cX5_meetingOf 33 = .ok (.if_icmp .ge 46, 3) := by decide +kernel
theorem dX5_meetingOf_36 : decode cX5_meetingOf 36 = .ok (.aload_n 0, 1) := by decide +kernel
theorem dX5_meetingOf_37 : decode cX5_meetingOf 37 = .ok (.getfield 24, 3) := by decide +kernel
theorem dX5_meetingOf_40 : decode cX5_meetingOf 40 = .ok (.iload 5, 2) := by decide +kernel
theorem dX5_meetingOf_42 : decode cX5_meetingOf 42 = .ok (.iaload, 1) := by decide +kernel
theorem dX5_meetingOf_43 : decode cX5_meetingOf 43 = .ok (.aload_n 0, 1) := by decide +kernel
theorem dX5_meetingOf_44 : decode cX5_meetingOf 44 = .ok (.getfield 27, 3) := by decide +kernel
theorem dX5_meetingOf_47 : decode cX5_meetingOf 47 = .ok (.iload 5, 2) := by decide +kernel
theorem dX5_meetingOf_49 : decode cX5_meetingOf 49 = .ok (.iaload, 1) := by decide +kernel
theorem dX5_meetingOf_50 : decode cX5_meetingOf 50 = .ok (.iadd, 1) := by decide +kernel
theorem dX5_meetingOf_51 : decode cX5_meetingOf 51 = .ok (.aload_n 0, 1) := by decide +kernel
theorem dX5_meetingOf_52 : decode cX5_meetingOf 52 = .ok (.getfield 24, 3) := by decide +kernel
theorem dX5_meetingOf_55 : decode cX5_meetingOf 55 = .ok (.iload 4, 2) := by decide +kernel
theorem dX5_meetingOf_57 : decode cX5_meetingOf 57 = .ok (.iaload, 1) := by decide +kernel
theorem dX5_meetingOf_58 : decode cX5_meetingOf 58 = .ok (.aload_n 0, 1) := by decide +kernel
theorem dX5_meetingOf_59 : decode cX5_meetingOf 59 = .ok (.getfield 27, 3) := by decide +kernel
theorem dX5_meetingOf_62 : decode cX5_meetingOf 62 = .ok (.iload 4, 2) := by decide +kernel
theorem dX5_meetingOf_64 : decode cX5_meetingOf 64 = .ok (.iaload, 1) := by decide +kernel
theorem dX5_meetingOf_65 : decode cX5_meetingOf 65 = .ok (.iadd, 1) := by decide +kernel
theorem dX5_meetingOf_66 : decode cX5_meetingOf 66 = .ok (.if_icmp .ge 7, 3) := by decide +kernel
theorem dX5_meetingOf_69 : decode cX5_meetingOf 69 = .ok (.iload 5, 2) := by decide +kernel
theorem dX5_meetingOf_71 : decode cX5_meetingOf 71 = .ok (.istore 4, 2) := by decide +kernel
theorem dX5_meetingOf_73 : decode cX5_meetingOf 73 = .ok (.iinc 5 1, 3) := by decide +kernel
theorem dX5_meetingOf_76 : decode cX5_meetingOf 76 = .ok (.goto (-52), 3) := by decide +kernel
theorem dX5_meetingOf_79 : decode cX5_meetingOf 79 = .ok (.aload_n 0, 1) := by decide +kernel
theorem dX5_meetingOf_80 : decode cX5_meetingOf 80 = .ok (.getfield 24, 3) := by decide +kernel
theorem dX5_meetingOf_83 : decode cX5_meetingOf 83 = .ok (.iload 4, 2) := by decide +kernel
theorem dX5_meetingOf_85 : decode cX5_meetingOf 85 = .ok (.iaload, 1) := by decide +kernel
theorem dX5_meetingOf_86 : decode cX5_meetingOf 86 = .ok (.aload_n 0, 1) := by decide +kernel
theorem dX5_meetingOf_87 : decode cX5_meetingOf 87 = .ok (.getfield 27, 3) := by decide +kernel
theorem dX5_meetingOf_90 : decode cX5_meetingOf 90 = .ok (.iload 4, 2) := by decide +kernel
theorem dX5_meetingOf_92 : decode cX5_meetingOf 92 = .ok (.iaload, 1) := by decide +kernel
theorem dX5_meetingOf_93 : decode cX5_meetingOf 93 = .ok (.iadd, 1) := by decide +kernel
theorem dX5_meetingOf_94 : decode cX5_meetingOf 94 = .ok (.istore 5, 2) := by decide +kernel
theorem dX5_meetingOf_96 : decode cX5_meetingOf 96 = .ok (.iload 5, 2) := by decide +kernel
theorem dX5_meetingOf_98 : decode cX5_meetingOf 98 = .ok (.ldc 70, 2) := by decide +kernel
theorem dX5_meetingOf_100 : decode cX5_meetingOf 100 = .ok (.if_icmp .lt 6, 3) := by decide +kernel
theorem dX5_meetingOf_103 : decode cX5_meetingOf 103 = .ok (.ldc 71, 2) := by decide +kernel
theorem dX5_meetingOf_105 : decode cX5_meetingOf 105 = .ok (.ireturn, 1) := by decide +kernel
theorem dX5_meetingOf_106 : decode cX5_meetingOf 106 = .ok (.iload_n 3, 1) := by decide +kernel
theorem dX5_meetingOf_107 : decode cX5_meetingOf 107 = .ok (.ifCond .ne 8, 3) := by decide +kernel
theorem dX5_meetingOf_110 : decode cX5_meetingOf 110 = .ok (.iload 4, 2) := by decide +kernel
theorem dX5_meetingOf_112 : decode cX5_meetingOf 112 = .ok (.goto 5, 3) := by decide +kernel
theorem dX5_meetingOf_115 : decode cX5_meetingOf 115 = .ok (.iload 5, 2) := by decide +kernel
theorem dX5_meetingOf_117 : decode cX5_meetingOf 117 = .ok (.ireturn, 1) := by decide +kernel
theorem dX5_snowOdds_0 : decode cX5_snowOdds 0 = .ok (.aload_n 0, 1) := by decide +kernel
theorem dX5_snowOdds_1 : decode cX5_snowOdds 1 = .ok (.getfield 11, 3) := by decide +kernel
theorem dX5_snowOdds_4 : decode cX5_snowOdds 4 = .ok (.iload_n 1, 1) := by decide +kernel
theorem dX5_snowOdds_5 : decode cX5_snowOdds 5 = .ok (.invokevirtual 42, 3) := by decide +kernel
theorem dX5_snowOdds_8 : decode cX5_snowOdds 8 = .ok (.istore 5, 2) := by decide +kernel
theorem dX5_snowOdds_10 : decode cX5_snowOdds 10 = .ok (.aload_n 0, 1) := by decide +kernel
theorem dX5_snowOdds_11 : decode cX5_snowOdds 11 = .ok (.getfield 11, 3) := by decide +kernel
theorem dX5_snowOdds_14 : decode cX5_snowOdds 14 = .ok (.iload_n 1, 1) := by decide +kernel
theorem dX5_snowOdds_15 : decode cX5_snowOdds 15 = .ok (.invokevirtual 46, 3) := by decide +kernel
theorem dX5_snowOdds_18 : decode cX5_snowOdds 18 = .ok (.istore 6, 2) := by decide +kernel
theorem dX5_snowOdds_20 : decode cX5_snowOdds 20 = .ok (.iload 6, 2) := by decide +kernel
theorem dX5_snowOdds_22 : decode cX5_snowOdds 22 = .ok (.invokestatic 113, 3) := by decide +kernel
theorem dX5_snowOdds_25 : decode cX5_snowOdds 25 = .ok (.istore 7, 2) := by decide +kernel
theorem dX5_snowOdds_27 : decode cX5_snowOdds 27 = .ok (.lconst 0, 1) := by decide +kernel
theorem dX5_snowOdds_28 : decode cX5_snowOdds 28 = .ok (.lstore 8, 2) := by decide +kernel
theorem dX5_snowOdds_30 : decode cX5_snowOdds 30 = .ok (.aload_n 0, 1) := by decide +kernel
theorem dX5_snowOdds_31 : decode cX5_snowOdds 31 = .ok (.invokevirtual 39, 3) := by decide +kernel
theorem dX5_snowOdds_34 : decode cX5_snowOdds 34 = .ok (.iconst 0, 1) := by decide +kernel
theorem dX5_snowOdds_35 : decode cX5_snowOdds 35 = .ok (.istore 10, 2) := by decide +kernel
theorem dX5_snowOdds_37 : decode cX5_snowOdds 37 = .ok (.iload 10, 2) := by decide +kernel
theorem dX5_snowOdds_39 : decode cX5_snowOdds 39 = .ok (.iconst 1, 1) := by decide +kernel
theorem dX5_snowOdds_40 : decode cX5_snowOdds 40 = .ok (.aload_n 0, 1) := by decide +kernel
theorem dX5_snowOdds_41 : decode cX5_snowOdds 41 = .ok (.getfield 11, 3) := by decide +kernel
theorem dX5_snowOdds_44 : decode cX5_snowOdds 44 = .ok (.invokevirtual 72, 3) := by decide +kernel
theorem dX5_snowOdds_47 : decode cX5_snowOdds 47 = .ok (.ishl, 1) := by decide +kernel
theorem dX5_snowOdds_48 : decode cX5_snowOdds 48 = .ok (.if_icmp .ge 62, 3) := by decide +kernel
theorem dX5_snowOdds_51 : decode cX5_snowOdds 51 = .ok (.iload 10, 2) := by decide +kernel
theorem dX5_snowOdds_53 : decode cX5_snowOdds 53 = .ok (.iload 6, 2) := by decide +kernel
theorem dX5_snowOdds_55 : decode cX5_snowOdds 55 = .ok (.iconst (-1), 1) := by decide +kernel
theorem dX5_snowOdds_56 : decode cX5_snowOdds 56 = .ok (.ixor, 1) := by decide +kernel
theorem dX5_snowOdds_57 : decode cX5_snowOdds 57 = .ok (.iand, 1) := by decide +kernel
theorem dX5_snowOdds_58 : decode cX5_snowOdds 58 = .ok (.ifCond .ne 46, 3) := by decide +kernel
theorem dX5_snowOdds_61 : decode cX5_snowOdds 61 = .ok (.aload_n 0, 1) := by decide +kernel
theorem dX5_snowOdds_62 : decode cX5_snowOdds 62 = .ok (.iload 5, 2) := by decide +kernel
theorem dX5_snowOdds_64 : decode cX5_snowOdds 64 = .ok (.iload 10, 2) := by decide +kernel
theorem dX5_snowOdds_66 : decode cX5_snowOdds 66 = .ok (.iload_n 2, 1) := by decide +kernel
theorem dX5_snowOdds_67 : decode cX5_snowOdds 67 = .ok (.invokevirtual 118, 3) := by decide +kernel
theorem dX5_snowOdds_70 : decode cX5_snowOdds 70 = .ok (.ifCond .eq 34, 3) := by decide +kernel
theorem dX5_snowOdds_73 : decode cX5_snowOdds 73 = .ok (.iload 10, 2) := by decide +kernel
theorem dX5_snowOdds_75 : decode cX5_snowOdds 75 = .ok (.invokestatic 113, 3) := by decide +kernel
theorem dX5_snowOdds_78 : decode cX5_snowOdds 78 = .ok (.istore 11, 2) := by decide +kernel
theorem dX5_snowOdds_80 : decode cX5_snowOdds 80 = .ok (.lload 8, 2) := by decide +kernel
theorem dX5_snowOdds_82 : decode cX5_snowOdds 82 = .ok (.bipush 10, 2) := by decide +kernel
theorem dX5_snowOdds_84 : decode cX5_snowOdds 84 = .ok (.iload_n 3, 1) := by decide +kernel
theorem dX5_snowOdds_85 : decode cX5_snowOdds 85 = .ok (.isub, 1) := by decide +kernel
theorem dX5_snowOdds_86 : decode cX5_snowOdds 86 = .ok (.iload 11, 2) := by decide +kernel
theorem dX5_snowOdds_88 : decode cX5_snowOdds 88 = .ok (.invokestatic 122, 3) := by decide +kernel
theorem dX5_snowOdds_91 : decode cX5_snowOdds 91 = .ok (.iload_n 3, 1) := by decide +kernel
theorem dX5_snowOdds_92 : decode cX5_snowOdds 92 = .ok (.iload 7, 2) := by decide +kernel
theorem dX5_snowOdds_94 : decode cX5_snowOdds 94 = .ok (.iload 11, 2) := by decide +kernel
theorem dX5_snowOdds_96 : decode cX5_snowOdds 96 = .ok (.isub, 1) := by decide +kernel
theorem dX5_snowOdds_97 : decode cX5_snowOdds 97 = .ok (.invokestatic 122, 3) := by decide +kernel
theorem dX5_snowOdds_100 : decode cX5_snowOdds 100 = .ok (.lmul, 1) := by decide +kernel
theorem dX5_snowOdds_101 : decode cX5_snowOdds 101 = .ok (.ladd, 1) := by decide +kernel
theorem dX5_snowOdds_102 : decode cX5_snowOdds 102 = .ok (.lstore 8, 2) := by decide +kernel
theorem dX5_snowOdds_104 : decode cX5_snowOdds 104 = .ok (.iinc 10 1, 3) := by decide +kernel
theorem dX5_snowOdds_107 : decode cX5_snowOdds 107 = .ok (.goto (-70), 3) := by decide +kernel
theorem dX5_snowOdds_110 : decode cX5_snowOdds 110 = .ok (.bipush 10, 2) := by decide +kernel
theorem dX5_snowOdds_112 : decode cX5_snowOdds 112 = .ok (.iload 7, 2) := by decide +kernel
theorem dX5_snowOdds_114 : decode cX5_snowOdds 114 = .ok (.invokestatic 122, 3) := by decide +kernel
theorem dX5_snowOdds_117 : decode cX5_snowOdds 117 = .ok (.lstore 10, 2) := by decide +kernel
theorem dX5_snowOdds_119 : decode cX5_snowOdds 119 = .ok (.lload 8, 2) := by decide +kernel
theorem dX5_snowOdds_121 : decode cX5_snowOdds 121 = .ok (.lload 10, 2) := by decide +kernel
theorem dX5_snowOdds_123 : decode cX5_snowOdds 123 = .ok (.invokestatic 126, 3) := by decide +kernel
theorem dX5_snowOdds_126 : decode cX5_snowOdds 126 = .ok (.lstore 12, 2) := by decide +kernel
theorem dX5_snowOdds_128 : decode cX5_snowOdds 128 = .ok (.lload 12, 2) := by decide +kernel
theorem dX5_snowOdds_130 : decode cX5_snowOdds 130 = .ok (.lconst 0, 1) := by decide +kernel
theorem dX5_snowOdds_131 : decode cX5_snowOdds 131 = .ok (.lcmp, 1) := by decide +kernel
theorem dX5_snowOdds_132 : decode cX5_snowOdds 132 = .ok (.ifCond .gt 7, 3) := by decide +kernel
theorem dX5_snowOdds_135 : decode cX5_snowOdds 135 = .ok (.ldc2_w 130, 3) := by decide +kernel
theorem dX5_snowOdds_138 : decode cX5_snowOdds 138 = .ok (.lreturn, 1) := by decide +kernel
theorem dX5_snowOdds_139 : decode cX5_snowOdds 139 = .ok (.iload 4, 2) := by decide +kernel
theorem dX5_snowOdds_141 : decode cX5_snowOdds 141 = .ok (.ifCond .ne 11, 3) := by decide +kernel
theorem dX5_snowOdds_144 : decode cX5_snowOdds 144 = .ok (.lload 8, 2) := by decide +kernel
theorem dX5_snowOdds_146 : decode cX5_snowOdds 146 = .ok (.lload 12, 2) := by decide +kernel
theorem dX5_snowOdds_148 : decode cX5_snowOdds 148 = .ok (.ldiv, 1) := by decide +kernel
theorem dX5_snowOdds_149 : decode cX5_snowOdds 149 = .ok (.goto 8, 3) := by decide +kernel
theorem dX5_snowOdds_152 : decode cX5_snowOdds 152 = .ok (.lload 10, 2) := by decide +kernel
theorem dX5_snowOdds_154 : decode cX5_snowOdds 154 = .ok (.lload 12, 2) := by decide +kernel
theorem dX5_snowOdds_156 : decode cX5_snowOdds 156 = .ok (.ldiv, 1) := by decide +kernel
theorem dX5_snowOdds_157 : decode cX5_snowOdds 157 = .ok (.lreturn, 1) := by decide +kernel
theorem dX5_noneIfFar_0 : decode cX5_noneIfFar 0 = .ok (.iload_n 0, 1) := by decide +kernel
theorem dX5_noneIfFar_1 : decode cX5_noneIfFar 1 = .ok (.ldc 70, 2) := by decide +kernel
theorem dX5_noneIfFar_3 : decode cX5_noneIfFar 3 = .ok (.if_icmp .lt 8, 3) := by decide +kernel
theorem dX5_noneIfFar_6 : decode cX5_noneIfFar 6 = .ok (.ldc 71, 2) := by decide +kernel
theorem dX5_noneIfFar_8 : decode cX5_noneIfFar 8 = .ok (.goto 4, 3) := by decide +kernel
theorem dX5_noneIfFar_11 : decode cX5_noneIfFar 11 = .ok (.iload_n 0, 1) := by decide +kernel
theorem dX5_noneIfFar_12 : decode cX5_noneIfFar 12 = .ok (.ireturn, 1) := by decide +kernel
theorem dX5_daysUntilRoadForgets_0 : decode cX5_daysUntilRoadForgets 0 = .ok (.ldc 70, 2) := by decide +kernel
theorem dX5_daysUntilRoadForgets_2 : decode cX5_daysUntilRoadForgets 2 = .ok (.istore_n 2, 1) := by decide +kernel
theorem dX5_daysUntilRoadForgets_3 : decode cX5_daysUntilRoadForgets 3 = .ok (.iconst 0, 1) := by decide +kernel
theorem dX5_daysUntilRoadForgets_4 : decode cX5_daysUntilRoadForgets 4 = .ok (.istore_n 3, 1) := by decide +kernel
theorem dX5_daysUntilRoadForgets_5 : decode cX5_daysUntilRoadForgets 5 = .ok (.iload_n 3, 1) := by decide +kernel
theorem dX5_daysUntilRoadForgets_6 : decode cX5_daysUntilRoadForgets 6 = .ok (.aload_n 0, 1) := by decide +kernel
theorem dX5_daysUntilRoadForgets_7 : decode cX5_daysUntilRoadForgets 7 = .ok (.getfield 11, 3) := by decide +kernel
theorem dX5_daysUntilRoadForgets_10 : decode cX5_daysUntilRoadForgets 10 = .ok (.invokevirtual 132, 3) := by decide +kernel
theorem dX5_daysUntilRoadForgets_13 : decode cX5_daysUntilRoadForgets 13 = .ok (.if_icmp .ge 52, 3) := by decide +kernel
theorem dX5_daysUntilRoadForgets_16 : decode cX5_daysUntilRoadForgets 16 = .ok (.aload_n 0, 1) := by decide +kernel
theorem dX5_daysUntilRoadForgets_17 : decode cX5_daysUntilRoadForgets 17 = .ok (.getfield 11, 3) := by decide +kernel
theorem dX5_daysUntilRoadForgets_20 : decode cX5_daysUntilRoadForgets 20 = .ok (.iload_n 1, 1) := by decide +kernel
theorem dX5_daysUntilRoadForgets_21 : decode cX5_daysUntilRoadForgets 21 = .ok (.iload_n 3, 1) := by decide +kernel
theorem dX5_daysUntilRoadForgets_22 : decode cX5_daysUntilRoadForgets 22 = .ok (.aload_n 0, 1) := by decide +kernel
theorem dX5_daysUntilRoadForgets_23 : decode cX5_daysUntilRoadForgets 23 = .ok (.getfield 11, 3) := by decide +kernel
theorem dX5_daysUntilRoadForgets_26 : decode cX5_daysUntilRoadForgets 26 = .ok (.invokevirtual 88, 3) := by decide +kernel
theorem dX5_daysUntilRoadForgets_29 : decode cX5_daysUntilRoadForgets 29 = .ok (.invokevirtual 135, 3) := by decide +kernel
theorem dX5_daysUntilRoadForgets_32 : decode cX5_daysUntilRoadForgets 32 = .ok (.ifCond .eq 27, 3) := by decide +kernel
theorem dX5_daysUntilRoadForgets_35 : decode cX5_daysUntilRoadForgets 35 = .ok (.iload_n 2, 1) := by decide +kernel
theorem dX5_daysUntilRoadForgets_36 : decode cX5_daysUntilRoadForgets 36 = .ok (.aload_n 0, 1) := by decide +kernel
theorem dX5_daysUntilRoadForgets_37 : decode cX5_daysUntilRoadForgets 37 = .ok (.getfield 11, 3) := by decide +kernel
theorem dX5_daysUntilRoadForgets_40 : decode cX5_daysUntilRoadForgets 40 = .ok (.iload_n 1, 1) := by decide +kernel
theorem dX5_daysUntilRoadForgets_41 : decode cX5_daysUntilRoadForgets 41 = .ok (.iload_n 3, 1) := by decide +kernel
theorem dX5_daysUntilRoadForgets_42 : decode cX5_daysUntilRoadForgets 42 = .ok (.invokevirtual 138, 3) := by decide +kernel
theorem dX5_daysUntilRoadForgets_45 : decode cX5_daysUntilRoadForgets 45 = .ok (.iconst 1, 1) := by decide +kernel
theorem dX5_daysUntilRoadForgets_46 : decode cX5_daysUntilRoadForgets 46 = .ok (.iadd, 1) := by decide +kernel
theorem dX5_daysUntilRoadForgets_47 : decode cX5_daysUntilRoadForgets 47 = .ok (.aload_n 0, 1) := by decide +kernel
theorem dX5_daysUntilRoadForgets_48 : decode cX5_daysUntilRoadForgets 48 = .ok (.getfield 11, 3) := by decide +kernel
theorem dX5_daysUntilRoadForgets_51 : decode cX5_daysUntilRoadForgets 51 = .ok (.invokevirtual 88, 3) := by decide +kernel
theorem dX5_daysUntilRoadForgets_54 : decode cX5_daysUntilRoadForgets 54 = .ok (.isub, 1) := by decide +kernel
theorem dX5_daysUntilRoadForgets_55 : decode cX5_daysUntilRoadForgets 55 = .ok (.invokestatic 83, 3) := by decide +kernel
theorem dX5_daysUntilRoadForgets_58 : decode cX5_daysUntilRoadForgets 58 = .ok (.istore_n 2, 1) := by decide +kernel
theorem dX5_daysUntilRoadForgets_59 : decode cX5_daysUntilRoadForgets 59 = .ok (.iinc 3 1, 3) := by decide +kernel
theorem dX5_daysUntilRoadForgets_62 : decode cX5_daysUntilRoadForgets 62 = .ok (.goto (-57), 3) := by decide +kernel
theorem dX5_daysUntilRoadForgets_65 : decode cX5_daysUntilRoadForgets 65 = .ok (.iload_n 2, 1) := by decide +kernel
theorem dX5_daysUntilRoadForgets_66 : decode cX5_daysUntilRoadForgets 66 = .ok (.ireturn, 1) := by decide +kernel
theorem dX5_weighOpen_0 : decode cX5_weighOpen 0 = .ok (.iconst 0, 1) := by decide +kernel
theorem dX5_weighOpen_1 : decode cX5_weighOpen 1 = .ok (.istore_n 2, 1) := by decide +kernel
theorem dX5_weighOpen_2 : decode cX5_weighOpen 2 = .ok (.iload_n 2, 1) := by decide +kernel
theorem dX5_weighOpen_3 : decode cX5_weighOpen 3 = .ok (.aload_n 0, 1) := by decide +kernel
theorem dX5_weighOpen_4 : decode cX5_weighOpen 4 = .ok (.getfield 11, 3) := by decide +kernel
theorem dX5_weighOpen_7 : decode cX5_weighOpen 7 = .ok (.invokevirtual 72, 3) := by decide +kernel
theorem dX5_weighOpen_10 : decode cX5_weighOpen 10 = .ok (.if_icmp .ge 36, 3) := by decide +kernel
theorem dX5_weighOpen_13 : decode cX5_weighOpen 13 = .ok (.aload_n 0, 1) := by decide +kernel
theorem dX5_weighOpen_14 : decode cX5_weighOpen 14 = .ok (.getfield 21, 3) := by decide +kernel
theorem dX5_weighOpen_17 : decode cX5_weighOpen 17 = .ok (.iload_n 2, 1) := by decide +kernel
theorem dX5_weighOpen_18 : decode cX5_weighOpen 18 = .ok (.iload_n 1, 1) := by decide +kernel
theorem dX5_weighOpen_19 : decode cX5_weighOpen 19 = .ok (.iload_n 2, 1) := by decide +kernel
theorem dX5_weighOpen_20 : decode cX5_weighOpen 20 = .ok (.ishr, 1) := by decide +kernel
theorem dX5_weighOpen_21 : decode cX5_weighOpen 21 = .ok (.iconst 1, 1) := by decide +kernel
theorem dX5_weighOpen_22 : decode cX5_weighOpen 22 = .ok (.iand, 1) := by decide +kernel
theorem dX5_weighOpen_23 : decode cX5_weighOpen 23 = .ok (.iconst 1, 1) := by decide +kernel
theorem dX5_weighOpen_24 : decode cX5_weighOpen 24 = .ok (.if_icmp .ne 14, 3) := by decide +kernel
theorem dX5_weighOpen_27 : decode cX5_weighOpen 27 = .ok (.aload_n 0, 1) := by decide +kernel
theorem dX5_weighOpen_28 : decode cX5_weighOpen 28 = .ok (.getfield 11, 3) := by decide +kernel
theorem dX5_weighOpen_31 : decode cX5_weighOpen 31 = .ok (.iload_n 2, 1) := by decide +kernel
theorem dX5_weighOpen_32 : decode cX5_weighOpen 32 = .ok (.invokevirtual 141, 3) := by decide +kernel
theorem dX5_weighOpen_35 : decode cX5_weighOpen 35 = .ok (.goto 4, 3) := by decide +kernel
theorem dX5_weighOpen_38 : decode cX5_weighOpen 38 = .ok (.iconst (-1), 1) := by decide +kernel
theorem dX5_weighOpen_39 : decode cX5_weighOpen 39 = .ok (.iastore, 1) := by decide +kernel
theorem dX5_weighOpen_40 : decode cX5_weighOpen 40 = .ok (.iinc 2 1, 3) := by decide +kernel
theorem dX5_weighOpen_43 : decode cX5_weighOpen 43 = .ok (.goto (-41), 3) := by decide +kernel
theorem dX5_weighOpen_46 : decode cX5_weighOpen 46 = .ok (.return_, 1) := by decide +kernel
theorem dX5_weighIntroductions_0 : decode cX5_weighIntroductions 0 = .ok (.iconst 0, 1) := by decide +kernel
theorem dX5_weighIntroductions_1 : decode cX5_weighIntroductions 1 = .ok (.istore_n 2, 1) := by decide +kernel
theorem dX5_weighIntroductions_2 : decode cX5_weighIntroductions 2 = .ok (.iload_n 2, 1) := by decide +kernel
theorem dX5_weighIntroductions_3 : decode cX5_weighIntroductions 3 = .ok (.aload_n 0, 1) := by decide +kernel
theorem dX5_weighIntroductions_4 : decode cX5_weighIntroductions 4 = .ok (.getfield 11, 3) := by decide +kernel
theorem dX5_weighIntroductions_7 : decode cX5_weighIntroductions 7 = .ok (.invokevirtual 72, 3) := by decide +kernel
theorem dX5_weighIntroductions_10 : decode cX5_weighIntroductions 10 = .ok (.if_icmp .ge 40, 3) := by decide +kernel
theorem dX5_weighIntroductions_13 : decode cX5_weighIntroductions 13 = .ok (.aload_n 0, 1) := by decide +kernel
theorem dX5_weighIntroductions_14 : decode cX5_weighIntroductions 14 = .ok (.getfield 21, 3) := by decide +kernel
theorem dX5_weighIntroductions_17 : decode cX5_weighIntroductions 17 = .ok (.iload_n 2, 1) := by decide +kernel
theorem dX5_weighIntroductions_18 : decode cX5_weighIntroductions 18 = .ok (.aload_n 0, 1) := by decide +kernel
theorem dX5_weighIntroductions_19 : decode cX5_weighIntroductions 19 = .ok (.getfield 11, 3) := by decide +kernel
theorem dX5_weighIntroductions_22 : decode cX5_weighIntroductions 22 = .ok (.iload_n 2, 1) := by decide +kernel
theorem dX5_weighIntroductions_23 : decode cX5_weighIntroductions 23 = .ok (.invokevirtual 141, 3) := by decide +kernel
theorem dX5_weighIntroductions_26 : decode cX5_weighIntroductions 26 = .ok (.iload_n 1, 1) := by decide +kernel
theorem dX5_weighIntroductions_27 : decode cX5_weighIntroductions 27 = .ok (.iload_n 2, 1) := by decide +kernel
theorem dX5_weighIntroductions_28 : decode cX5_weighIntroductions 28 = .ok (.ishr, 1) := by decide +kernel
theorem dX5_weighIntroductions_29 : decode cX5_weighIntroductions 29 = .ok (.iconst 1, 1) := by decide +kernel
theorem dX5_weighIntroductions_30 : decode cX5_weighIntroductions 30 = .ok (.iand, 1) := by decide +kernel
theorem dX5_weighIntroductions_31 : decode cX5_weighIntroductions 31 = .ok (.iconst 1, 1) := by decide +kernel
theorem dX5_weighIntroductions_32 : decode cX5_weighIntroductions 32 = .ok (.if_icmp .ne 7, 3) := by decide +kernel
theorem dX5_weighIntroductions_35 : decode cX5_weighIntroductions 35 = .ok (.iconst 0, 1) := by decide +kernel
theorem dX5_weighIntroductions_36 : decode cX5_weighIntroductions 36 = .ok (.goto 6, 3) := by decide +kernel
theorem dX5_weighIntroductions_39 : decode cX5_weighIntroductions 39 = .ok (.sipush 1000, 3) := by decide +kernel
theorem dX5_weighIntroductions_42 : decode cX5_weighIntroductions 42 = .ok (.iadd, 1) := by decide +kernel
theorem dX5_weighIntroductions_43 : decode cX5_weighIntroductions 43 = .ok (.iastore, 1) := by decide +kernel
theorem dX5_weighIntroductions_44 : decode cX5_weighIntroductions 44 = .ok (.iinc 2 1, 3) := by decide +kernel
theorem dX5_weighIntroductions_47 : decode cX5_weighIntroductions 47 = .ok (.goto (-45), 3) := by decide +kernel
theorem dX5_weighIntroductions_50 : decode cX5_weighIntroductions 50 = .ok (.return_, 1) := by decide +kernel
theorem dX5_measureWays_0 : decode cX5_measureWays 0 = .ok (.aload_n 0, 1) := by decide +kernel
theorem dX5_measureWays_1 : decode cX5_measureWays 1 = .ok (.aload_n 0, 1) := by decide +kernel
theorem dX5_measureWays_2 : decode cX5_measureWays 2 = .ok (.getfield 11, 3) := by decide +kernel
theorem dX5_measureWays_5 : decode cX5_measureWays 5 = .ok (.iload_n 1, 1) := by decide +kernel
theorem dX5_measureWays_6 : decode cX5_measureWays 6 = .ok (.invokevirtual 46, 3) := by decide +kernel
theorem dX5_measureWays_9 : decode cX5_measureWays 9 = .ok (.invokevirtual 60, 3) := by decide +kernel
theorem dX5_measureWays_12 : decode cX5_measureWays 12 = .ok (.aload_n 0, 1) := by decide +kernel
theorem dX5_measureWays_13 : decode cX5_measureWays 13 = .ok (.aload_n 0, 1) := by decide +kernel
theorem dX5_measureWays_14 : decode cX5_measureWays 14 = .ok (.getfield 11, 3) := by decide +kernel
theorem dX5_measureWays_17 : decode cX5_measureWays 17 = .ok (.iload_n 1, 1) := by decide +kernel
theorem dX5_measureWays_18 : decode cX5_measureWays 18 = .ok (.invokevirtual 42, 3) := by decide +kernel
theorem dX5_measureWays_21 : decode cX5_measureWays 21 = .ok (.aload_n 2, 1) := by decide +kernel
theorem dX5_measureWays_22 : decode cX5_measureWays 22 = .ok (.invokevirtual 64, 3) := by decide +kernel
theorem dX5_measureWays_25 : decode cX5_measureWays 25 = .ok (.return_, 1) := by decide +kernel
theorem dX5_measure_0 : decode cX5_measure 0 = .ok (.aload_n 2, 1) := by decide +kernel
theorem dX5_measure_1 : decode cX5_measure 1 = .ok (.ldc 70, 2) := by decide +kernel
theorem dX5_measure_3 : decode cX5_measure 3 = .ok (.invokestatic 100, 3) := by decide +kernel
theorem dX5_measure_6 : decode cX5_measure 6 = .ok (.aload_n 2, 1) := by decide +kernel
theorem dX5_measure_7 : decode cX5_measure 7 = .ok (.iload_n 1, 1) := by decide +kernel
theorem dX5_measure_8 : decode cX5_measure 8 = .ok (.iconst 0, 1) := by decide +kernel
theorem dX5_measure_9 : decode cX5_measure 9 = .ok (.iastore, 1) := by decide +kernel
theorem dX5_measure_10 : decode cX5_measure 10 = .ok (.iconst 1, 1) := by decide +kernel
theorem dX5_measure_11 : decode cX5_measure 11 = .ok (.istore_n 3, 1) := by decide +kernel
theorem dX5_measure_12 : decode cX5_measure 12 = .ok (.iconst 0, 1) := by decide +kernel
theorem dX5_measure_13 : decode cX5_measure 13 = .ok (.istore 4, 2) := by decide +kernel
theorem dX5_measure_15 : decode cX5_measure 15 = .ok (.iload 4, 2) := by decide +kernel
theorem dX5_measure_17 : decode cX5_measure 17 = .ok (.bipush 8, 2) := by decide +kernel
theorem dX5_measure_19 : decode cX5_measure 19 = .ok (.if_icmp .ge 57, 3) := by decide +kernel
theorem dX5_measure_22 : decode cX5_measure 22 = .ok (.iload_n 3, 1) := by decide +kernel
theorem dX5_measure_23 : decode cX5_measure 23 = .ok (.ifCond .eq 53, 3) := by decide +kernel
theorem dX5_measure_26 : decode cX5_measure 26 = .ok (.iconst 0, 1) := by decide +kernel
theorem dX5_measure_27 : decode cX5_measure 27 = .ok (.istore_n 3, 1) := by decide +kernel
theorem dX5_measure_28 : decode cX5_measure 28 = .ok (.iconst 0, 1) := by decide +kernel
theorem dX5_measure_29 : decode cX5_measure 29 = .ok (.istore 5, 2) := by decide +kernel
theorem dX5_measure_31 : decode cX5_measure 31 = .ok (.iload 5, 2) := by decide +kernel
theorem dX5_measure_33 : decode cX5_measure 33 = .ok (.aload_n 0, 1) := by decide +kernel
theorem dX5_measure_34 : decode cX5_measure 34 = .ok (.getfield 11, 3) := by decide +kernel
theorem dX5_measure_37 : decode cX5_measure 37 = .ok (.invokevirtual 72, 3) := by decide +kernel
theorem dX5_measure_40 : decode cX5_measure 40 = .ok (.if_icmp .ge 30, 3) := by decide +kernel
theorem dX5_measure_43 : decode cX5_measure 43 = .ok (.aload_n 0, 1) := by decide +kernel
theorem dX5_measure_44 : decode cX5_measure 44 = .ok (.getfield 21, 3) := by decide +kernel
theorem dX5_measure_47 : decode cX5_measure 47 = .ok (.iload 5, 2) := by decide +kernel
theorem dX5_measure_49 : decode cX5_measure 49 = .ok (.iaload, 1) := by decide +kernel
theorem dX5_measure_50 : decode cX5_measure 50 = .ok (.iconst (-1), 1) := by decide +kernel
theorem dX5_measure_51 : decode cX5_measure 51 = .ok (.if_icmp .eq 13, 3) := by decide +kernel
theorem dX5_measure_54 : decode cX5_measure 54 = .ok (.iload_n 3, 1) := by decide +kernel
theorem dX5_measure_55 : decode cX5_measure 55 = .ok (.aload_n 0, 1) := by decide +kernel
theorem dX5_measure_56 : decode cX5_measure 56 = .ok (.iload 5, 2) := by decide +kernel
theorem dX5_measure_58 : decode cX5_measure 58 = .ok (.aload_n 2, 1) := by decide +kernel
theorem dX5_measure_59 : decode cX5_measure 59 = .ok (.invokevirtual 144, 3) := by decide +kernel
theorem dX5_measure_62 : decode cX5_measure 62 = .ok (.ior, 1) := by decide +kernel
theorem dX5_measure_63 : decode cX5_measure 63 = .ok (.istore_n 3, 1) := by decide +kernel
theorem dX5_measure_64 : decode cX5_measure 64 = .ok (.iinc 5 1, 3) := by decide +kernel
theorem dX5_measure_67 : decode cX5_measure 67 = .ok (.goto (-36), 3) := by decide +kernel
theorem dX5_measure_70 : decode cX5_measure 70 = .ok (.iinc 4 1, 3) := by decide +kernel
theorem dX5_measure_73 : decode cX5_measure 73 = .ok (.goto (-58), 3) := by decide +kernel
theorem dX5_measure_76 : decode cX5_measure 76 = .ok (.return_, 1) := by decide +kernel
theorem dX5_relax_0 : decode cX5_relax 0 = .ok (.aload_n 0, 1) := by decide +kernel
theorem dX5_relax_1 : decode cX5_relax 1 = .ok (.getfield 11, 3) := by decide +kernel
theorem dX5_relax_4 : decode cX5_relax 4 = .ok (.iload_n 1, 1) := by decide +kernel
theorem dX5_relax_5 : decode cX5_relax 5 = .ok (.invokevirtual 148, 3) := by decide +kernel
theorem dX5_relax_8 : decode cX5_relax 8 = .ok (.istore_n 3, 1) := by decide +kernel
theorem dX5_relax_9 : decode cX5_relax 9 = .ok (.aload_n 0, 1) := by decide +kernel
theorem dX5_relax_10 : decode cX5_relax 10 = .ok (.getfield 11, 3) := by decide +kernel
theorem dX5_relax_13 : decode cX5_relax 13 = .ok (.iload_n 1, 1) := by decide +kernel
theorem dX5_relax_14 : decode cX5_relax 14 = .ok (.invokevirtual 151, 3) := by decide +kernel
theorem dX5_relax_17 : decode cX5_relax 17 = .ok (.istore 4, 2) := by decide +kernel
theorem dX5_relax_19 : decode cX5_relax 19 = .ok (.aload_n 2, 1) := by decide +kernel
theorem dX5_relax_20 : decode cX5_relax 20 = .ok (.iload_n 3, 1) := by decide +kernel
theorem dX5_relax_21 : decode cX5_relax 21 = .ok (.iaload, 1) := by decide +kernel
theorem dX5_relax_22 : decode cX5_relax 22 = .ok (.aload_n 0, 1) := by decide +kernel
theorem dX5_relax_23 : decode cX5_relax 23 = .ok (.getfield 21, 3) := by decide +kernel
theorem dX5_relax_26 : decode cX5_relax 26 = .ok (.iload_n 1, 1) := by decide +kernel
theorem dX5_relax_27 : decode cX5_relax 27 = .ok (.iaload, 1) := by decide +kernel
theorem dX5_relax_28 : decode cX5_relax 28 = .ok (.iadd, 1) := by decide +kernel
theorem dX5_relax_29 : decode cX5_relax 29 = .ok (.aload_n 2, 1) := by decide +kernel
theorem dX5_relax_30 : decode cX5_relax 30 = .ok (.iload 4, 2) := by decide +kernel
theorem dX5_relax_32 : decode cX5_relax 32 = .ok (.iaload, 1) := by decide +kernel
theorem dX5_relax_33 : decode cX5_relax 33 = .ok (.if_icmp .ge 19, 3) := by decide +kernel
theorem dX5_relax_36 : decode cX5_relax 36 = .ok (.aload_n 2, 1) := by decide +kernel
theorem dX5_relax_37 : decode cX5_relax 37 = .ok (.iload 4, 2) := by decide +kernel
theorem dX5_relax_39 : decode cX5_relax 39 = .ok (.aload_n 2, 1) := by decide +kernel
theorem dX5_relax_40 : decode cX5_relax 40 = .ok (.iload_n 3, 1) := by decide +kernel
theorem dX5_relax_41 : decode cX5_relax 41 = .ok (.iaload, 1) := by decide +kernel
theorem dX5_relax_42 : decode cX5_relax 42 = .ok (.aload_n 0, 1) := by decide +kernel
theorem dX5_relax_43 : decode cX5_relax 43 = .ok (.getfield 21, 3) := by decide +kernel
theorem dX5_relax_46 : decode cX5_relax 46 = .ok (.iload_n 1, 1) := by decide +kernel
theorem dX5_relax_47 : decode cX5_relax 47 = .ok (.iaload, 1) := by decide +kernel
theorem dX5_relax_48 : decode cX5_relax 48 = .ok (.iadd, 1) := by decide +kernel
theorem dX5_relax_49 : decode cX5_relax 49 = .ok (.iastore, 1) := by decide +kernel
theorem dX5_relax_50 : decode cX5_relax 50 = .ok (.iconst 1, 1) := by decide +kernel
theorem dX5_relax_51 : decode cX5_relax 51 = .ok (.ireturn, 1) := by decide +kernel
theorem dX5_relax_52 : decode cX5_relax 52 = .ok (.aload_n 2, 1) := by decide +kernel
theorem dX5_relax_53 : decode cX5_relax 53 = .ok (.iload 4, 2) := by decide +kernel
theorem dX5_relax_55 : decode cX5_relax 55 = .ok (.iaload, 1) := by decide +kernel
theorem dX5_relax_56 : decode cX5_relax 56 = .ok (.aload_n 0, 1) := by decide +kernel
theorem dX5_relax_57 : decode cX5_relax 57 = .ok (.getfield 21, 3) := by decide +kernel
theorem dX5_relax_60 : decode cX5_relax 60 = .ok (.iload_n 1, 1) := by decide +kernel
theorem dX5_relax_61 : decode cX5_relax 61 = .ok (.iaload, 1) := by decide +kernel
theorem dX5_relax_62 : decode cX5_relax 62 = .ok (.iadd, 1) := by decide +kernel
theorem dX5_relax_63 : decode cX5_relax 63 = .ok (.aload_n 2, 1) := by decide +kernel
theorem dX5_relax_64 : decode cX5_relax 64 = .ok (.iload_n 3, 1) := by decide +kernel
theorem dX5_relax_65 : decode cX5_relax 65 = .ok (.iaload, 1) := by decide +kernel
theorem dX5_relax_66 : decode cX5_relax 66 = .ok (.if_icmp .ge 19, 3) := by decide +kernel
theorem dX5_relax_69 : decode cX5_relax 69 = .ok (.aload_n 2, 1) := by decide +kernel
theorem dX5_relax_70 : decode cX5_relax 70 = .ok (.iload_n 3, 1) := by decide +kernel
theorem dX5_relax_71 : decode cX5_relax 71 = .ok (.aload_n 2, 1) := by decide +kernel
theorem dX5_relax_72 : decode cX5_relax 72 = .ok (.iload 4, 2) := by decide +kernel
theorem dX5_relax_74 : decode cX5_relax 74 = .ok (.iaload, 1) := by decide +kernel
theorem dX5_relax_75 : decode cX5_relax 75 = .ok (.aload_n 0, 1) := by decide +kernel
theorem dX5_relax_76 : decode cX5_relax 76 = .ok (.getfield 21, 3) := by decide +kernel
theorem dX5_relax_79 : decode cX5_relax 79 = .ok (.iload_n 1, 1) := by decide +kernel
theorem dX5_relax_80 : decode cX5_relax 80 = .ok (.iaload, 1) := by decide +kernel
theorem dX5_relax_81 : decode cX5_relax 81 = .ok (.iadd, 1) := by decide +kernel
theorem dX5_relax_82 : decode cX5_relax 82 = .ok (.iastore, 1) := by decide +kernel
theorem dX5_relax_83 : decode cX5_relax 83 = .ok (.iconst 1, 1) := by decide +kernel
theorem dX5_relax_84 : decode cX5_relax 84 = .ok (.ireturn, 1) := by decide +kernel
theorem dX5_relax_85 : decode cX5_relax 85 = .ok (.iconst 0, 1) := by decide +kernel
theorem dX5_relax_86 : decode cX5_relax 86 = .ok (.ireturn, 1) := by decide +kernel
theorem dX5_measureSpans_0 : decode cX5_measureSpans 0 = .ok (.aload_n 0, 1) := by decide +kernel
theorem dX5_measureSpans_1 : decode cX5_measureSpans 1 = .ok (.iload_n 1, 1) := by decide +kernel
theorem dX5_measureSpans_2 : decode cX5_measureSpans 2 = .ok (.invokevirtual 60, 3) := by decide +kernel
theorem dX5_measureSpans_5 : decode cX5_measureSpans 5 = .ok (.iconst 0, 1) := by decide +kernel
theorem dX5_measureSpans_6 : decode cX5_measureSpans 6 = .ok (.istore_n 2, 1) := by decide +kernel
theorem dX5_measureSpans_7 : decode cX5_measureSpans 7 = .ok (.iload_n 2, 1) := by decide +kernel
theorem dX5_measureSpans_8 : decode cX5_measureSpans 8 = .ok (.aload_n 0, 1) := by decide +kernel
theorem dX5_measureSpans_9 : decode cX5_measureSpans 9 = .ok (.getfield 11, 3) := by decide +kernel
theorem dX5_measureSpans_12 : decode cX5_measureSpans 12 = .ok (.invokevirtual 110, 3) := by decide +kernel
theorem dX5_measureSpans_15 : decode cX5_measureSpans 15 = .ok (.if_icmp .ge 36, 3) := by decide +kernel
theorem dX5_measureSpans_18 : decode cX5_measureSpans 18 = .ok (.aload_n 0, 1) := by decide +kernel
theorem dX5_measureSpans_19 : decode cX5_measureSpans 19 = .ok (.iload_n 2, 1) := by decide +kernel
theorem dX5_measureSpans_20 : decode cX5_measureSpans 20 = .ok (.aload_n 0, 1) := by decide +kernel
theorem dX5_measureSpans_21 : decode cX5_measureSpans 21 = .ok (.getfield 24, 3) := by decide +kernel
theorem dX5_measureSpans_24 : decode cX5_measureSpans 24 = .ok (.invokevirtual 64, 3) := by decide +kernel
theorem dX5_measureSpans_27 : decode cX5_measureSpans 27 = .ok (.aload_n 0, 1) := by decide +kernel
theorem dX5_measureSpans_28 : decode cX5_measureSpans 28 = .ok (.getfield 24, 3) := by decide +kernel
theorem dX5_measureSpans_31 : decode cX5_measureSpans 31 = .ok (.iconst 0, 1) := by decide +kernel
theorem dX5_measureSpans_32 : decode cX5_measureSpans 32 = .ok (.aload_n 0, 1) := by decide +kernel
theorem dX5_measureSpans_33 : decode cX5_measureSpans 33 = .ok (.getfield 30, 3) := by decide +kernel
theorem dX5_measureSpans_36 : decode cX5_measureSpans 36 = .ok (.iload_n 2, 1) := by decide +kernel
theorem dX5_measureSpans_37 : decode cX5_measureSpans 37 = .ok (.bipush 8, 2) := by decide +kernel
theorem dX5_measureSpans_39 : decode cX5_measureSpans 39 = .ok (.imul, 1) := by decide +kernel
theorem dX5_measureSpans_40 : decode cX5_measureSpans 40 = .ok (.bipush 8, 2) := by decide +kernel
theorem dX5_measureSpans_42 : decode cX5_measureSpans 42 = .ok (.invokestatic 154, 3) := by decide +kernel
theorem dX5_measureSpans_45 : decode cX5_measureSpans 45 = .ok (.iinc 2 1, 3) := by decide +kernel
theorem dX5_measureSpans_48 : decode cX5_measureSpans 48 = .ok (.goto (-41), 3) := by decide +kernel
theorem dX5_measureSpans_51 : decode cX5_measureSpans 51 = .ok (.return_, 1) := by decide +kernel
theorem dX5_listWanted_0 : decode cX5_listWanted 0 = .ok (.iconst 0, 1) := by decide +kernel
theorem dX5_listWanted_1 : decode cX5_listWanted 1 = .ok (.istore_n 2, 1) := by decide +kernel
theorem dX5_listWanted_2 : decode cX5_listWanted 2 = .ok (.iconst 0, 1) := by decide +kernel
theorem dX5_listWanted_3 : decode cX5_listWanted 3 = .ok (.istore_n 3, 1) := by decide +kernel
theorem dX5_listWanted_4 : decode cX5_listWanted 4 = .ok (.iload_n 3, 1) := by decide +kernel
theorem dX5_listWanted_5 : decode cX5_listWanted 5 = .ok (.aload_n 0, 1) := by decide +kernel
theorem dX5_listWanted_6 : decode cX5_listWanted 6 = .ok (.getfield 11, 3) := by decide +kernel
theorem dX5_listWanted_9 : decode cX5_listWanted 9 = .ok (.invokevirtual 72, 3) := by decide +kernel
theorem dX5_listWanted_12 : decode cX5_listWanted 12 = .ok (.if_icmp .ge 39, 3) := by decide +kernel
theorem dX5_listWanted_15 : decode cX5_listWanted 15 = .ok (.iload_n 1, 1) := by decide +kernel
theorem dX5_listWanted_16 : decode cX5_listWanted 16 = .ok (.iload_n 3, 1) := by decide +kernel
theorem dX5_listWanted_17 : decode cX5_listWanted 17 = .ok (.ishr, 1) := by decide +kernel
theorem dX5_listWanted_18 : decode cX5_listWanted 18 = .ok (.iconst 1, 1) := by decide +kernel
theorem dX5_listWanted_19 : decode cX5_listWanted 19 = .ok (.iand, 1) := by decide +kernel
theorem dX5_listWanted_20 : decode cX5_listWanted 20 = .ok (.iconst 1, 1) := by decide +kernel
theorem dX5_listWanted_21 : decode cX5_listWanted 21 = .ok (.if_icmp .ne 24, 3) := by decide +kernel
theorem dX5_listWanted_24 : decode cX5_listWanted 24 = .ok (.aload_n 0, 1) := by decide +kernel
theorem dX5_listWanted_25 : decode cX5_listWanted 25 = .ok (.getfield 11, 3) := by decide +kernel
theorem dX5_listWanted_28 : decode cX5_listWanted 28 = .ok (.iload_n 3, 1) := by decide +kernel
theorem dX5_listWanted_29 : decode cX5_listWanted 29 = .ok (.invokevirtual 76, 3) := by decide +kernel
theorem dX5_listWanted_32 : decode cX5_listWanted 32 = .ok (.ifCond .eq 13, 3) := by decide +kernel
theorem dX5_listWanted_35 : decode cX5_listWanted 35 = .ok (.aload_n 0, 1) := by decide +kernel
theorem dX5_listWanted_36 : decode cX5_listWanted 36 = .ok (.getfield 33, 3) := by decide +kernel
theorem dX5_listWanted_39 : decode cX5_listWanted 39 = .ok (.iload_n 2, 1) := by decide +kernel
theorem dX5_listWanted_40 : decode cX5_listWanted 40 = .ok (.iload_n 3, 1) := by decide +kernel
theorem dX5_listWanted_41 : decode cX5_listWanted 41 = .ok (.iastore, 1) := by decide +kernel
theorem dX5_listWanted_42 : decode cX5_listWanted 42 = .ok (.iinc 2 1, 3) := by decide +kernel
theorem dX5_listWanted_45 : decode cX5_listWanted 45 = .ok (.iinc 3 1, 3) := by decide +kernel
theorem dX5_listWanted_48 : decode cX5_listWanted 48 = .ok (.goto (-44), 3) := by decide +kernel
theorem dX5_listWanted_51 : decode cX5_listWanted 51 = .ok (.iload_n 2, 1) := by decide +kernel
theorem dX5_listWanted_52 : decode cX5_listWanted 52 = .ok (.ireturn, 1) := by decide +kernel
theorem dX5_doWanted_0 : decode cX5_doWanted 0 = .ok (.aload_n 0, 1) := by decide +kernel
theorem dX5_doWanted_1 : decode cX5_doWanted 1 = .ok (.getfield 33, 3) := by decide +kernel
theorem dX5_doWanted_4 : decode cX5_doWanted 4 = .ok (.iload_n 2, 1) := by decide +kernel
theorem dX5_doWanted_5 : decode cX5_doWanted 5 = .ok (.iaload, 1) := by decide +kernel
theorem dX5_doWanted_6 : decode cX5_doWanted 6 = .ok (.istore_n 3, 1) := by decide +kernel
theorem dX5_doWanted_7 : decode cX5_doWanted 7 = .ok (.iload_n 1, 1) := by decide +kernel
theorem dX5_doWanted_8 : decode cX5_doWanted 8 = .ok (.iconst 1, 1) := by decide +kernel
theorem dX5_doWanted_9 : decode cX5_doWanted 9 = .ok (.iload_n 2, 1) := by decide +kernel
theorem dX5_doWanted_10 : decode cX5_doWanted 10 = .ok (.ishl, 1) := by decide +kernel
theorem dX5_doWanted_11 : decode cX5_doWanted 11 = .ok (.ior, 1) := by decide +kernel
theorem dX5_doWanted_12 : decode cX5_doWanted 12 = .ok (.bipush 8, 2) := by decide +kernel
theorem dX5_doWanted_14 : decode cX5_doWanted 14 = .ok (.imul, 1) := by decide +kernel
theorem dX5_doWanted_15 : decode cX5_doWanted 15 = .ok (.istore 4, 2) := by decide +kernel
theorem dX5_doWanted_17 : decode cX5_doWanted 17 = .ok (.aload_n 0, 1) := by decide +kernel
theorem dX5_doWanted_18 : decode cX5_doWanted 18 = .ok (.getfield 11, 3) := by decide +kernel
theorem dX5_doWanted_21 : decode cX5_doWanted 21 = .ok (.iload_n 3, 1) := by decide +kernel
theorem dX5_doWanted_22 : decode cX5_doWanted 22 = .ok (.invokevirtual 148, 3) := by decide +kernel
theorem dX5_doWanted_25 : decode cX5_doWanted 25 = .ok (.istore 5, 2) := by decide +kernel
theorem dX5_doWanted_27 : decode cX5_doWanted 27 = .ok (.aload_n 0, 1) := by decide +kernel
theorem dX5_doWanted_28 : decode cX5_doWanted 28 = .ok (.getfield 11, 3) := by decide +kernel
theorem dX5_doWanted_31 : decode cX5_doWanted 31 = .ok (.iload_n 3, 1) := by decide +kernel
theorem dX5_doWanted_32 : decode cX5_doWanted 32 = .ok (.invokevirtual 151, 3) := by decide +kernel
theorem dX5_doWanted_35 : decode cX5_doWanted 35 = .ok (.istore 6, 2) := by decide +kernel
theorem dX5_doWanted_37 : decode cX5_doWanted 37 = .ok (.iconst 0, 1) := by decide +kernel
theorem dX5_doWanted_38 : decode cX5_doWanted 38 = .ok (.istore 7, 2) := by decide +kernel
theorem dX5_doWanted_40 : decode cX5_doWanted 40 = .ok (.iload 7, 2) := by decide +kernel
theorem dX5_doWanted_42 : decode cX5_doWanted 42 = .ok (.aload_n 0, 1) := by decide +kernel
theorem dX5_doWanted_43 : decode cX5_doWanted 43 = .ok (.getfield 11, 3) := by decide +kernel
theorem dX5_doWanted_46 : decode cX5_doWanted 46 = .ok (.invokevirtual 110, 3) := by decide +kernel
theorem dX5_doWanted_49 : decode cX5_doWanted 49 = .ok (.if_icmp .ge 118, 3) := by decide +kernel
theorem dX5_doWanted_52 : decode cX5_doWanted 52 = .ok (.aload_n 0, 1) := by decide +kernel
theorem dX5_doWanted_53 : decode cX5_doWanted 53 = .ok (.getfield 36, 3) := by decide +kernel
theorem dX5_doWanted_56 : decode cX5_doWanted 56 = .ok (.iload_n 1, 1) := by decide +kernel
theorem dX5_doWanted_57 : decode cX5_doWanted 57 = .ok (.bipush 8, 2) := by decide +kernel
theorem dX5_doWanted_59 : decode cX5_doWanted 59 = .ok (.imul, 1) := by decide +kernel
theorem dX5_doWanted_60 : decode cX5_doWanted 60 = .ok (.iload 7, 2) := by decide +kernel
theorem dX5_doWanted_62 : decode cX5_doWanted 62 = .ok (.iadd, 1) := by decide +kernel
theorem dX5_doWanted_63 : decode cX5_doWanted 63 = .ok (.iaload, 1) := by decide +kernel
theorem dX5_doWanted_64 : decode cX5_doWanted 64 = .ok (.aload_n 0, 1) := by decide +kernel
theorem dX5_doWanted_65 : decode cX5_doWanted 65 = .ok (.getfield 11, 3) := by decide +kernel
theorem dX5_doWanted_68 : decode cX5_doWanted 68 = .ok (.iload_n 3, 1) := by decide +kernel
theorem dX5_doWanted_69 : decode cX5_doWanted 69 = .ok (.invokevirtual 141, 3) := by decide +kernel
theorem dX5_doWanted_72 : decode cX5_doWanted 72 = .ok (.iadd, 1) := by decide +kernel
theorem dX5_doWanted_73 : decode cX5_doWanted 73 = .ok (.istore 8, 2) := by decide +kernel
theorem dX5_doWanted_75 : decode cX5_doWanted 75 = .ok (.iload 8, 2) := by decide +kernel
theorem dX5_doWanted_77 : decode cX5_doWanted 77 = .ok (.aload_n 0, 1) := by decide +kernel
theorem dX5_doWanted_78 : decode cX5_doWanted 78 = .ok (.getfield 30, 3) := by decide +kernel
theorem dX5_doWanted_81 : decode cX5_doWanted 81 = .ok (.iload 7, 2) := by decide +kernel
theorem dX5_doWanted_83 : decode cX5_doWanted 83 = .ok (.bipush 8, 2) := by decide +kernel
theorem dX5_doWanted_85 : decode cX5_doWanted 85 = .ok (.imul, 1) := by decide +kernel
theorem dX5_doWanted_86 : decode cX5_doWanted 86 = .ok (.iload 5, 2) := by decide +kernel
theorem dX5_doWanted_88 : decode cX5_doWanted 88 = .ok (.iadd, 1) := by decide +kernel
theorem dX5_doWanted_89 : decode cX5_doWanted 89 = .ok (.iaload, 1) := by decide +kernel
theorem dX5_doWanted_90 : decode cX5_doWanted 90 = .ok (.iadd, 1) := by decide +kernel
theorem dX5_doWanted_91 : decode cX5_doWanted 91 = .ok (.istore 9, 2) := by decide +kernel
theorem dX5_doWanted_93 : decode cX5_doWanted 93 = .ok (.iload 8, 2) := by decide +kernel
theorem dX5_doWanted_95 : decode cX5_doWanted 95 = .ok (.aload_n 0, 1) := by decide +kernel
theorem dX5_doWanted_96 : decode cX5_doWanted 96 = .ok (.getfield 30, 3) := by decide +kernel
theorem dX5_doWanted_99 : decode cX5_doWanted 99 = .ok (.iload 7, 2) := by decide +kernel
theorem dX5_doWanted_101 : decode cX5_doWanted 101 = .ok (.bipush 8, 2) := by decide +kernel
theorem dX5_doWanted_103 : decode cX5_doWanted 103 = .ok (.imul, 1) := by decide +kernel
theorem dX5_doWanted_104 : decode cX5_doWanted 104 = .ok (.iload 6, 2) := by decide +kernel
theorem dX5_doWanted_106 : decode cX5_doWanted 106 = .ok (.iadd, 1) := by decide +kernel
theorem dX5_doWanted_107 : decode cX5_doWanted 107 = .ok (.iaload, 1) := by decide +kernel
theorem dX5_doWanted_108 : decode cX5_doWanted 108 = .ok (.iadd, 1) := by decide +kernel
theorem dX5_doWanted_109 : decode cX5_doWanted 109 = .ok (.istore 10, 2) := by decide +kernel
theorem dX5_doWanted_111 : decode cX5_doWanted 111 = .ok (.aload_n 0, 1) := by decide +kernel
theorem dX5_doWanted_112 : decode cX5_doWanted 112 = .ok (.getfield 36, 3) := by decide +kernel
theorem dX5_doWanted_115 : decode cX5_doWanted 115 = .ok (.iload 4, 2) := by decide +kernel
theorem dX5_doWanted_117 : decode cX5_doWanted 117 = .ok (.iload 6, 2) := by decide +kernel
theorem dX5_doWanted_119 : decode cX5_doWanted 119 = .ok (.iadd, 1) := by decide +kernel
theorem dX5_doWanted_120 : decode cX5_doWanted 120 = .ok (.aload_n 0, 1) := by decide +kernel
theorem dX5_doWanted_121 : decode cX5_doWanted 121 = .ok (.getfield 36, 3) := by decide +kernel
theorem dX5_doWanted_124 : decode cX5_doWanted 124 = .ok (.iload 4, 2) := by decide +kernel
theorem dX5_doWanted_126 : decode cX5_doWanted 126 = .ok (.iload 6, 2) := by decide +kernel
theorem dX5_doWanted_128 : decode cX5_doWanted 128 = .ok (.iadd, 1) := by decide +kernel
theorem dX5_doWanted_129 : decode cX5_doWanted 129 = .ok (.iaload, 1) := by decide +kernel
theorem dX5_doWanted_130 : decode cX5_doWanted 130 = .ok (.iload 9, 2) := by decide +kernel
theorem dX5_doWanted_132 : decode cX5_doWanted 132 = .ok (.invokestatic 83, 3) := by decide +kernel
theorem dX5_doWanted_135 : decode cX5_doWanted 135 = .ok (.iastore, 1) := by decide +kernel
theorem dX5_doWanted_136 : decode cX5_doWanted 136 = .ok (.aload_n 0, 1) := by decide +kernel
theorem dX5_doWanted_137 : decode cX5_doWanted 137 = .ok (.getfield 36, 3) := by decide +kernel
theorem dX5_doWanted_140 : decode cX5_doWanted 140 = .ok (.iload 4, 2) := by decide +kernel
theorem dX5_doWanted_142 : decode cX5_doWanted 142 = .ok (.iload 5, 2) := by decide +kernel
theorem dX5_doWanted_144 : decode cX5_doWanted 144 = .ok (.iadd, 1) := by decide +kernel
theorem dX5_doWanted_145 : decode cX5_doWanted 145 = .ok (.aload_n 0, 1) := by decide +kernel
theorem dX5_doWanted_146 : decode cX5_doWanted 146 = .ok (.getfield 36, 3) := by decide +kernel
theorem dX5_doWanted_149 : decode cX5_doWanted 149 = .ok (.iload 4, 2) := by decide +kernel
theorem dX5_doWanted_151 : decode cX5_doWanted 151 = .ok (.iload 5, 2) := by decide +kernel
theorem dX5_doWanted_153 : decode cX5_doWanted 153 = .ok (.iadd, 1) := by decide +kernel
theorem dX5_doWanted_154 : decode cX5_doWanted 154 = .ok (.iaload, 1) := by decide +kernel
theorem dX5_doWanted_155 : decode cX5_doWanted 155 = .ok (.iload 10, 2) := by decide +kernel
theorem dX5_doWanted_157 : decode cX5_doWanted 157 = .ok (.invokestatic 83, 3) := by decide +kernel
theorem dX5_doWanted_160 : decode cX5_doWanted 160 = .ok (.iastore, 1) := by decide +kernel
theorem dX5_doWanted_161 : decode cX5_doWanted 161 = .ok (.iinc 7 1, 3) := by decide +kernel
theorem dX5_doWanted_164 : decode cX5_doWanted 164 = .ok (.goto (-124), 3) := by decide +kernel
theorem dX5_doWanted_167 : decode cX5_doWanted 167 = .ok (.return_, 1) := by decide +kernel
theorem dX5_noteEnds_0 : decode cX5_noteEnds 0 = .ok (.iconst 0, 1) := by decide +kernel
theorem dX5_noteEnds_1 : decode cX5_noteEnds 1 = .ok (.istore_n 1, 1) := by decide +kernel
theorem dX5_noteEnds_2 : decode cX5_noteEnds 2 = .ok (.iload_n 1, 1) := by decide +kernel
theorem dX5_noteEnds_3 : decode cX5_noteEnds 3 = .ok (.aload_n 0, 1) := by decide +kernel
theorem dX5_noteEnds_4 : decode cX5_noteEnds 4 = .ok (.getfield 11, 3) := by decide +kernel
theorem dX5_noteEnds_7 : decode cX5_noteEnds 7 = .ok (.invokevirtual 72, 3) := by decide +kernel
theorem dX5_noteEnds_10 : decode cX5_noteEnds 10 = .ok (.if_icmp .ge 36, 3) := by decide +kernel
theorem dX5_noteEnds_13 : decode cX5_noteEnds 13 = .ok (.aload_n 0, 1) := by decide +kernel
theorem dX5_noteEnds_14 : decode cX5_noteEnds 14 = .ok (.getfield 17, 3) := by decide +kernel
theorem dX5_noteEnds_17 : decode cX5_noteEnds 17 = .ok (.iload_n 1, 1) := by decide +kernel
theorem dX5_noteEnds_18 : decode cX5_noteEnds 18 = .ok (.iconst 1, 1) := by decide +kernel
theorem dX5_noteEnds_19 : decode cX5_noteEnds 19 = .ok (.aload_n 0, 1) := by decide +kernel
theorem dX5_noteEnds_20 : decode cX5_noteEnds 20 = .ok (.getfield 11, 3) := by decide +kernel
theorem dX5_noteEnds_23 : decode cX5_noteEnds 23 = .ok (.iload_n 1, 1) := by decide +kernel
theorem dX5_noteEnds_24 : decode cX5_noteEnds 24 = .ok (.invokevirtual 148, 3) := by decide +kernel
theorem dX5_noteEnds_27 : decode cX5_noteEnds 27 = .ok (.ishl, 1) := by decide +kernel
theorem dX5_noteEnds_28 : decode cX5_noteEnds 28 = .ok (.iconst 1, 1) := by decide +kernel
theorem dX5_noteEnds_29 : decode cX5_noteEnds 29 = .ok (.aload_n 0, 1) := by decide +kernel
theorem dX5_noteEnds_30 : decode cX5_noteEnds 30 = .ok (.getfield 11, 3) := by decide +kernel
theorem dX5_noteEnds_33 : decode cX5_noteEnds 33 = .ok (.iload_n 1, 1) := by decide +kernel
theorem dX5_noteEnds_34 : decode cX5_noteEnds 34 = .ok (.invokevirtual 151, 3) := by decide +kernel
theorem dX5_noteEnds_37 : decode cX5_noteEnds 37 = .ok (.ishl, 1) := by decide +kernel
theorem dX5_noteEnds_38 : decode cX5_noteEnds 38 = .ok (.ior, 1) := by decide +kernel
theorem dX5_noteEnds_39 : decode cX5_noteEnds 39 = .ok (.iastore, 1) := by decide +kernel
theorem dX5_noteEnds_40 : decode cX5_noteEnds 40 = .ok (.iinc 1 1, 3) := by decide +kernel
theorem dX5_noteEnds_43 : decode cX5_noteEnds 43 = .ok (.goto (-41), 3) := by decide +kernel
theorem dX5_noteEnds_46 : decode cX5_noteEnds 46 = .ok (.return_, 1) := by decide +kernel
theorem dX5_reaches_0 : decode cX5_reaches 0 = .ok (.aload_n 0, 1) := by decide +kernel
theorem dX5_reaches_1 : decode cX5_reaches 1 = .ok (.iload_n 1, 1) := by decide +kernel
theorem dX5_reaches_2 : decode cX5_reaches 2 = .ok (.iload_n 2, 1) := by decide +kernel
theorem dX5_reaches_3 : decode cX5_reaches 3 = .ok (.invokevirtual 49, 3) := by decide +kernel
theorem dX5_reaches_6 : decode cX5_reaches 6 = .ok (.iload_n 3, 1) := by decide +kernel
theorem dX5_reaches_7 : decode cX5_reaches 7 = .ok (.ishr, 1) := by decide +kernel
theorem dX5_reaches_8 : decode cX5_reaches 8 = .ok (.iconst 1, 1) := by decide +kernel
theorem dX5_reaches_9 : decode cX5_reaches 9 = .ok (.iand, 1) := by decide +kernel
theorem dX5_reaches_10 : decode cX5_reaches 10 = .ok (.iconst 1, 1) := by decide +kernel
theorem dX5_reaches_11 : decode cX5_reaches 11 = .ok (.if_icmp .ne 7, 3) := by decide +kernel
theorem dX5_reaches_14 : decode cX5_reaches 14 = .ok (.iconst 1, 1) := by decide +kernel
theorem dX5_reaches_15 : decode cX5_reaches 15 = .ok (.goto 4, 3) := by decide +kernel
theorem dX5_reaches_18 : decode cX5_reaches 18 = .ok (.iconst 0, 1) := by decide +kernel
theorem dX5_reaches_19 : decode cX5_reaches 19 = .ok (.ireturn, 1) := by decide +kernel
theorem dX5_flood_0 : decode cX5_flood 0 = .ok (.iconst 1, 1) := by decide +kernel
theorem dX5_flood_1 : decode cX5_flood 1 = .ok (.iload_n 1, 1) := by decide +kernel
theorem dX5_flood_2 : decode cX5_flood 2 = .ok (.ishl, 1) := by decide +kernel
theorem dX5_flood_3 : decode cX5_flood 3 = .ok (.istore_n 3, 1) := by decide +kernel
theorem dX5_flood_4 : decode cX5_flood 4 = .ok (.iconst 1, 1) := by decide +kernel
theorem dX5_flood_5 : decode cX5_flood 5 = .ok (.istore 4, 2) := by decide +kernel
theorem dX5_flood_7 : decode cX5_flood 7 = .ok (.iconst 0, 1) := by decide +kernel
theorem dX5_flood_8 : decode cX5_flood 8 = .ok (.istore 5, 2) := by decide +kernel
theorem dX5_flood_10 : decode cX5_flood 10 = .ok (.iload 5, 2) := by decide +kernel
theorem dX5_flood_12 : decode cX5_flood 12 = .ok (.bipush 8, 2) := by decide +kernel
theorem dX5_flood_14 : decode cX5_flood 14 = .ok (.if_icmp .ge 83, 3) := by decide +kernel
theorem dX5_flood_17 : decode cX5_flood 17 = .ok (.iload 4, 2) := by decide +kernel
theorem dX5_flood_19 : decode cX5_flood 19 = .ok (.ifCond .eq 78, 3) := by decide +kernel
theorem dX5_flood_22 : decode cX5_flood 22 = .ok (.iload_n 3, 1) := by decide +kernel
theorem dX5_flood_23 : decode cX5_flood 23 = .ok (.istore 6, 2) := by decide +kernel
theorem dX5_flood_25 : decode cX5_flood 25 = .ok (.iconst 0, 1) := by decide +kernel
theorem dX5_flood_26 : decode cX5_flood 26 = .ok (.istore 7, 2) := by decide +kernel
theorem dX5_flood_28 : decode cX5_flood 28 = .ok (.iload 7, 2) := by decide +kernel
theorem dX5_flood_30 : decode cX5_flood 30 = .ok (.aload_n 0, 1) := by decide +kernel
theorem dX5_flood_31 : decode cX5_flood 31 = .ok (.getfield 11, 3) := by decide +kernel
theorem dX5_flood_34 : decode cX5_flood 34 = .ok (.invokevirtual 72, 3) := by decide +kernel
theorem dX5_flood_37 : decode cX5_flood 37 = .ok (.if_icmp .ge 41, 3) := by decide +kernel
theorem dX5_flood_40 : decode cX5_flood 40 = .ok (.iload_n 2, 1) := by decide +kernel
theorem dX5_flood_41 : decode cX5_flood 41 = .ok (.iload 7, 2) := by decide +kernel
theorem dX5_flood_43 : decode cX5_flood 43 = .ok (.ishr, 1) := by decide +kernel
theorem dX5_flood_44 : decode cX5_flood 44 = .ok (.iconst 1, 1) := by decide +kernel
theorem dX5_flood_45 : decode cX5_flood 45 = .ok (.iand, 1) := by decide +kernel
theorem dX5_flood_46 : decode cX5_flood 46 = .ok (.iconst 1, 1) := by decide +kernel
theorem dX5_flood_47 : decode cX5_flood 47 = .ok (.if_icmp .ne 25, 3) := by decide +kernel
theorem dX5_flood_50 : decode cX5_flood 50 = .ok (.iload_n 3, 1) := by decide +kernel
theorem dX5_flood_51 : decode cX5_flood 51 = .ok (.aload_n 0, 1) := by decide +kernel
theorem dX5_flood_52 : decode cX5_flood 52 = .ok (.getfield 17, 3) := by decide +kernel
theorem dX5_flood_55 : decode cX5_flood 55 = .ok (.iload 7, 2) := by decide +kernel
theorem dX5_flood_57 : decode cX5_flood 57 = .ok (.iaload, 1) := by decide +kernel
theorem dX5_flood_58 : decode cX5_flood 58 = .ok (.iand, 1) := by decide +kernel
theorem dX5_flood_59 : decode cX5_flood 59 = .ok (.ifCond .eq 13, 3) := by decide +kernel
theorem dX5_flood_62 : decode cX5_flood 62 = .ok (.iload_n 3, 1) := by decide +kernel
theorem dX5_flood_63 : decode cX5_flood 63 = .ok (.aload_n 0, 1) := by decide +kernel
theorem dX5_flood_64 : decode cX5_flood 64 = .ok (.getfield 17, 3) := by decide +kernel
theorem dX5_flood_67 : decode cX5_flood 67 = .ok (.iload 7, 2) := by decide +kernel
theorem dX5_flood_69 : decode cX5_flood 69 = .ok (.iaload, 1) := by decide +kernel
theorem dX5_flood_70 : decode cX5_flood 70 = .ok (.ior, 1) := by decide +kernel
theorem dX5_flood_71 : decode cX5_flood 71 = .ok (.istore_n 3, 1) := by decide +kernel
theorem dX5_flood_72 : decode cX5_flood 72 = .ok (.iinc 7 1, 3) := by decide +kernel
theorem dX5_flood_75 : decode cX5_flood 75 = .ok (.goto (-47), 3) := by decide +kernel
theorem dX5_flood_78 : decode cX5_flood 78 = .ok (.iload_n 3, 1) := by decide +kernel
theorem dX5_flood_79 : decode cX5_flood 79 = .ok (.iload 6, 2) := by decide +kernel
theorem dX5_flood_81 : decode cX5_flood 81 = .ok (.if_icmp .eq 7, 3) := by decide +kernel
theorem dX5_flood_84 : decode cX5_flood 84 = .ok (.iconst 1, 1) := by decide +kernel
theorem dX5_flood_85 : decode cX5_flood 85 = .ok (.goto 4, 3) := by decide +kernel
theorem dX5_flood_88 : decode cX5_flood 88 = .ok (.iconst 0, 1) := by decide +kernel
theorem dX5_flood_89 : decode cX5_flood 89 = .ok (.istore 4, 2) := by decide +kernel
theorem dX5_flood_91 : decode cX5_flood 91 = .ok (.iinc 5 1, 3) := by decide +kernel
theorem dX5_flood_94 : decode cX5_flood 94 = .ok (.goto (-84), 3) := by decide +kernel
theorem dX5_flood_97 : decode cX5_flood 97 = .ok (.iload_n 3, 1) := by decide +kernel
theorem dX5_flood_98 : decode cX5_flood 98 = .ok (.ireturn, 1) := by decide +kernel
theorem dX5_power_0 : decode cX5_power 0 = .ok (.lconst 1, 1) := by decide +kernel
theorem dX5_power_1 : decode cX5_power 1 = .ok (.lstore_n 2, 1) := by decide +kernel
theorem dX5_power_2 : decode cX5_power 2 = .ok (.iconst 0, 1) := by decide +kernel
theorem dX5_power_3 : decode cX5_power 3 = .ok (.istore 4, 2) := by decide +kernel
theorem dX5_power_5 : decode cX5_power 5 = .ok (.iload 4, 2) := by decide +kernel
theorem dX5_power_7 : decode cX5_power 7 = .ok (.iload_n 1, 1) := by decide +kernel
theorem dX5_power_8 : decode cX5_power 8 = .ok (.if_icmp .ge 14, 3) := by decide +kernel
theorem dX5_power_11 : decode cX5_power 11 = .ok (.lload_n 2, 1) := by decide +kernel
theorem dX5_power_12 : decode cX5_power 12 = .ok (.iload_n 0, 1) := by decide +kernel
theorem dX5_power_13 : decode cX5_power 13 = .ok (.i2l, 1) := by decide +kernel
theorem dX5_power_14 : decode cX5_power 14 = .ok (.lmul, 1) := by decide +kernel
theorem dX5_power_15 : decode cX5_power 15 = .ok (.lstore_n 2, 1) := by decide +kernel
theorem dX5_power_16 : decode cX5_power 16 = .ok (.iinc 4 1, 3) := by decide +kernel
theorem dX5_power_19 : decode cX5_power 19 = .ok (.goto (-14), 3) := by decide +kernel
theorem dX5_power_22 : decode cX5_power 22 = .ok (.lload_n 2, 1) := by decide +kernel
theorem dX5_power_23 : decode cX5_power 23 = .ok (.lreturn, 1) := by decide +kernel
theorem dX5_commonDivisor_0 : decode cX5_commonDivisor 0 = .ok (.lload_n 0, 1) := by decide +kernel
theorem dX5_commonDivisor_1 : decode cX5_commonDivisor 1 = .ok (.lstore 4, 2) := by decide +kernel
theorem dX5_commonDivisor_3 : decode cX5_commonDivisor 3 = .ok (.lload_n 2, 1) := by decide +kernel
theorem dX5_commonDivisor_4 : decode cX5_commonDivisor 4 = .ok (.lstore 6, 2) := by decide +kernel
theorem dX5_commonDivisor_6 : decode cX5_commonDivisor 6 = .ok (.iconst 0, 1) := by decide +kernel
theorem dX5_commonDivisor_7 : decode cX5_commonDivisor 7 = .ok (.istore 8, 2) := by decide +kernel
theorem dX5_commonDivisor_9 : decode cX5_commonDivisor 9 = .ok (.iload 8, 2) := by decide +kernel
theorem dX5_commonDivisor_11 : decode cX5_commonDivisor 11 = .ok (.bipush 100, 2) := by decide +kernel
theorem dX5_commonDivisor_13 : decode cX5_commonDivisor 13 = .ok (.if_icmp .ge 31, 3) := by decide +kernel
theorem dX5_commonDivisor_16 : decode cX5_commonDivisor 16 = .ok (.lload 6, 2) := by decide +kernel
theorem dX5_commonDivisor_18 : decode cX5_commonDivisor 18 = .ok (.lconst 0, 1) := by decide +kernel
theorem dX5_commonDivisor_19 : decode cX5_commonDivisor 19 = .ok (.lcmp, 1) := by decide +kernel
theorem dX5_commonDivisor_20 : decode cX5_commonDivisor 20 = .ok (.ifCond .eq 24, 3) := by decide +kernel
theorem dX5_commonDivisor_23 : decode cX5_commonDivisor 23 = .ok (.lload 4, 2) := by decide +kernel
theorem dX5_commonDivisor_25 : decode cX5_commonDivisor 25 = .ok (.lload 6, 2) := by decide +kernel
theorem dX5_commonDivisor_27 : decode cX5_commonDivisor 27 = .ok (.lrem, 1) := by decide +kernel
theorem dX5_commonDivisor_28 : decode cX5_commonDivisor 28 = .ok (.lstore 9, 2) := by decide +kernel
theorem dX5_commonDivisor_30 : decode cX5_commonDivisor 30 = .ok (.lload 6, 2) := by decide +kernel
theorem dX5_commonDivisor_32 : decode cX5_commonDivisor 32 = .ok (.lstore 4, 2) := by decide +kernel
theorem dX5_commonDivisor_34 : decode cX5_commonDivisor 34 = .ok (.lload 9, 2) := by decide +kernel
theorem dX5_commonDivisor_36 : decode cX5_commonDivisor 36 = .ok (.lstore 6, 2) := by decide +kernel
theorem dX5_commonDivisor_38 : decode cX5_commonDivisor 38 = .ok (.iinc 8 1, 3) := by decide +kernel
theorem dX5_commonDivisor_41 : decode cX5_commonDivisor 41 = .ok (.goto (-32), 3) := by decide +kernel
theorem dX5_commonDivisor_44 : decode cX5_commonDivisor 44 = .ok (.lload 4, 2) := by decide +kernel
theorem dX5_commonDivisor_46 : decode cX5_commonDivisor 46 = .ok (.lreturn, 1) := by decide +kernel
theorem dX6_init_0 : decode cX6_init 0 = .ok (.aload_n 0, 1) := by decide +kernel
theorem dX6_init_1 : decode cX6_init 1 = .ok (.invokespecial 1, 3) := by decide +kernel
theorem dX6_init_4 : decode cX6_init 4 = .ok (.aload_n 0, 1) := by decide +kernel
theorem dX6_init_5 : decode cX6_init 5 = .ok (.bipush 8, 2) := by decide +kernel
theorem dX6_init_7 : decode cX6_init 7 = .ok (.bipush 40, 2) := by decide +kernel
theorem dX6_init_9 : decode cX6_init 9 = .ok (.multianewarray 9 2, 4) := by decide +kernel
theorem dX6_init_13 : decode cX6_init 13 = .ok (.putfield 11, 3) := by decide +kernel
theorem dX6_init_16 : decode cX6_init 16 = .ok (.aload_n 0, 1) := by decide +kernel
theorem dX6_init_17 : decode cX6_init 17 = .ok (.bipush 8, 2) := by decide +kernel
theorem dX6_init_19 : decode cX6_init 19 = .ok (.newarray .int, 2) := by decide +kernel
theorem dX6_init_21 : decode cX6_init 21 = .ok (.putfield 14, 3) := by decide +kernel
theorem dX6_init_24 : decode cX6_init 24 = .ok (.aload_n 0, 1) := by decide +kernel
theorem dX6_init_25 : decode cX6_init 25 = .ok (.bipush 8, 2) := by decide +kernel
theorem dX6_init_27 : decode cX6_init 27 = .ok (.newarray .int, 2) := by decide +kernel
theorem dX6_init_29 : decode cX6_init 29 = .ok (.putfield 18, 3) := by decide +kernel
theorem dX6_init_32 : decode cX6_init 32 = .ok (.aload_n 0, 1) := by decide +kernel
theorem dX6_init_33 : decode cX6_init 33 = .ok (.getfield 18, 3) := by decide +kernel
theorem dX6_init_36 : decode cX6_init 36 = .ok (.iconst (-1), 1) := by decide +kernel
theorem dX6_init_37 : decode cX6_init 37 = .ok (.invokestatic 21, 3) := by decide +kernel
theorem dX6_init_40 : decode cX6_init 40 = .ok (.return_, 1) := by decide +kernel
theorem dX6_hasNumber_0 : decode cX6_hasNumber 0 = .ok (.iload_n 0, 1) := by decide +kernel
theorem dX6_hasNumber_1 : decode cX6_hasNumber 1 = .ok (.ifCond .lt 13, 3) := by decide +kernel
theorem dX6_hasNumber_4 : decode cX6_hasNumber 4 = .ok (.iload_n 0, 1) := by decide +kernel
theorem dX6_hasNumber_5 : decode cX6_hasNumber 5 = .ok (.bipush 8, 2) := by decide +kernel
theorem dX6_hasNumber_7 : decode cX6_hasNumber 7 = .ok (.if_icmp .ge 7, 3) := by decide +kernel
theorem dX6_hasNumber_10 : decode cX6_hasNumber 10 = .ok (.iconst 1, 1) := by decide +kernel
theorem dX6_hasNumber_11 : decode cX6_hasNumber 11 = .ok (.goto 4, 3) := by decide +kernel
theorem dX6_hasNumber_14 : decode cX6_hasNumber 14 = .ok (.iconst 0, 1) := by decide +kernel
theorem dX6_hasNumber_15 : decode cX6_hasNumber 15 = .ok (.ireturn, 1) := by decide +kernel
theorem dX6_isMissing_0 : decode cX6_isMissing 0 = .ok (.aload_n 0, 1) := by decide +kernel
theorem dX6_isMissing_1 : decode cX6_isMissing 1 = .ok (.getfield 18, 3) := by decide +kernel
theorem dX6_isMissing_4 : decode cX6_isMissing 4 = .ok (.iload_n 1, 1) := by decide +kernel
theorem dX6_isMissing_5 : decode cX6_isMissing 5 = .ok (.iaload, 1) := by decide +kernel
theorem dX6_isMissing_6 : decode cX6_isMissing 6 = .ok (.iconst (-1), 1) := by decide +kernel
theorem dX6_isMissing_7 : decode cX6_isMissing 7 = .ok (.if_icmp .ne 7, 3) := by decide +kernel
theorem dX6_isMissing_10 : decode cX6_isMissing 10 = .ok (.iconst 1, 1) := by decide +kernel
theorem dX6_isMissing_11 : decode cX6_isMissing 11 = .ok (.goto 4, 3) := by decide +kernel
theorem dX6_isMissing_14 : decode cX6_isMissing 14 = .ok (.iconst 0, 1) := by decide +kernel
theorem dX6_isMissing_15 : decode cX6_isMissing 15 = .ok (.ireturn, 1) := by decide +kernel
theorem dX6_laneOf_0 : decode cX6_laneOf 0 = .ok (.aload_n 0, 1) := by decide +kernel
theorem dX6_laneOf_1 : decode cX6_laneOf 1 = .ok (.getfield 14, 3) := by decide +kernel
theorem dX6_laneOf_4 : decode cX6_laneOf 4 = .ok (.iload_n 1, 1) := by decide +kernel
theorem dX6_laneOf_5 : decode cX6_laneOf 5 = .ok (.iaload, 1) := by decide +kernel
theorem dX6_laneOf_6 : decode cX6_laneOf 6 = .ok (.ireturn, 1) := by decide +kernel
theorem dX6_itemOf_0 : decode cX6_itemOf 0 = .ok (.aload_n 0, 1) := by decide +kernel
theorem dX6_itemOf_1 : decode cX6_itemOf 1 = .ok (.getfield 11, 3) := by decide +kernel
theorem dX6_itemOf_4 : decode cX6_itemOf 4 = .ok (.iload_n 1, 1) := by decide +kernel
theorem dX6_itemOf_5 : decode cX6_itemOf 5 = .ok (.aaload, 1) := by decide +kernel
theorem dX6_itemOf_6 : decode cX6_itemOf 6 = .ok (.iload_n 2, 1) := by decide +kernel
theorem dX6_itemOf_7 : decode cX6_itemOf 7 = .ok (.iaload, 1) := by decide +kernel
theorem dX6_itemOf_8 : decode cX6_itemOf 8 = .ok (.ireturn, 1) := by decide +kernel
theorem dX6_holds_0 : decode cX6_holds 0 = .ok (.iload_n 2, 1) := by decide +kernel
theorem dX6_holds_1 : decode cX6_holds 1 = .ok (.ifCond .lt 33, 3) := by decide +kernel
theorem dX6_holds_4 : decode cX6_holds 4 = .ok (.iload_n 3, 1) := by decide +kernel
theorem dX6_holds_5 : decode cX6_holds 5 = .ok (.ifCond .lt 29, 3) := by decide +kernel
theorem dX6_holds_8 : decode cX6_holds 8 = .ok (.iload_n 3, 1) := by decide +kernel
theorem dX6_holds_9 : decode cX6_holds 9 = .ok (.aload_n 0, 1) := by decide +kernel
theorem dX6_holds_10 : decode cX6_holds 10 = .ok (.getfield 18, 3) := by decide +kernel
theorem dX6_holds_13 : decode cX6_holds 13 = .ok (.iload_n 1, 1) := by decide +kernel
theorem dX6_holds_14 : decode cX6_holds 14 = .ok (.iaload, 1) := by decide +kernel
theorem dX6_holds_15 : decode cX6_holds 15 = .ok (.if_icmp .gt 19, 3) := by decide +kernel
theorem dX6_holds_18 : decode cX6_holds 18 = .ok (.iload_n 2, 1) := by decide +kernel
theorem dX6_holds_19 : decode cX6_holds 19 = .ok (.aload_n 0, 1) := by decide +kernel
theorem dX6_holds_20 : decode cX6_holds 20 = .ok (.getfield 18, 3) := by decide +kernel
theorem dX6_holds_23 : decode cX6_holds 23 = .ok (.iload_n 1, 1) := by decide +kernel
theorem dX6_holds_24 : decode cX6_holds 24 = .ok (.iaload, 1) := by decide +kernel
theorem dX6_holds_25 : decode cX6_holds 25 = .ok (.iload_n 3, 1) := by decide +kernel
theorem dX6_holds_26 : decode cX6_holds 26 = .ok (.isub, 1) := by decide +kernel
theorem dX6_holds_27 : decode cX6_holds 27 = .ok (.if_icmp .gt 7, 3) := by decide +kernel
theorem dX6_holds_30 : decode cX6_holds 30 = .ok (.iconst 1, 1) := by decide +kernel
theorem dX6_holds_31 : decode cX6_holds 31 = .ok (.goto 4, 3) := by decide +kernel
theorem dX6_holds_34 : decode cX6_holds 34 = .ok (.iconst 0, 1) := by decide +kernel
theorem dX6_holds_35 : decode cX6_holds 35 = .ok (.ireturn, 1) := by decide +kernel
theorem dX6_put_0 : decode cX6_put 0 = .ok (.aload_n 0, 1) := by decide +kernel
theorem dX6_put_1 : decode cX6_put 1 = .ok (.getfield 11, 3) := by decide +kernel
theorem dX6_put_4 : decode cX6_put 4 = .ok (.iload_n 1, 1) := by decide +kernel
theorem dX6_put_5 : decode cX6_put 5 = .ok (.aaload, 1) := by decide +kernel
theorem dX6_put_6 : decode cX6_put 6 = .ok (.iconst 0, 1) := by decide +kernel
theorem dX6_put_7 : decode cX6_put 7 = .ok (.invokestatic 21, 3) := by decide +kernel
theorem dX6_put_10 : decode cX6_put 10 = .ok (.aload_n 0, 1) := by decide +kernel
theorem dX6_put_11 : decode cX6_put 11 = .ok (.getfield 14, 3) := by decide +kernel
theorem dX6_put_14 : decode cX6_put 14 = .ok (.iload_n 1, 1) := by decide +kernel
theorem dX6_put_15 : decode cX6_put 15 = .ok (.iload_n 2, 1) := by decide +kernel
theorem dX6_put_16 : decode cX6_put 16 = .ok (.iastore, 1) := by decide +kernel
theorem dX6_put_17 : decode cX6_put 17 = .ok (.aload_n 0, 1) := by decide +kernel
theorem dX6_put_18 : decode cX6_put 18 = .ok (.getfield 18, 3) := by decide +kernel
theorem dX6_put_21 : decode cX6_put 21 = .ok (.iload_n 1, 1) := by decide +kernel
theorem dX6_put_22 : decode cX6_put 22 = .ok (.iload_n 3, 1) := by decide +kernel
theorem dX6_put_23 : decode cX6_put 23 = .ok (.iastore, 1) := by decide +kernel
theorem dX6_put_24 : decode cX6_put 24 = .ok (.return_, 1) := by decide +kernel
theorem dX6_putItem_0 : decode cX6_putItem 0 = .ok (.aload_n 0, 1) := by decide +kernel
theorem dX6_putItem_1 : decode cX6_putItem 1 = .ok (.getfield 11, 3) := by decide +kernel
theorem dX6_putItem_4 : decode cX6_putItem 4 = .ok (.iload_n 1, 1) := by decide +kernel
theorem dX6_putItem_5 : decode cX6_putItem 5 = .ok (.aaload, 1) := by decide +kernel
theorem dX6_putItem_6 : decode cX6_putItem 6 = .ok (.iload_n 2, 1) := by decide +kernel
theorem dX6_putItem_7 : decode cX6_putItem 7 = .ok (.aload_n 0, 1) := by decide +kernel
theorem dX6_putItem_8 : decode cX6_putItem 8 = .ok (.getfield 14, 3) := by decide +kernel
theorem dX6_putItem_11 : decode cX6_putItem 11 = .ok (.iload_n 1, 1) := by decide +kernel
theorem dX6_putItem_12 : decode cX6_putItem 12 = .ok (.iaload, 1) := by decide +kernel
theorem dX6_putItem_13 : decode cX6_putItem 13 = .ok (.iload_n 3, 1) := by decide +kernel
theorem dX6_putItem_14 : decode cX6_putItem 14 = .ok (.invokestatic 27, 3) := by decide +kernel
theorem dX6_putItem_17 : decode cX6_putItem 17 = .ok (.iastore, 1) := by decide +kernel
theorem dX6_putItem_18 : decode cX6_putItem 18 = .ok (.aload_n 0, 1) := by decide +kernel
theorem dX6_putItem_19 : decode cX6_putItem 19 = .ok (.getfield 11, 3) := by decide +kernel
theorem dX6_putItem_22 : decode cX6_putItem 22 = .ok (.iload_n 1, 1) := by decide +kernel
theorem dX6_putItem_23 : decode cX6_putItem 23 = .ok (.aaload, 1) := by decide +kernel
theorem dX6_putItem_24 : decode cX6_putItem 24 = .ok (.iload_n 2, 1) := by decide +kernel
theorem dX6_putItem_25 : decode cX6_putItem 25 = .ok (.iaload, 1) := by decide +kernel
theorem dX6_putItem_26 : decode cX6_putItem 26 = .ok (.ireturn, 1) := by decide +kernel
theorem dX6_bring_0 : decode cX6_bring 0 = .ok (.aload_n 0, 1) := by decide +kernel
theorem dX6_bring_1 : decode cX6_bring 1 = .ok (.getfield 11, 3) := by decide +kernel
theorem dX6_bring_4 : decode cX6_bring 4 = .ok (.iload_n 1, 1) := by decide +kernel
theorem dX6_bring_5 : decode cX6_bring 5 = .ok (.aaload, 1) := by decide +kernel
theorem dX6_bring_6 : decode cX6_bring 6 = .ok (.iload_n 2, 1) := by decide +kernel
theorem dX6_bring_7 : decode cX6_bring 7 = .ok (.aload_n 0, 1) := by decide +kernel
theorem dX6_bring_8 : decode cX6_bring 8 = .ok (.getfield 11, 3) := by decide +kernel
theorem dX6_bring_11 : decode cX6_bring 11 = .ok (.iload_n 3, 1) := by decide +kernel
theorem dX6_bring_12 : decode cX6_bring 12 = .ok (.aaload, 1) := by decide +kernel
theorem dX6_bring_13 : decode cX6_bring 13 = .ok (.iload 4, 2) := by decide +kernel
theorem dX6_bring_15 : decode cX6_bring 15 = .ok (.iload 5, 2) := by decide +kernel
theorem dX6_bring_17 : decode cX6_bring 17 = .ok (.invokestatic 31, 3) := by decide +kernel
theorem dX6_bring_20 : decode cX6_bring 20 = .ok (.return_, 1) := by decide +kernel
theorem dX6_takeAway_0 : decode cX6_takeAway 0 = .ok (.aload_n 0, 1) := by decide +kernel
theorem dX6_takeAway_1 : decode cX6_takeAway 1 = .ok (.getfield 18, 3) := by decide +kernel
theorem dX6_takeAway_4 : decode cX6_takeAway 4 = .ok (.iload_n 1, 1) := by decide +kernel
theorem dX6_takeAway_5 : decode cX6_takeAway 5 = .ok (.iaload, 1) := by decide +kernel
theorem dX6_takeAway_6 : decode cX6_takeAway 6 = .ok (.istore_n 2, 1) := by decide +kernel
theorem dX6_takeAway_7 : decode cX6_takeAway 7 = .ok (.aload_n 0, 1) := by decide +kernel
theorem dX6_takeAway_8 : decode cX6_takeAway 8 = .ok (.getfield 18, 3) := by decide +kernel
theorem dX6_takeAway_11 : decode cX6_takeAway 11 = .ok (.iload_n 1, 1) := by decide +kernel
theorem dX6_takeAway_12 : decode cX6_takeAway 12 = .ok (.iconst (-1), 1) := by decide +kernel
theorem dX6_takeAway_13 : decode cX6_takeAway 13 = .ok (.iastore, 1) := by decide +kernel
theorem dX6_takeAway_14 : decode cX6_takeAway 14 = .ok (.iload_n 2, 1) := by decide +kernel
theorem dX6_takeAway_15 : decode cX6_takeAway 15 = .ok (.ireturn, 1) := by decide +kernel
theorem dX6_rowsThere_0 : decode cX6_rowsThere 0 = .ok (.iconst 0, 1) := by decide +kernel
theorem dX6_rowsThere_1 : decode cX6_rowsThere 1 = .ok (.istore_n 1, 1) := by decide +kernel
theorem dX6_rowsThere_2 : decode cX6_rowsThere 2 = .ok (.iconst 0, 1) := by decide +kernel
theorem dX6_rowsThere_3 : decode cX6_rowsThere 3 = .ok (.istore_n 2, 1) := by decide +kernel
theorem dX6_rowsThere_4 : decode cX6_rowsThere 4 = .ok (.iload_n 2, 1) := by decide +kernel
theorem dX6_rowsThere_5 : decode cX6_rowsThere 5 = .ok (.bipush 8, 2) := by decide +kernel
theorem dX6_rowsThere_7 : decode cX6_rowsThere 7 = .ok (.if_icmp .ge 20, 3) := by decide +kernel
theorem dX6_rowsThere_10 : decode cX6_rowsThere 10 = .ok (.aload_n 0, 1) := by decide +kernel
theorem dX6_rowsThere_11 : decode cX6_rowsThere 11 = .ok (.iload_n 2, 1) := by decide +kernel
theorem dX6_rowsThere_12 : decode cX6_rowsThere 12 = .ok (.invokevirtual 37, 3) := by decide +kernel
theorem dX6_rowsThere_15 : decode cX6_rowsThere 15 = .ok (.ifCond .ne 6, 3) := by decide +kernel
theorem dX6_rowsThere_18 : decode cX6_rowsThere 18 = .ok (.iinc 1 1, 3) := by decide +kernel
theorem dX6_rowsThere_21 : decode cX6_rowsThere 21 = .ok (.iinc 2 1, 3) := by decide +kernel
theorem dX6_rowsThere_24 : decode cX6_rowsThere 24 = .ok (.goto (-20), 3) := by decide +kernel
theorem dX6_rowsThere_27 : decode cX6_rowsThere 27 = .ok (.iload_n 1, 1) := by decide +kernel
theorem dX6_rowsThere_28 : decode cX6_rowsThere 28 = .ok (.ireturn, 1) := by decide +kernel
theorem dX6_narrowed_0 : decode cX6_narrowed 0 = .ok (.iload_n 0, 1) := by decide +kernel
theorem dX6_narrowed_1 : decode cX6_narrowed 1 = .ok (.lookupswitch 33 #[(0, 27), (1, 30)], 27) := by decide +kernel
theorem dX6_narrowed_28 : decode cX6_narrowed 28 = .ok (.iload_n 1, 1) := by decide +kernel
theorem dX6_narrowed_29 : decode cX6_narrowed 29 = .ok (.i2b, 1) := by decide +kernel
theorem dX6_narrowed_30 : decode cX6_narrowed 30 = .ok (.ireturn, 1) := by decide +kernel
theorem dX6_narrowed_31 : decode cX6_narrowed 31 = .ok (.iload_n 1, 1) := by decide +kernel
theorem dX6_narrowed_32 : decode cX6_narrowed 32 = .ok (.i2s, 1) := by decide +kernel
theorem dX6_narrowed_33 : decode cX6_narrowed 33 = .ok (.ireturn, 1) := by decide +kernel
theorem dX6_narrowed_34 : decode cX6_narrowed 34 = .ok (.iload_n 1, 1) := by decide +kernel
theorem dX6_narrowed_35 : decode cX6_narrowed 35 = .ok (.ireturn, 1) := by decide +kernel
theorem dX7_init_0 : decode cX7_init 0 = .ok (.aload_n 0, 1) := by decide +kernel
theorem dX7_init_1 : decode cX7_init 1 = .ok (.invokespecial 1, 3) := by decide +kernel
theorem dX7_init_4 : decode cX7_init 4 = .ok (.new 7, 3) := by decide +kernel
theorem dX7_init_7 : decode cX7_init 7 = .ok (.dup, 1) := by decide +kernel
theorem dX7_init_8 : decode cX7_init 8 = .ok (.invokespecial 9, 3) := by decide +kernel
theorem dX7_init_11 : decode cX7_init 11 = .ok (.astore_n 1, 1) := by decide +kernel
theorem dX7_init_12 : decode cX7_init 12 = .ok (.aload_n 0, 1) := by decide +kernel
theorem dX7_init_13 : decode cX7_init 13 = .ok (.new 10, 3) := by decide +kernel
theorem dX7_init_16 : decode cX7_init 16 = .ok (.dup, 1) := by decide +kernel
theorem dX7_init_17 : decode cX7_init 17 = .ok (.invokespecial 12, 3) := by decide +kernel
theorem dX7_init_20 : decode cX7_init 20 = .ok (.putfield 13, 3) := by decide +kernel
theorem dX7_init_23 : decode cX7_init 23 = .ok (.aload_n 0, 1) := by decide +kernel
theorem dX7_init_24 : decode cX7_init 24 = .ok (.new 19, 3) := by decide +kernel
theorem dX7_init_27 : decode cX7_init 27 = .ok (.dup, 1) := by decide +kernel
theorem dX7_init_28 : decode cX7_init 28 = .ok (.invokespecial 21, 3) := by decide +kernel
theorem dX7_init_31 : decode cX7_init 31 = .ok (.putfield 22, 3) := by decide +kernel
theorem dX7_init_34 : decode cX7_init 34 = .ok (.aload_n 0, 1) := by decide +kernel
theorem dX7_init_35 : decode cX7_init 35 = .ok (.aload_n 1, 1) := by decide +kernel
theorem dX7_init_36 : decode cX7_init 36 = .ok (.putfield 26, 3) := by decide +kernel
theorem dX7_init_39 : decode cX7_init 39 = .ok (.aload_n 0, 1) := by decide +kernel
theorem dX7_init_40 : decode cX7_init 40 = .ok (.new 7, 3) := by decide +kernel
theorem dX7_init_43 : decode cX7_init 43 = .ok (.dup, 1) := by decide +kernel
theorem dX7_init_44 : decode cX7_init 44 = .ok (.invokespecial 9, 3) := by decide +kernel
theorem dX7_init_47 : decode cX7_init 47 = .ok (.putfield 30, 3) := by decide +kernel
theorem dX7_init_50 : decode cX7_init 50 = .ok (.aload_n 0, 1) := by decide +kernel
theorem dX7_init_51 : decode cX7_init 51 = .ok (.new 33, 3) := by decide +kernel
theorem dX7_init_54 : decode cX7_init 54 = .ok (.dup, 1) := by decide +kernel
theorem dX7_init_55 : decode cX7_init 55 = .ok (.invokespecial 35, 3) := by decide +kernel
theorem dX7_init_58 : decode cX7_init 58 = .ok (.putfield 36, 3) := by decide +kernel
theorem dX7_init_61 : decode cX7_init 61 = .ok (.aload_n 0, 1) := by decide +kernel
theorem dX7_init_62 : decode cX7_init 62 = .ok (.new 40, 3) := by decide +kernel
theorem dX7_init_65 : decode cX7_init 65 = .ok (.dup, 1) := by decide +kernel
theorem dX7_init_66 : decode cX7_init 66 = .ok (.aload_n 1, 1) := by decide +kernel
theorem dX7_init_67 : decode cX7_init 67 = .ok (.invokespecial 42, 3) := by decide +kernel
theorem dX7_init_70 : decode cX7_init 70 = .ok (.putfield 45, 3) := by decide +kernel
theorem dX7_init_73 : decode cX7_init 73 = .ok (.aload_n 0, 1) := by decide +kernel
theorem dX7_init_74 : decode cX7_init 74 = .ok (.new 49, 3) := by decide +kernel
theorem dX7_init_77 : decode cX7_init 77 = .ok (.dup, 1) := by decide +kernel
theorem dX7_init_78 : decode cX7_init 78 = .ok (.aload_n 1, 1) := by decide +kernel
theorem dX7_init_79 : decode cX7_init 79 = .ok (.invokespecial 51, 3) := by decide +kernel
theorem dX7_init_82 : decode cX7_init 82 = .ok (.putfield 52, 3) := by decide +kernel
theorem dX7_init_85 : decode cX7_init 85 = .ok (.aload_n 0, 1) := by decide +kernel
theorem dX7_init_86 : decode cX7_init 86 = .ok (.iconst 2, 1) := by decide +kernel
theorem dX7_init_87 : decode cX7_init 87 = .ok (.bipush 122, 2) := by decide +kernel
theorem dX7_init_89 : decode cX7_init 89 = .ok (.multianewarray 56 2, 4) := by decide +kernel
theorem dX7_init_93 : decode cX7_init 93 = .ok (.putfield 58, 3) := by decide +kernel
theorem dX7_init_96 : decode cX7_init 96 = .ok (.aload_n 0, 1) := by decide +kernel
theorem dX7_init_97 : decode cX7_init 97 = .ok (.iconst 2, 1) := by decide +kernel
theorem dX7_init_98 : decode cX7_init 98 = .ok (.newarray .boolean, 2) := by decide +kernel
theorem dX7_init_100 : decode cX7_init 100 = .ok (.putfield 61, 3) := by decide +kernel
theorem dX7_init_103 : decode cX7_init 103 = .ok (.aload_n 0, 1) := by decide +kernel
theorem dX7_init_104 : decode cX7_init 104 = .ok (.iconst 0, 1) := by decide +kernel
theorem dX7_init_105 : decode cX7_init 105 = .ok (.putfield 65, 3) := by decide +kernel
theorem dX7_init_108 : decode cX7_init 108 = .ok (.aload_n 0, 1) := by decide +kernel
theorem dX7_init_109 : decode cX7_init 109 = .ok (.iconst 0, 1) := by decide +kernel
theorem dX7_init_110 : decode cX7_init 110 = .ok (.putfield 69, 3) := by decide +kernel
theorem dX7_init_113 : decode cX7_init 113 = .ok (.return_, 1) := by decide +kernel
theorem dX7_row_0 : decode cX7_row 0 = .ok (.iload_n 1, 1) := by decide +kernel
theorem dX7_row_1 : decode cX7_row 1 = .ok (.invokestatic 72, 3) := by decide +kernel
theorem dX7_row_4 : decode cX7_row 4 = .ok (.ifCond .eq 18, 3) := by decide +kernel
theorem dX7_row_7 : decode cX7_row 7 = .ok (.iload_n 2, 1) := by decide +kernel
theorem dX7_row_8 : decode cX7_row 8 = .ok (.ifCond .lt 14, 3) := by decide +kernel
theorem dX7_row_11 : decode cX7_row 11 = .ok (.iload_n 2, 1) := by decide +kernel
theorem dX7_row_12 : decode cX7_row 12 = .ok (.iconst 2, 1) := by decide +kernel
theorem dX7_row_13 : decode cX7_row 13 = .ok (.if_icmp .gt 9, 3) := by decide +kernel
theorem dX7_row_16 : decode cX7_row 16 = .ok (.iload_n 3, 1) := by decide +kernel
theorem dX7_row_17 : decode cX7_row 17 = .ok (.bipush 40, 2) := by decide +kernel
theorem dX7_row_19 : decode cX7_row 19 = .ok (.if_icmp .le 6, 3) := by decide +kernel
theorem dX7_row_22 : decode cX7_row 22 = .ok (.ldc 76, 2) := by decide +kernel
theorem dX7_row_24 : decode cX7_row 24 = .ok (.ireturn, 1) := by decide +kernel
theorem dX7_row_25 : decode cX7_row 25 = .ok (.iload_n 3, 1) := by decide +kernel
theorem dX7_row_26 : decode cX7_row 26 = .ok (.ifCond .ge 9, 3) := by decide +kernel
theorem dX7_row_29 : decode cX7_row 29 = .ok (.aload_n 0, 1) := by decide +kernel
theorem dX7_row_30 : decode cX7_row 30 = .ok (.iconst 4, 1) := by decide +kernel
theorem dX7_row_31 : decode cX7_row 31 = .ok (.invokevirtual 77, 3) := by decide +kernel
theorem dX7_row_34 : decode cX7_row 34 = .ok (.ireturn, 1) := by decide +kernel
theorem dX7_row_35 : decode cX7_row 35 = .ok (.aload_n 0, 1) := by decide +kernel
theorem dX7_row_36 : decode cX7_row 36 = .ok (.getfield 13, 3) := by decide +kernel
theorem dX7_row_39 : decode cX7_row 39 = .ok (.iload_n 1, 1) := by decide +kernel
theorem dX7_row_40 : decode cX7_row 40 = .ok (.iload_n 2, 1) := by decide +kernel
theorem dX7_row_41 : decode cX7_row 41 = .ok (.iload_n 3, 1) := by decide +kernel
theorem dX7_row_42 : decode cX7_row 42 = .ok (.invokevirtual 81, 3) := by decide +kernel
theorem dX7_row_45 : decode cX7_row 45 = .ok (.aload_n 0, 1) := by decide +kernel
theorem dX7_row_46 : decode cX7_row 46 = .ok (.iload_n 3, 1) := by decide +kernel
theorem dX7_row_47 : decode cX7_row 47 = .ok (.invokevirtual 85, 3) := by decide +kernel
theorem dX7_row_50 : decode cX7_row 50 = .ok (.ireturn, 1) := by decide +kernel
theorem dX7_set_0 : decode cX7_set 0 = .ok (.iload_n 1, 1) := by decide +kernel
theorem dX7_set_1 : decode cX7_set 1 = .ok (.invokestatic 72, 3) := by decide +kernel
theorem dX7_set_4 : decode cX7_set 4 = .ok (.ifCond .ne 6, 3) := by decide +kernel
theorem dX7_set_7 : decode cX7_set 7 = .ok (.ldc 76, 2) := by decide +kernel
theorem dX7_set_9 : decode cX7_set 9 = .ok (.ireturn, 1) := by decide +kernel
theorem dX7_set_10 : decode cX7_set 10 = .ok (.aload_n 0, 1) := by decide +kernel
theorem dX7_set_11 : decode cX7_set 11 = .ok (.getfield 13, 3) := by decide +kernel
theorem dX7_set_14 : decode cX7_set 14 = .ok (.iload_n 1, 1) := by decide +kernel
theorem dX7_set_15 : decode cX7_set 15 = .ok (.invokevirtual 88, 3) := by decide +kernel
theorem dX7_set_18 : decode cX7_set 18 = .ok (.ifCond .eq 9, 3) := by decide +kernel
theorem dX7_set_21 : decode cX7_set 21 = .ok (.aload_n 0, 1) := by decide +kernel
theorem dX7_set_22 : decode cX7_set 22 = .ok (.iconst 1, 1) := by decide +kernel
theorem dX7_set_23 : decode cX7_set 23 = .ok (.invokevirtual 77, 3) := by decide +kernel
theorem dX7_set_26 : decode cX7_set 26 = .ok (.ireturn, 1) := by decide +kernel
theorem dX7_set_27 : decode cX7_set 27 = .ok (.aload_n 0, 1) := by decide +kernel
theorem dX7_set_28 : decode cX7_set 28 = .ok (.getfield 13, 3) := by decide +kernel
theorem dX7_set_31 : decode cX7_set 31 = .ok (.iload_n 1, 1) := by decide +kernel
theorem dX7_set_32 : decode cX7_set 32 = .ok (.iload_n 2, 1) := by decide +kernel
theorem dX7_set_33 : decode cX7_set 33 = .ok (.iconst 1, 1) := by decide +kernel
theorem dX7_set_34 : decode cX7_set 34 = .ok (.invokevirtual 91, 3) := by decide +kernel
theorem dX7_set_37 : decode cX7_set 37 = .ok (.ifCond .ne 9, 3) := by decide +kernel
theorem dX7_set_40 : decode cX7_set 40 = .ok (.aload_n 0, 1) := by decide +kernel
theorem dX7_set_41 : decode cX7_set 41 = .ok (.iconst 2, 1) := by decide +kernel
theorem dX7_set_42 : decode cX7_set 42 = .ok (.invokevirtual 77, 3) := by decide +kernel
theorem dX7_set_45 : decode cX7_set 45 = .ok (.ireturn, 1) := by decide +kernel
theorem dX7_set_46 : decode cX7_set 46 = .ok (.aload_n 0, 1) := by decide +kernel
theorem dX7_set_47 : decode cX7_set 47 = .ok (.aload_n 0, 1) := by decide +kernel
theorem dX7_set_48 : decode cX7_set 48 = .ok (.getfield 13, 3) := by decide +kernel
theorem dX7_set_51 : decode cX7_set 51 = .ok (.iload_n 1, 1) := by decide +kernel
theorem dX7_set_52 : decode cX7_set 52 = .ok (.iload_n 2, 1) := by decide +kernel
theorem dX7_set_53 : decode cX7_set 53 = .ok (.iload_n 3, 1) := by decide +kernel
theorem dX7_set_54 : decode cX7_set 54 = .ok (.invokevirtual 95, 3) := by decide +kernel
theorem dX7_set_57 : decode cX7_set 57 = .ok (.invokevirtual 85, 3) := by decide +kernel
theorem dX7_set_60 : decode cX7_set 60 = .ok (.ireturn, 1) := by decide +kernel
theorem dX7_copy_0 : decode cX7_copy 0 = .ok (.iload_n 1, 1) := by decide +kernel
theorem dX7_copy_1 : decode cX7_copy 1 = .ok (.invokestatic 72, 3) := by decide +kernel
theorem dX7_copy_4 : decode cX7_copy 4 = .ok (.ifCond .eq 10, 3) := by decide +kernel
theorem dX7_copy_7 : decode cX7_copy 7 = .ok (.iload_n 3, 1) := by decide +kernel
theorem dX7_copy_8 : decode cX7_copy 8 = .ok (.invokestatic 72, 3) := by decide +kernel
theorem dX7_copy_11 : decode cX7_copy 11 = .ok (.ifCond .ne 6, 3) := by decide +kernel
theorem dX7_copy_14 : decode cX7_copy 14 = .ok (.ldc 76, 2) := by decide +kernel
theorem dX7_copy_16 : decode cX7_copy 16 = .ok (.ireturn, 1) := by decide +kernel
theorem dX7_copy_17 : decode cX7_copy 17 = .ok (.aload_n 0, 1) := by decide +kernel
theorem dX7_copy_18 : decode cX7_copy 18 = .ok (.getfield 13, 3) := by decide +kernel
theorem dX7_copy_21 : decode cX7_copy 21 = .ok (.iload_n 1, 1) := by decide +kernel
theorem dX7_copy_22 : decode cX7_copy 22 = .ok (.invokevirtual 88, 3) := by decide +kernel
theorem dX7_copy_25 : decode cX7_copy 25 = .ok (.ifCond .ne 14, 3) := by decide +kernel
theorem dX7_copy_28 : decode cX7_copy 28 = .ok (.aload_n 0, 1) := by decide +kernel
theorem dX7_copy_29 : decode cX7_copy 29 = .ok (.getfield 13, 3) := by decide +kernel
theorem dX7_copy_32 : decode cX7_copy 32 = .ok (.iload_n 3, 1) := by decide +kernel
theorem dX7_copy_33 : decode cX7_copy 33 = .ok (.invokevirtual 88, 3) := by decide +kernel
theorem dX7_copy_36 : decode cX7_copy 36 = .ok (.ifCond .eq 9, 3) := by decide +kernel
theorem dX7_copy_39 : decode cX7_copy 39 = .ok (.aload_n 0, 1) := by decide +kernel
theorem dX7_copy_40 : decode cX7_copy 40 = .ok (.iconst 1, 1) := by decide +kernel
theorem dX7_copy_41 : decode cX7_copy 41 = .ok (.invokevirtual 77, 3) := by decide +kernel
theorem dX7_copy_44 : decode cX7_copy 44 = .ok (.ireturn, 1) := by decide +kernel
theorem dX7_copy_45 : decode cX7_copy 45 = .ok (.aload_n 0, 1) := by decide +kernel
theorem dX7_copy_46 : decode cX7_copy 46 = .ok (.getfield 13, 3) := by decide +kernel
theorem dX7_copy_49 : decode cX7_copy 49 = .ok (.iload_n 1, 1) := by decide +kernel
theorem dX7_copy_50 : decode cX7_copy 50 = .ok (.invokevirtual 99, 3) := by decide +kernel
theorem dX7_copy_53 : decode cX7_copy 53 = .ok (.aload_n 0, 1) := by decide +kernel
theorem dX7_copy_54 : decode cX7_copy 54 = .ok (.getfield 13, 3) := by decide +kernel
theorem dX7_copy_57 : decode cX7_copy 57 = .ok (.iload_n 3, 1) := by decide +kernel
theorem dX7_copy_58 : decode cX7_copy 58 = .ok (.invokevirtual 99, 3) := by decide +kernel
theorem dX7_copy_61 : decode cX7_copy 61 = .ok (.if_icmp .eq 9, 3) := by decide +kernel
theorem dX7_copy_64 : decode cX7_copy 64 = .ok (.aload_n 0, 1) := by decide +kernel
theorem dX7_copy_65 : decode cX7_copy 65 = .ok (.iconst 5, 1) := by decide +kernel
theorem dX7_copy_66 : decode cX7_copy 66 = .ok (.invokevirtual 77, 3) := by decide +kernel
theorem dX7_copy_69 : decode cX7_copy 69 = .ok (.ireturn, 1) := by decide +kernel
theorem dX7_copy_70 : decode cX7_copy 70 = .ok (.aload_n 0, 1) := by decide +kernel
theorem dX7_copy_71 : decode cX7_copy 71 = .ok (.getfield 13, 3) := by decide +kernel
theorem dX7_copy_74 : decode cX7_copy 74 = .ok (.iload_n 1, 1) := by decide +kernel
theorem dX7_copy_75 : decode cX7_copy 75 = .ok (.iload_n 2, 1) := by decide +kernel
theorem dX7_copy_76 : decode cX7_copy 76 = .ok (.iload 5, 2) := by decide +kernel
theorem dX7_copy_78 : decode cX7_copy 78 = .ok (.invokevirtual 91, 3) := by decide +kernel
theorem dX7_copy_81 : decode cX7_copy 81 = .ok (.ifCond .eq 18, 3) := by decide +kernel
theorem dX7_copy_84 : decode cX7_copy 84 = .ok (.aload_n 0, 1) := by decide +kernel
theorem dX7_copy_85 : decode cX7_copy 85 = .ok (.getfield 13, 3) := by decide +kernel
theorem dX7_copy_88 : decode cX7_copy 88 = .ok (.iload_n 3, 1) := by decide +kernel
theorem dX7_copy_89 : decode cX7_copy 89 = .ok (.iload 4, 2) := by decide +kernel
theorem dX7_copy_91 : decode cX7_copy 91 = .ok (.iload 5, 2) := by decide +kernel
theorem dX7_copy_93 : decode cX7_copy 93 = .ok (.invokevirtual 91, 3) := by decide +kernel
theorem dX7_copy_96 : decode cX7_copy 96 = .ok (.ifCond .ne 9, 3) := by decide +kernel
theorem dX7_copy_99 : decode cX7_copy 99 = .ok (.aload_n 0, 1) := by decide +kernel
theorem dX7_copy_100 : decode cX7_copy 100 = .ok (.iconst 2, 1) := by decide +kernel
theorem dX7_copy_101 : decode cX7_copy 101 = .ok (.invokevirtual 77, 3) := by decide +kernel
theorem dX7_copy_104 : decode cX7_copy 104 = .ok (.ireturn, 1) := by decide +kernel
theorem dX7_copy_105 : decode cX7_copy 105 = .ok (.aload_n 0, 1) := by decide +kernel
theorem dX7_copy_106 : decode cX7_copy 106 = .ok (.getfield 13, 3) := by decide +kernel
theorem dX7_copy_109 : decode cX7_copy 109 = .ok (.iload_n 1, 1) := by decide +kernel
theorem dX7_copy_110 : decode cX7_copy 110 = .ok (.iload_n 2, 1) := by decide +kernel
theorem dX7_copy_111 : decode cX7_copy 111 = .ok (.iload_n 3, 1) := by decide +kernel
theorem dX7_copy_112 : decode cX7_copy 112 = .ok (.iload 4, 2) := by decide +kernel
theorem dX7_copy_114 : decode cX7_copy 114 = .ok (.iload 5, 2) := by decide +kernel
theorem dX7_copy_116 : decode cX7_copy 116 = .ok (.invokevirtual 102, 3) := by decide +kernel
theorem dX7_copy_119 : decode cX7_copy 119 = .ok (.aload_n 0, 1) := by decide +kernel
theorem dX7_copy_120 : decode cX7_copy 120 = .ok (.iload 5, 2) := by decide +kernel
theorem dX7_copy_122 : decode cX7_copy 122 = .ok (.invokevirtual 85, 3) := by decide +kernel
theorem dX7_copy_125 : decode cX7_copy 125 = .ok (.ireturn, 1) := by decide +kernel
theorem dX7_drop_0 : decode cX7_drop 0 = .ok (.iload_n 1, 1) := by decide +kernel
theorem dX7_drop_1 : decode cX7_drop 1 = .ok (.invokestatic 72, 3) := by decide +kernel
theorem dX7_drop_4 : decode cX7_drop 4 = .ok (.ifCond .ne 6, 3) := by decide +kernel
theorem dX7_drop_7 : decode cX7_drop 7 = .ok (.ldc 76, 2) := by decide +kernel
theorem dX7_drop_9 : decode cX7_drop 9 = .ok (.ireturn, 1) := by decide +kernel
theorem dX7_drop_10 : decode cX7_drop 10 = .ok (.aload_n 0, 1) := by decide +kernel
theorem dX7_drop_11 : decode cX7_drop 11 = .ok (.getfield 13, 3) := by decide +kernel
theorem dX7_drop_14 : decode cX7_drop 14 = .ok (.iload_n 1, 1) := by decide +kernel
theorem dX7_drop_15 : decode cX7_drop 15 = .ok (.invokevirtual 88, 3) := by decide +kernel
theorem dX7_drop_18 : decode cX7_drop 18 = .ok (.ifCond .eq 9, 3) := by decide +kernel
theorem dX7_drop_21 : decode cX7_drop 21 = .ok (.aload_n 0, 1) := by decide +kernel
theorem dX7_drop_22 : decode cX7_drop 22 = .ok (.iconst 1, 1) := by decide +kernel
theorem dX7_drop_23 : decode cX7_drop 23 = .ok (.invokevirtual 77, 3) := by decide +kernel
theorem dX7_drop_26 : decode cX7_drop 26 = .ok (.ireturn, 1) := by decide +kernel
theorem dX7_drop_27 : decode cX7_drop 27 = .ok (.aload_n 0, 1) := by decide +kernel
theorem dX7_drop_28 : decode cX7_drop 28 = .ok (.aload_n 0, 1) := by decide +kernel
theorem dX7_drop_29 : decode cX7_drop 29 = .ok (.getfield 13, 3) := by decide +kernel
theorem dX7_drop_32 : decode cX7_drop 32 = .ok (.iload_n 1, 1) := by decide +kernel
theorem dX7_drop_33 : decode cX7_drop 33 = .ok (.invokevirtual 106, 3) := by decide +kernel
theorem dX7_drop_36 : decode cX7_drop 36 = .ok (.invokevirtual 85, 3) := by decide +kernel
theorem dX7_drop_39 : decode cX7_drop 39 = .ok (.ireturn, 1) := by decide +kernel
theorem dX7_feed_0 : decode cX7_feed 0 = .ok (.iload_n 1, 1) := by decide +kernel
theorem dX7_feed_1 : decode cX7_feed 1 = .ok (.ifCond .lt 10, 3) := by decide +kernel
theorem dX7_feed_4 : decode cX7_feed 4 = .ok (.iload_n 1, 1) := by decide +kernel
theorem dX7_feed_5 : decode cX7_feed 5 = .ok (.sipush 255, 3) := by decide +kernel
theorem dX7_feed_8 : decode cX7_feed 8 = .ok (.if_icmp .le 6, 3) := by decide +kernel
theorem dX7_feed_11 : decode cX7_feed 11 = .ok (.ldc 76, 2) := by decide +kernel
theorem dX7_feed_13 : decode cX7_feed 13 = .ok (.ireturn, 1) := by decide +kernel
theorem dX7_feed_14 : decode cX7_feed 14 = .ok (.aload_n 0, 1) := by decide +kernel
theorem dX7_feed_15 : decode cX7_feed 15 = .ok (.getfield 22, 3) := by decide +kernel
theorem dX7_feed_18 : decode cX7_feed 18 = .ok (.invokevirtual 109, 3) := by decide +kernel
theorem dX7_feed_21 : decode cX7_feed 21 = .ok (.ifCond .eq 6, 3) := by decide +kernel
theorem dX7_feed_24 : decode cX7_feed 24 = .ok (.ldc 113, 2) := by decide +kernel
theorem dX7_feed_26 : decode cX7_feed 26 = .ok (.ireturn, 1) := by decide +kernel
theorem dX7_feed_27 : decode cX7_feed 27 = .ok (.aload_n 0, 1) := by decide +kernel
theorem dX7_feed_28 : decode cX7_feed 28 = .ok (.getfield 22, 3) := by decide +kernel
theorem dX7_feed_31 : decode cX7_feed 31 = .ok (.iload_n 1, 1) := by decide +kernel
theorem dX7_feed_32 : decode cX7_feed 32 = .ok (.invokevirtual 114, 3) := by decide +kernel
theorem dX7_feed_35 : decode cX7_feed 35 = .ok (.ireturn, 1) := by decide +kernel
theorem dX7_land_0 : decode cX7_land 0 = .ok (.aload_n 0, 1) := by decide +kernel
theorem dX7_land_1 : decode cX7_land 1 = .ok (.getfield 22, 3) := by decide +kernel
theorem dX7_land_4 : decode cX7_land 4 = .ok (.aload_n 0, 1) := by decide +kernel
theorem dX7_land_5 : decode cX7_land 5 = .ok (.getfield 30, 3) := by decide +kernel
theorem dX7_land_8 : decode cX7_land 8 = .ok (.invokevirtual 117, 3) := by decide +kernel
theorem dX7_land_11 : decode cX7_land 11 = .ok (.istore_n 1, 1) := by decide +kernel
theorem dX7_land_12 : decode cX7_land 12 = .ok (.aload_n 0, 1) := by decide +kernel
theorem dX7_land_13 : decode cX7_land 13 = .ok (.getfield 22, 3) := by decide +kernel
theorem dX7_land_16 : decode cX7_land 16 = .ok (.invokevirtual 121, 3) := by decide +kernel
theorem dX7_land_19 : decode cX7_land 19 = .ok (.iload_n 1, 1) := by decide +kernel
theorem dX7_land_20 : decode cX7_land 20 = .ok (.ifCond .ne 25, 3) := by decide +kernel
theorem dX7_land_23 : decode cX7_land 23 = .ok (.aload_n 0, 1) := by decide +kernel
theorem dX7_land_24 : decode cX7_land 24 = .ok (.aload_n 0, 1) := by decide +kernel
theorem dX7_land_25 : decode cX7_land 25 = .ok (.getfield 22, 3) := by decide +kernel
theorem dX7_land_28 : decode cX7_land 28 = .ok (.invokevirtual 124, 3) := by decide +kernel
theorem dX7_land_31 : decode cX7_land 31 = .ok (.putfield 65, 3) := by decide +kernel
theorem dX7_land_34 : decode cX7_land 34 = .ok (.ldc 128, 2) := by decide +kernel
theorem dX7_land_36 : decode cX7_land 36 = .ok (.aload_n 0, 1) := by decide +kernel
theorem dX7_land_37 : decode cX7_land 37 = .ok (.getfield 22, 3) := by decide +kernel
theorem dX7_land_40 : decode cX7_land 40 = .ok (.invokevirtual 129, 3) := by decide +kernel
theorem dX7_land_43 : decode cX7_land 43 = .ok (.isub, 1) := by decide +kernel
theorem dX7_land_44 : decode cX7_land 44 = .ok (.ireturn, 1) := by decide +kernel
theorem dX7_land_45 : decode cX7_land 45 = .ok (.aload_n 0, 1) := by decide +kernel
theorem dX7_land_46 : decode cX7_land 46 = .ok (.getfield 26, 3) := by decide +kernel
theorem dX7_land_49 : decode cX7_land 49 = .ok (.aload_n 0, 1) := by decide +kernel
theorem dX7_land_50 : decode cX7_land 50 = .ok (.getfield 30, 3) := by decide +kernel
theorem dX7_land_53 : decode cX7_land 53 = .ok (.getfield 132, 3) := by decide +kernel
theorem dX7_land_56 : decode cX7_land 56 = .ok (.invokevirtual 136, 3) := by decide +kernel
theorem dX7_land_59 : decode cX7_land 59 = .ok (.aload_n 0, 1) := by decide +kernel
theorem dX7_land_60 : decode cX7_land 60 = .ok (.getfield 36, 3) := by decide +kernel
theorem dX7_land_63 : decode cX7_land 63 = .ok (.invokevirtual 140, 3) := by decide +kernel
theorem dX7_land_66 : decode cX7_land 66 = .ok (.aload_n 0, 1) := by decide +kernel
theorem dX7_land_67 : decode cX7_land 67 = .ok (.getfield 26, 3) := by decide +kernel
theorem dX7_land_70 : decode cX7_land 70 = .ok (.invokevirtual 143, 3) := by decide +kernel
theorem dX7_land_73 : decode cX7_land 73 = .ok (.ireturn, 1) := by decide +kernel
theorem dX7_fault_0 : decode cX7_fault 0 = .ok (.aload_n 0, 1) := by decide +kernel
theorem dX7_fault_1 : decode cX7_fault 1 = .ok (.getfield 65, 3) := by decide +kernel
theorem dX7_fault_4 : decode cX7_fault 4 = .ok (.ireturn, 1) := by decide +kernel
theorem dX7_walk_0 : decode cX7_walk 0 = .ok (.aload_n 0, 1) := by decide +kernel
theorem dX7_walk_1 : decode cX7_walk 1 = .ok (.getfield 26, 3) := by decide +kernel
theorem dX7_walk_4 : decode cX7_walk 4 = .ok (.iload_n 1, 1) := by decide +kernel
theorem dX7_walk_5 : decode cX7_walk 5 = .ok (.invokevirtual 146, 3) := by decide +kernel
theorem dX7_walk_8 : decode cX7_walk 8 = .ok (.ifCond .eq 14, 3) := by decide +kernel
theorem dX7_walk_11 : decode cX7_walk 11 = .ok (.aload_n 0, 1) := by decide +kernel
theorem dX7_walk_12 : decode cX7_walk 12 = .ok (.getfield 26, 3) := by decide +kernel
theorem dX7_walk_15 : decode cX7_walk 15 = .ok (.iload_n 2, 1) := by decide +kernel
theorem dX7_walk_16 : decode cX7_walk 16 = .ok (.invokevirtual 149, 3) := by decide +kernel
theorem dX7_walk_19 : decode cX7_walk 19 = .ok (.ifCond .ne 6, 3) := by decide +kernel
theorem dX7_walk_22 : decode cX7_walk 22 = .ok (.ldc 76, 2) := by decide +kernel
theorem dX7_walk_24 : decode cX7_walk 24 = .ok (.ireturn, 1) := by decide +kernel
theorem dX7_walk_25 : decode cX7_walk 25 = .ok (.aload_n 0, 1) := by decide +kernel
theorem dX7_walk_26 : decode cX7_walk 26 = .ok (.getfield 26, 3) := by decide +kernel
theorem dX7_walk_29 : decode cX7_walk 29 = .ok (.iload_n 1, 1) := by decide +kernel
theorem dX7_walk_30 : decode cX7_walk 30 = .ok (.iload_n 2, 1) := by decide +kernel
theorem dX7_walk_31 : decode cX7_walk 31 = .ok (.invokevirtual 152, 3) := by decide +kernel
theorem dX7_walk_34 : decode cX7_walk 34 = .ok (.ifCond .ne 6, 3) := by decide +kernel
theorem dX7_walk_37 : decode cX7_walk 37 = .ok (.ldc 156, 2) := by decide +kernel
theorem dX7_walk_39 : decode cX7_walk 39 = .ok (.ireturn, 1) := by decide +kernel
theorem dX7_walk_40 : decode cX7_walk 40 = .ok (.aload_n 0, 1) := by decide +kernel
theorem dX7_walk_41 : decode cX7_walk 41 = .ok (.getfield 36, 3) := by decide +kernel
theorem dX7_walk_44 : decode cX7_walk 44 = .ok (.aload_n 0, 1) := by decide +kernel
theorem dX7_walk_45 : decode cX7_walk 45 = .ok (.getfield 26, 3) := by decide +kernel
theorem dX7_walk_48 : decode cX7_walk 48 = .ok (.invokevirtual 157, 3) := by decide +kernel
theorem dX7_walk_51 : decode cX7_walk 51 = .ok (.aload_n 0, 1) := by decide +kernel
theorem dX7_walk_52 : decode cX7_walk 52 = .ok (.getfield 26, 3) := by decide +kernel
theorem dX7_walk_55 : decode cX7_walk 55 = .ok (.iload_n 1, 1) := by decide +kernel
theorem dX7_walk_56 : decode cX7_walk 56 = .ok (.iload_n 2, 1) := by decide +kernel
theorem dX7_walk_57 : decode cX7_walk 57 = .ok (.invokevirtual 160, 3) := by decide +kernel
theorem dX7_walk_60 : decode cX7_walk 60 = .ok (.aload_n 0, 1) := by decide +kernel
theorem dX7_walk_61 : decode cX7_walk 61 = .ok (.getfield 26, 3) := by decide +kernel
theorem dX7_walk_64 : decode cX7_walk 64 = .ok (.iload_n 1, 1) := by decide +kernel
theorem dX7_walk_65 : decode cX7_walk 65 = .ok (.invokevirtual 164, 3) := by decide +kernel
theorem dX7_walk_68 : decode cX7_walk 68 = .ok (.ireturn, 1) := by decide +kernel
theorem dX7_lead_0 : decode cX7_lead 0 = .ok (.aload_n 0, 1) := by decide +kernel
theorem dX7_lead_1 : decode cX7_lead 1 = .ok (.getfield 26, 3) := by decide +kernel
theorem dX7_lead_4 : decode cX7_lead 4 = .ok (.iload_n 1, 1) := by decide +kernel
theorem dX7_lead_5 : decode cX7_lead 5 = .ok (.iload_n 2, 1) := by decide +kernel
theorem dX7_lead_6 : decode cX7_lead 6 = .ok (.invokevirtual 167, 3) := by decide +kernel
theorem dX7_lead_9 : decode cX7_lead 9 = .ok (.ifCond .eq 14, 3) := by decide +kernel
theorem dX7_lead_12 : decode cX7_lead 12 = .ok (.aload_n 0, 1) := by decide +kernel
theorem dX7_lead_13 : decode cX7_lead 13 = .ok (.getfield 26, 3) := by decide +kernel
theorem dX7_lead_16 : decode cX7_lead 16 = .ok (.iload_n 3, 1) := by decide +kernel
theorem dX7_lead_17 : decode cX7_lead 17 = .ok (.invokevirtual 149, 3) := by decide +kernel
theorem dX7_lead_20 : decode cX7_lead 20 = .ok (.ifCond .ne 6, 3) := by decide +kernel
theorem dX7_lead_23 : decode cX7_lead 23 = .ok (.ldc 76, 2) := by decide +kernel
theorem dX7_lead_25 : decode cX7_lead 25 = .ok (.ireturn, 1) := by decide +kernel
theorem dX7_lead_26 : decode cX7_lead 26 = .ok (.aload_n 0, 1) := by decide +kernel
theorem dX7_lead_27 : decode cX7_lead 27 = .ok (.getfield 26, 3) := by decide +kernel
theorem dX7_lead_30 : decode cX7_lead 30 = .ok (.iload_n 1, 1) := by decide +kernel
theorem dX7_lead_31 : decode cX7_lead 31 = .ok (.invokevirtual 164, 3) := by decide +kernel
theorem dX7_lead_34 : decode cX7_lead 34 = .ok (.aload_n 0, 1) := by decide +kernel
theorem dX7_lead_35 : decode cX7_lead 35 = .ok (.getfield 26, 3) := by decide +kernel
theorem dX7_lead_38 : decode cX7_lead 38 = .ok (.iload_n 2, 1) := by decide +kernel
theorem dX7_lead_39 : decode cX7_lead 39 = .ok (.invokevirtual 164, 3) := by decide +kernel
theorem dX7_lead_42 : decode cX7_lead 42 = .ok (.if_icmp .ne 15, 3) := by decide +kernel
theorem dX7_lead_45 : decode cX7_lead 45 = .ok (.aload_n 0, 1) := by decide +kernel
theorem dX7_lead_46 : decode cX7_lead 46 = .ok (.getfield 26, 3) := by decide +kernel
theorem dX7_lead_49 : decode cX7_lead 49 = .ok (.iload_n 1, 1) := by decide +kernel
theorem dX7_lead_50 : decode cX7_lead 50 = .ok (.iload_n 3, 1) := by decide +kernel
theorem dX7_lead_51 : decode cX7_lead 51 = .ok (.invokevirtual 152, 3) := by decide +kernel
theorem dX7_lead_54 : decode cX7_lead 54 = .ok (.ifCond .ne 6, 3) := by decide +kernel
theorem dX7_lead_57 : decode cX7_lead 57 = .ok (.ldc 156, 2) := by decide +kernel
theorem dX7_lead_59 : decode cX7_lead 59 = .ok (.ireturn, 1) := by decide +kernel
theorem dX7_lead_60 : decode cX7_lead 60 = .ok (.aload_n 0, 1) := by decide +kernel
theorem dX7_lead_61 : decode cX7_lead 61 = .ok (.getfield 36, 3) := by decide +kernel
theorem dX7_lead_64 : decode cX7_lead 64 = .ok (.aload_n 0, 1) := by decide +kernel
theorem dX7_lead_65 : decode cX7_lead 65 = .ok (.getfield 26, 3) := by decide +kernel
theorem dX7_lead_68 : decode cX7_lead 68 = .ok (.invokevirtual 157, 3) := by decide +kernel
theorem dX7_lead_71 : decode cX7_lead 71 = .ok (.aload_n 0, 1) := by decide +kernel
theorem dX7_lead_72 : decode cX7_lead 72 = .ok (.getfield 26, 3) := by decide +kernel
theorem dX7_lead_75 : decode cX7_lead 75 = .ok (.iload_n 1, 1) := by decide +kernel
theorem dX7_lead_76 : decode cX7_lead 76 = .ok (.iload_n 3, 1) := by decide +kernel
theorem dX7_lead_77 : decode cX7_lead 77 = .ok (.invokevirtual 160, 3) := by decide +kernel
theorem dX7_lead_80 : decode cX7_lead 80 = .ok (.aload_n 0, 1) := by decide +kernel
theorem dX7_lead_81 : decode cX7_lead 81 = .ok (.getfield 26, 3) := by decide +kernel
theorem dX7_lead_84 : decode cX7_lead 84 = .ok (.iload_n 2, 1) := by decide +kernel
theorem dX7_lead_85 : decode cX7_lead 85 = .ok (.iload_n 3, 1) := by decide +kernel
theorem dX7_lead_86 : decode cX7_lead 86 = .ok (.invokevirtual 160, 3) := by decide +kernel
theorem dX7_lead_89 : decode cX7_lead 89 = .ok (.aload_n 0, 1) := by decide +kernel
theorem dX7_lead_90 : decode cX7_lead 90 = .ok (.getfield 26, 3) := by decide +kernel
theorem dX7_lead_93 : decode cX7_lead 93 = .ok (.iload_n 1, 1) := by decide +kernel
theorem dX7_lead_94 : decode cX7_lead 94 = .ok (.invokevirtual 164, 3) := by decide +kernel
theorem dX7_lead_97 : decode cX7_lead 97 = .ok (.ireturn, 1) := by decide +kernel
theorem dX7_change_0 : decode cX7_change 0 = .ok (.aload_n 0, 1) := by decide +kernel
theorem dX7_change_1 : decode cX7_change 1 = .ok (.getfield 26, 3) := by decide +kernel
theorem dX7_change_4 : decode cX7_change 4 = .ok (.iload_n 1, 1) := by decide +kernel
theorem dX7_change_5 : decode cX7_change 5 = .ok (.iload_n 2, 1) := by decide +kernel
theorem dX7_change_6 : decode cX7_change 6 = .ok (.invokevirtual 167, 3) := by decide +kernel
theorem dX7_change_9 : decode cX7_change 9 = .ok (.ifCond .ne 6, 3) := by decide +kernel
theorem dX7_change_12 : decode cX7_change 12 = .ok (.ldc 76, 2) := by decide +kernel
theorem dX7_change_14 : decode cX7_change 14 = .ok (.ireturn, 1) := by decide +kernel
theorem dX7_change_15 : decode cX7_change 15 = .ok (.aload_n 0, 1) := by decide +kernel
theorem dX7_change_16 : decode cX7_change 16 = .ok (.getfield 36, 3) := by decide +kernel
theorem dX7_change_19 : decode cX7_change 19 = .ok (.aload_n 0, 1) := by decide +kernel
theorem dX7_change_20 : decode cX7_change 20 = .ok (.getfield 26, 3) := by decide +kernel
theorem dX7_change_23 : decode cX7_change 23 = .ok (.invokevirtual 157, 3) := by decide +kernel
theorem dX7_change_26 : decode cX7_change 26 = .ok (.aload_n 0, 1) := by decide +kernel
theorem dX7_change_27 : decode cX7_change 27 = .ok (.getfield 26, 3) := by decide +kernel
theorem dX7_change_30 : decode cX7_change 30 = .ok (.iload_n 1, 1) := by decide +kernel
theorem dX7_change_31 : decode cX7_change 31 = .ok (.iload_n 2, 1) := by decide +kernel
theorem dX7_change_32 : decode cX7_change 32 = .ok (.invokevirtual 170, 3) := by decide +kernel
theorem dX7_change_35 : decode cX7_change 35 = .ok (.aload_n 0, 1) := by decide +kernel
theorem dX7_change_36 : decode cX7_change 36 = .ok (.getfield 26, 3) := by decide +kernel
theorem dX7_change_39 : decode cX7_change 39 = .ok (.iload_n 1, 1) := by decide +kernel
theorem dX7_change_40 : decode cX7_change 40 = .ok (.invokevirtual 173, 3) := by decide +kernel
theorem dX7_change_43 : decode cX7_change 43 = .ok (.ireturn, 1) := by decide +kernel
theorem dX7_heels_0 : decode cX7_heels 0 = .ok (.aload_n 0, 1) := by decide +kernel
theorem dX7_heels_1 : decode cX7_heels 1 = .ok (.getfield 26, 3) := by decide +kernel
theorem dX7_heels_4 : decode cX7_heels 4 = .ok (.iload_n 1, 1) := by decide +kernel
theorem dX7_heels_5 : decode cX7_heels 5 = .ok (.invokevirtual 146, 3) := by decide +kernel
theorem dX7_heels_8 : decode cX7_heels 8 = .ok (.ifCond .ne 6, 3) := by decide +kernel
theorem dX7_heels_11 : decode cX7_heels 11 = .ok (.ldc 76, 2) := by decide +kernel
theorem dX7_heels_13 : decode cX7_heels 13 = .ok (.ireturn, 1) := by decide +kernel
theorem dX7_heels_14 : decode cX7_heels 14 = .ok (.aload_n 0, 1) := by decide +kernel
theorem dX7_heels_15 : decode cX7_heels 15 = .ok (.getfield 36, 3) := by decide +kernel
theorem dX7_heels_18 : decode cX7_heels 18 = .ok (.aload_n 0, 1) := by decide +kernel
theorem dX7_heels_19 : decode cX7_heels 19 = .ok (.getfield 26, 3) := by decide +kernel
theorem dX7_heels_22 : decode cX7_heels 22 = .ok (.invokevirtual 157, 3) := by decide +kernel
theorem dX7_heels_25 : decode cX7_heels 25 = .ok (.aload_n 0, 1) := by decide +kernel
theorem dX7_heels_26 : decode cX7_heels 26 = .ok (.getfield 26, 3) := by decide +kernel
theorem dX7_heels_29 : decode cX7_heels 29 = .ok (.aload_n 0, 1) := by decide +kernel
theorem dX7_heels_30 : decode cX7_heels 30 = .ok (.getfield 26, 3) := by decide +kernel
theorem dX7_heels_33 : decode cX7_heels 33 = .ok (.iload_n 1, 1) := by decide +kernel
theorem dX7_heels_34 : decode cX7_heels 34 = .ok (.invokevirtual 173, 3) := by decide +kernel
theorem dX7_heels_37 : decode cX7_heels 37 = .ok (.invokevirtual 176, 3) := by decide +kernel
theorem dX7_heels_40 : decode cX7_heels 40 = .ok (.ireturn, 1) := by decide +kernel
theorem dX7_day_0 : decode cX7_day 0 = .ok (.aload_n 0, 1) := by decide +kernel
theorem dX7_day_1 : decode cX7_day 1 = .ok (.getfield 26, 3) := by decide +kernel
theorem dX7_day_4 : decode cX7_day 4 = .ok (.invokevirtual 179, 3) := by decide +kernel
theorem dX7_day_7 : decode cX7_day 7 = .ok (.ifCond .ne 6, 3) := by decide +kernel
theorem dX7_day_10 : decode cX7_day 10 = .ok (.ldc 156, 2) := by decide +kernel
theorem dX7_day_12 : decode cX7_day 12 = .ok (.ireturn, 1) := by decide +kernel
theorem dX7_day_13 : decode cX7_day 13 = .ok (.aload_n 0, 1) := by decide +kernel
theorem dX7_day_14 : decode cX7_day 14 = .ok (.getfield 26, 3) := by decide +kernel
theorem dX7_day_17 : decode cX7_day 17 = .ok (.invokevirtual 182, 3) := by decide +kernel
theorem dX7_day_20 : decode cX7_day 20 = .ok (.sipush 999, 3) := by decide +kernel
theorem dX7_day_23 : decode cX7_day 23 = .ok (.if_icmp .lt 6, 3) := by decide +kernel
theorem dX7_day_26 : decode cX7_day 26 = .ok (.ldc 113, 2) := by decide +kernel
theorem dX7_day_28 : decode cX7_day 28 = .ok (.ireturn, 1) := by decide +kernel
theorem dX7_day_29 : decode cX7_day 29 = .ok (.aload_n 0, 1) := by decide +kernel
theorem dX7_day_30 : decode cX7_day 30 = .ok (.getfield 36, 3) := by decide +kernel
theorem dX7_day_33 : decode cX7_day 33 = .ok (.aload_n 0, 1) := by decide +kernel
theorem dX7_day_34 : decode cX7_day 34 = .ok (.getfield 26, 3) := by decide +kernel
theorem dX7_day_37 : decode cX7_day 37 = .ok (.invokevirtual 157, 3) := by decide +kernel
theorem dX7_day_40 : decode cX7_day 40 = .ok (.aload_n 0, 1) := by decide +kernel
theorem dX7_day_41 : decode cX7_day 41 = .ok (.getfield 26, 3) := by decide +kernel
theorem dX7_day_44 : decode cX7_day 44 = .ok (.invokevirtual 185, 3) := by decide +kernel
theorem dX7_day_47 : decode cX7_day 47 = .ok (.aload_n 0, 1) := by decide +kernel
theorem dX7_day_48 : decode cX7_day 48 = .ok (.getfield 26, 3) := by decide +kernel
theorem dX7_day_51 : decode cX7_day 51 = .ok (.invokevirtual 182, 3) := by decide +kernel
theorem dX7_day_54 : decode cX7_day 54 = .ok (.ireturn, 1) := by decide +kernel
theorem dX7_undo_0 : decode cX7_undo 0 = .ok (.aload_n 0, 1) := by decide +kernel
theorem dX7_undo_1 : decode cX7_undo 1 = .ok (.getfield 36, 3) := by decide +kernel
theorem dX7_undo_4 : decode cX7_undo 4 = .ok (.invokevirtual 188, 3) := by decide +kernel
theorem dX7_undo_7 : decode cX7_undo 7 = .ok (.ifCond .ne 6, 3) := by decide +kernel
theorem dX7_undo_10 : decode cX7_undo 10 = .ok (.ldc 156, 2) := by decide +kernel
theorem dX7_undo_12 : decode cX7_undo 12 = .ok (.ireturn, 1) := by decide +kernel
theorem dX7_undo_13 : decode cX7_undo 13 = .ok (.aload_n 0, 1) := by decide +kernel
theorem dX7_undo_14 : decode cX7_undo 14 = .ok (.getfield 36, 3) := by decide +kernel
theorem dX7_undo_17 : decode cX7_undo 17 = .ok (.aload_n 0, 1) := by decide +kernel
theorem dX7_undo_18 : decode cX7_undo 18 = .ok (.getfield 26, 3) := by decide +kernel
theorem dX7_undo_21 : decode cX7_undo 21 = .ok (.invokevirtual 191, 3) := by decide +kernel
theorem dX7_undo_24 : decode cX7_undo 24 = .ok (.aload_n 0, 1) := by decide +kernel
theorem dX7_undo_25 : decode cX7_undo 25 = .ok (.getfield 36, 3) := by decide +kernel
theorem dX7_undo_28 : decode cX7_undo 28 = .ok (.invokevirtual 188, 3) := by decide +kernel
theorem dX7_undo_31 : decode cX7_undo 31 = .ok (.ireturn, 1) := by decide +kernel
theorem dX7_person_0 : decode cX7_person 0 = .ok (.aload_n 0, 1) := by decide +kernel
theorem dX7_person_1 : decode cX7_person 1 = .ok (.getfield 26, 3) := by decide +kernel
theorem dX7_person_4 : decode cX7_person 4 = .ok (.iload_n 1, 1) := by decide +kernel
theorem dX7_person_5 : decode cX7_person 5 = .ok (.invokevirtual 146, 3) := by decide +kernel
theorem dX7_person_8 : decode cX7_person 8 = .ok (.ifCond .ne 6, 3) := by decide +kernel
theorem dX7_person_11 : decode cX7_person 11 = .ok (.ldc 76, 2) := by decide +kernel
theorem dX7_person_13 : decode cX7_person 13 = .ok (.ireturn, 1) := by decide +kernel
theorem dX7_person_14 : decode cX7_person 14 = .ok (.iload_n 2, 1) := by decide +kernel
theorem dX7_person_15 : decode cX7_person 15 = .ok (.tableswitch 52 0 2 #[25, 34, 43], 25) := by decide +kernel
theorem dX7_person_40 : decode cX7_person 40 = .ok (.aload_n 0, 1) := by decide +kernel
theorem dX7_person_41 : decode cX7_person 41 = .ok (.getfield 26, 3) := by decide +kernel
theorem dX7_person_44 : decode cX7_person 44 = .ok (.iload_n 1, 1) := by decide +kernel
theorem dX7_person_45 : decode cX7_person 45 = .ok (.invokevirtual 164, 3) := by decide +kernel
theorem dX7_person_48 : decode cX7_person 48 = .ok (.ireturn, 1) := by decide +kernel
theorem dX7_person_49 : decode cX7_person 49 = .ok (.aload_n 0, 1) := by decide +kernel
theorem dX7_person_50 : decode cX7_person 50 = .ok (.getfield 26, 3) := by decide +kernel
theorem dX7_person_53 : decode cX7_person 53 = .ok (.iload_n 1, 1) := by decide +kernel
theorem dX7_person_54 : decode cX7_person 54 = .ok (.invokevirtual 173, 3) := by decide +kernel
theorem dX7_person_57 : decode cX7_person 57 = .ok (.ireturn, 1) := by decide +kernel
theorem dX7_person_58 : decode cX7_person 58 = .ok (.aload_n 0, 1) := by decide +kernel
theorem dX7_person_59 : decode cX7_person 59 = .ok (.getfield 26, 3) := by decide +kernel
theorem dX7_person_62 : decode cX7_person 62 = .ok (.iload_n 1, 1) := by decide +kernel
theorem dX7_person_63 : decode cX7_person 63 = .ok (.invokevirtual 194, 3) := by decide +kernel
theorem dX7_person_66 : decode cX7_person 66 = .ok (.ireturn, 1) := by decide +kernel
theorem dX7_person_67 : decode cX7_person 67 = .ok (.ldc 76, 2) := by decide +kernel
theorem dX7_person_69 : decode cX7_person 69 = .ok (.ireturn, 1) := by decide +kernel
theorem dX7_road_0 : decode cX7_road 0 = .ok (.aload_n 0, 1) := by decide +kernel
theorem dX7_road_1 : decode cX7_road 1 = .ok (.getfield 26, 3) := by decide +kernel
theorem dX7_road_4 : decode cX7_road 4 = .ok (.iload_n 1, 1) := by decide +kernel
theorem dX7_road_5 : decode cX7_road 5 = .ok (.invokevirtual 149, 3) := by decide +kernel
theorem dX7_road_8 : decode cX7_road 8 = .ok (.ifCond .ne 6, 3) := by decide +kernel
theorem dX7_road_11 : decode cX7_road 11 = .ok (.ldc 76, 2) := by decide +kernel
theorem dX7_road_13 : decode cX7_road 13 = .ok (.ireturn, 1) := by decide +kernel
theorem dX7_road_14 : decode cX7_road 14 = .ok (.iload_n 2, 1) := by decide +kernel
theorem dX7_road_15 : decode cX7_road 15 = .ok (.tableswitch 72 0 3 #[29, 38, 47, 56], 29) := by decide +kernel
theorem dX7_road_44 : decode cX7_road 44 = .ok (.aload_n 0, 1) := by decide +kernel
theorem dX7_road_45 : decode cX7_road 45 = .ok (.getfield 26, 3) := by decide +kernel
theorem dX7_road_48 : decode cX7_road 48 = .ok (.iload_n 1, 1) := by decide +kernel
theorem dX7_road_49 : decode cX7_road 49 = .ok (.invokevirtual 197, 3) := by decide +kernel
theorem dX7_road_52 : decode cX7_road 52 = .ok (.ireturn, 1) := by decide +kernel
theorem dX7_road_53 : decode cX7_road 53 = .ok (.aload_n 0, 1) := by decide +kernel
theorem dX7_road_54 : decode cX7_road 54 = .ok (.getfield 26, 3) := by decide +kernel
theorem dX7_road_57 : decode cX7_road 57 = .ok (.iload_n 1, 1) := by decide +kernel
theorem dX7_road_58 : decode cX7_road 58 = .ok (.invokevirtual 200, 3) := by decide +kernel
theorem dX7_road_61 : decode cX7_road 61 = .ok (.ireturn, 1) := by decide +kernel
theorem dX7_road_62 : decode cX7_road 62 = .ok (.aload_n 0, 1) := by decide +kernel
theorem dX7_road_63 : decode cX7_road 63 = .ok (.getfield 26, 3) := by decide +kernel
theorem dX7_road_66 : decode cX7_road 66 = .ok (.iload_n 1, 1) := by decide +kernel
theorem dX7_road_67 : decode cX7_road 67 = .ok (.invokevirtual 203, 3) := by decide +kernel
theorem dX7_road_70 : decode cX7_road 70 = .ok (.ireturn, 1) := by decide +kernel
theorem dX7_road_71 : decode cX7_road 71 = .ok (.aload_n 0, 1) := by decide +kernel
theorem dX7_road_72 : decode cX7_road 72 = .ok (.getfield 26, 3) := by decide +kernel
theorem dX7_road_75 : decode cX7_road 75 = .ok (.iload_n 1, 1) := by decide +kernel
theorem dX7_road_76 : decode cX7_road 76 = .ok (.aload_n 0, 1) := by decide +kernel
theorem dX7_road_77 : decode cX7_road 77 = .ok (.getfield 26, 3) := by decide +kernel
theorem dX7_road_80 : decode cX7_road 80 = .ok (.invokevirtual 182, 3) := by decide +kernel
theorem dX7_road_83 : decode cX7_road 83 = .ok (.invokevirtual 206, 3) := by decide +kernel
theorem dX7_road_86 : decode cX7_road 86 = .ok (.ireturn, 1) := by decide +kernel
theorem dX7_road_87 : decode cX7_road 87 = .ok (.ldc 76, 2) := by decide +kernel
theorem dX7_road_89 : decode cX7_road 89 = .ok (.ireturn, 1) := by decide +kernel
theorem dX7_met_0 : decode cX7_met 0 = .ok (.aload_n 0, 1) := by decide +kernel
theorem dX7_met_1 : decode cX7_met 1 = .ok (.getfield 26, 3) := by decide +kernel
theorem dX7_met_4 : decode cX7_met 4 = .ok (.iload_n 1, 1) := by decide +kernel
theorem dX7_met_5 : decode cX7_met 5 = .ok (.invokevirtual 149, 3) := by decide +kernel
theorem dX7_met_8 : decode cX7_met 8 = .ok (.ifCond .eq 14, 3) := by decide +kernel
theorem dX7_met_11 : decode cX7_met 11 = .ok (.aload_n 0, 1) := by decide +kernel
theorem dX7_met_12 : decode cX7_met 12 = .ok (.getfield 26, 3) := by decide +kernel
theorem dX7_met_15 : decode cX7_met 15 = .ok (.iload_n 2, 1) := by decide +kernel
theorem dX7_met_16 : decode cX7_met 16 = .ok (.invokevirtual 210, 3) := by decide +kernel
theorem dX7_met_19 : decode cX7_met 19 = .ok (.ifCond .ne 6, 3) := by decide +kernel
theorem dX7_met_22 : decode cX7_met 22 = .ok (.ldc 76, 2) := by decide +kernel
theorem dX7_met_24 : decode cX7_met 24 = .ok (.ireturn, 1) := by decide +kernel
theorem dX7_met_25 : decode cX7_met 25 = .ok (.iload_n 3, 1) := by decide +kernel
theorem dX7_met_26 : decode cX7_met 26 = .ok (.lookupswitch 63 #[(0, 26), (1, 36)], 26) := by decide +kernel
theorem dX7_met_52 : decode cX7_met 52 = .ok (.aload_n 0, 1) := by decide +kernel
theorem dX7_met_53 : decode cX7_met 53 = .ok (.getfield 26, 3) := by decide +kernel
theorem dX7_met_56 : decode cX7_met 56 = .ok (.iload_n 1, 1) := by decide +kernel
theorem dX7_met_57 : decode cX7_met 57 = .ok (.iload_n 2, 1) := by decide +kernel
theorem dX7_met_58 : decode cX7_met 58 = .ok (.invokevirtual 213, 3) := by decide +kernel
theorem dX7_met_61 : decode cX7_met 61 = .ok (.ireturn, 1) := by decide +kernel
theorem dX7_met_62 : decode cX7_met 62 = .ok (.aload_n 0, 1) := by decide +kernel
theorem dX7_met_63 : decode cX7_met 63 = .ok (.getfield 26, 3) := by decide +kernel
theorem dX7_met_66 : decode cX7_met 66 = .ok (.iload_n 1, 1) := by decide +kernel
theorem dX7_met_67 : decode cX7_met 67 = .ok (.iload_n 2, 1) := by decide +kernel
theorem dX7_met_68 : decode cX7_met 68 = .ok (.invokevirtual 213, 3) := by decide +kernel
theorem dX7_met_71 : decode cX7_met 71 = .ok (.ifCond .ne 8, 3) := by decide +kernel
theorem dX7_met_74 : decode cX7_met 74 = .ok (.ldc 216, 2) := by decide +kernel
theorem dX7_met_76 : decode cX7_met 76 = .ok (.goto 12, 3) := by decide +kernel
theorem dX7_met_79 : decode cX7_met 79 = .ok (.aload_n 0, 1) := by decide +kernel
theorem dX7_met_80 : decode cX7_met 80 = .ok (.getfield 26, 3) := by decide +kernel
theorem dX7_met_83 : decode cX7_met 83 = .ok (.iload_n 1, 1) := by decide +kernel
theorem dX7_met_84 : decode cX7_met 84 = .ok (.iload_n 2, 1) := by decide +kernel
theorem dX7_met_85 : decode cX7_met 85 = .ok (.invokevirtual 217, 3) := by decide +kernel
theorem dX7_met_88 : decode cX7_met 88 = .ok (.ireturn, 1) := by decide +kernel
theorem dX7_met_89 : decode cX7_met 89 = .ok (.ldc 76, 2) := by decide +kernel
theorem dX7_met_91 : decode cX7_met 91 = .ok (.ireturn, 1) := by decide +kernel
theorem dX7_reach_0 : decode cX7_reach 0 = .ok (.aload_n 0, 1) := by decide +kernel
theorem dX7_reach_1 : decode cX7_reach 1 = .ok (.getfield 26, 3) := by decide +kernel
theorem dX7_reach_4 : decode cX7_reach 4 = .ok (.iload_n 1, 1) := by decide +kernel
theorem dX7_reach_5 : decode cX7_reach 5 = .ok (.invokevirtual 146, 3) := by decide +kernel
theorem dX7_reach_8 : decode cX7_reach 8 = .ok (.ifCond .eq 14, 3) := by decide +kernel
theorem dX7_reach_11 : decode cX7_reach 11 = .ok (.aload_n 0, 1) := by decide +kernel
theorem dX7_reach_12 : decode cX7_reach 12 = .ok (.getfield 45, 3) := by decide +kernel
theorem dX7_reach_15 : decode cX7_reach 15 = .ok (.iload_n 1, 1) := by decide +kernel
theorem dX7_reach_16 : decode cX7_reach 16 = .ok (.invokevirtual 220, 3) := by decide +kernel
theorem dX7_reach_19 : decode cX7_reach 19 = .ok (.goto 5, 3) := by decide +kernel
theorem dX7_reach_22 : decode cX7_reach 22 = .ok (.ldc 76, 2) := by decide +kernel
theorem dX7_reach_24 : decode cX7_reach 24 = .ok (.ireturn, 1) := by decide +kernel
theorem dX7_way_0 : decode cX7_way 0 = .ok (.aload_n 0, 1) := by decide +kernel
theorem dX7_way_1 : decode cX7_way 1 = .ok (.getfield 26, 3) := by decide +kernel
theorem dX7_way_4 : decode cX7_way 4 = .ok (.iload_n 1, 1) := by decide +kernel
theorem dX7_way_5 : decode cX7_way 5 = .ok (.invokevirtual 146, 3) := by decide +kernel
theorem dX7_way_8 : decode cX7_way 8 = .ok (.ifCond .eq 26, 3) := by decide +kernel
theorem dX7_way_11 : decode cX7_way 11 = .ok (.aload_n 0, 1) := by decide +kernel
theorem dX7_way_12 : decode cX7_way 12 = .ok (.getfield 26, 3) := by decide +kernel
theorem dX7_way_15 : decode cX7_way 15 = .ok (.iload_n 2, 1) := by decide +kernel
theorem dX7_way_16 : decode cX7_way 16 = .ok (.invokevirtual 223, 3) := by decide +kernel
theorem dX7_way_19 : decode cX7_way 19 = .ok (.ifCond .eq 15, 3) := by decide +kernel
theorem dX7_way_22 : decode cX7_way 22 = .ok (.aload_n 0, 1) := by decide +kernel
theorem dX7_way_23 : decode cX7_way 23 = .ok (.getfield 45, 3) := by decide +kernel
theorem dX7_way_26 : decode cX7_way 26 = .ok (.iload_n 1, 1) := by decide +kernel
theorem dX7_way_27 : decode cX7_way 27 = .ok (.iload_n 2, 1) := by decide +kernel
theorem dX7_way_28 : decode cX7_way 28 = .ok (.invokevirtual 226, 3) := by decide +kernel
theorem dX7_way_31 : decode cX7_way 31 = .ok (.goto 5, 3) := by decide +kernel
theorem dX7_way_34 : decode cX7_way 34 = .ok (.ldc 76, 2) := by decide +kernel
theorem dX7_way_36 : decode cX7_way 36 = .ok (.ireturn, 1) := by decide +kernel
theorem dX7_led_0 : decode cX7_led 0 = .ok (.aload_n 0, 1) := by decide +kernel
theorem dX7_led_1 : decode cX7_led 1 = .ok (.getfield 26, 3) := by decide +kernel
theorem dX7_led_4 : decode cX7_led 4 = .ok (.iload_n 1, 1) := by decide +kernel
theorem dX7_led_5 : decode cX7_led 5 = .ok (.iload_n 2, 1) := by decide +kernel
theorem dX7_led_6 : decode cX7_led 6 = .ok (.invokevirtual 167, 3) := by decide +kernel
theorem dX7_led_9 : decode cX7_led 9 = .ok (.ifCond .eq 27, 3) := by decide +kernel
theorem dX7_led_12 : decode cX7_led 12 = .ok (.aload_n 0, 1) := by decide +kernel
theorem dX7_led_13 : decode cX7_led 13 = .ok (.getfield 26, 3) := by decide +kernel
theorem dX7_led_16 : decode cX7_led 16 = .ok (.iload_n 3, 1) := by decide +kernel
theorem dX7_led_17 : decode cX7_led 17 = .ok (.invokevirtual 223, 3) := by decide +kernel
theorem dX7_led_20 : decode cX7_led 20 = .ok (.ifCond .eq 16, 3) := by decide +kernel
theorem dX7_led_23 : decode cX7_led 23 = .ok (.aload_n 0, 1) := by decide +kernel
theorem dX7_led_24 : decode cX7_led 24 = .ok (.getfield 45, 3) := by decide +kernel
theorem dX7_led_27 : decode cX7_led 27 = .ok (.iload_n 1, 1) := by decide +kernel
theorem dX7_led_28 : decode cX7_led 28 = .ok (.iload_n 2, 1) := by decide +kernel
theorem dX7_led_29 : decode cX7_led 29 = .ok (.iload_n 3, 1) := by decide +kernel
theorem dX7_led_30 : decode cX7_led 30 = .ok (.invokevirtual 229, 3) := by decide +kernel
theorem dX7_led_33 : decode cX7_led 33 = .ok (.goto 5, 3) := by decide +kernel
theorem dX7_led_36 : decode cX7_led 36 = .ok (.ldc 76, 2) := by decide +kernel
theorem dX7_led_38 : decode cX7_led 38 = .ok (.ireturn, 1) := by decide +kernel
theorem dX7_introduced_0 : decode cX7_introduced 0 = .ok (.aload_n 0, 1) := by decide +kernel
theorem dX7_introduced_1 : decode cX7_introduced 1 = .ok (.getfield 26, 3) := by decide +kernel
theorem dX7_introduced_4 : decode cX7_introduced 4 = .ok (.iload_n 1, 1) := by decide +kernel
theorem dX7_introduced_5 : decode cX7_introduced 5 = .ok (.invokevirtual 146, 3) := by decide +kernel
theorem dX7_introduced_8 : decode cX7_introduced 8 = .ok (.ifCond .eq 21, 3) := by decide +kernel
theorem dX7_introduced_11 : decode cX7_introduced 11 = .ok (.aload_n 0, 1) := by decide +kernel
theorem dX7_introduced_12 : decode cX7_introduced 12 = .ok (.getfield 26, 3) := by decide +kernel
theorem dX7_introduced_15 : decode cX7_introduced 15 = .ok (.iload_n 2, 1) := by decide +kernel
theorem dX7_introduced_16 : decode cX7_introduced 16 = .ok (.invokevirtual 223, 3) := by decide +kernel
theorem dX7_introduced_19 : decode cX7_introduced 19 = .ok (.ifCond .eq 10, 3) := by decide +kernel
theorem dX7_introduced_22 : decode cX7_introduced 22 = .ok (.iload_n 3, 1) := by decide +kernel
theorem dX7_introduced_23 : decode cX7_introduced 23 = .ok (.invokestatic 232, 3) := by decide +kernel
theorem dX7_introduced_26 : decode cX7_introduced 26 = .ok (.ifCond .ne 6, 3) := by decide +kernel
theorem dX7_introduced_29 : decode cX7_introduced 29 = .ok (.ldc 76, 2) := by decide +kernel
theorem dX7_introduced_31 : decode cX7_introduced 31 = .ok (.ireturn, 1) := by decide +kernel
theorem dX7_introduced_32 : decode cX7_introduced 32 = .ok (.aload_n 0, 1) := by decide +kernel
theorem dX7_introduced_33 : decode cX7_introduced 33 = .ok (.getfield 45, 3) := by decide +kernel
theorem dX7_introduced_36 : decode cX7_introduced 36 = .ok (.iload_n 1, 1) := by decide +kernel
theorem dX7_introduced_37 : decode cX7_introduced 37 = .ok (.iload_n 2, 1) := by decide +kernel
theorem dX7_introduced_38 : decode cX7_introduced 38 = .ok (.iload_n 3, 1) := by decide +kernel
theorem dX7_introduced_39 : decode cX7_introduced 39 = .ok (.invokevirtual 235, 3) := by decide +kernel
theorem dX7_introduced_42 : decode cX7_introduced 42 = .ok (.ireturn, 1) := by decide +kernel
theorem dX7_forgets_0 : decode cX7_forgets 0 = .ok (.aload_n 0, 1) := by decide +kernel
theorem dX7_forgets_1 : decode cX7_forgets 1 = .ok (.getfield 26, 3) := by decide +kernel
theorem dX7_forgets_4 : decode cX7_forgets 4 = .ok (.invokevirtual 179, 3) := by decide +kernel
theorem dX7_forgets_7 : decode cX7_forgets 7 = .ok (.ifCond .eq 13, 3) := by decide +kernel
theorem dX7_forgets_10 : decode cX7_forgets 10 = .ok (.aload_n 0, 1) := by decide +kernel
theorem dX7_forgets_11 : decode cX7_forgets 11 = .ok (.getfield 45, 3) := by decide +kernel
theorem dX7_forgets_14 : decode cX7_forgets 14 = .ok (.invokevirtual 238, 3) := by decide +kernel
theorem dX7_forgets_17 : decode cX7_forgets 17 = .ok (.goto 5, 3) := by decide +kernel
theorem dX7_forgets_20 : decode cX7_forgets 20 = .ok (.ldc 156, 2) := by decide +kernel
theorem dX7_forgets_22 : decode cX7_forgets 22 = .ok (.ireturn, 1) := by decide +kernel
theorem dX7_nobody_0 : decode cX7_nobody 0 = .ok (.aload_n 0, 1) := by decide +kernel
theorem dX7_nobody_1 : decode cX7_nobody 1 = .ok (.getfield 26, 3) := by decide +kernel
theorem dX7_nobody_4 : decode cX7_nobody 4 = .ok (.invokevirtual 179, 3) := by decide +kernel
theorem dX7_nobody_7 : decode cX7_nobody 7 = .ok (.ifCond .ne 6, 3) := by decide +kernel
theorem dX7_nobody_10 : decode cX7_nobody 10 = .ok (.ldc 156, 2) := by decide +kernel
theorem dX7_nobody_12 : decode cX7_nobody 12 = .ok (.ireturn, 1) := by decide +kernel
theorem dX7_nobody_13 : decode cX7_nobody 13 = .ok (.iload_n 1, 1) := by decide +kernel
theorem dX7_nobody_14 : decode cX7_nobody 14 = .ok (.ifCond .lt 9, 3) := by decide +kernel
theorem dX7_nobody_17 : decode cX7_nobody 17 = .ok (.iload_n 1, 1) := by decide +kernel
theorem dX7_nobody_18 : decode cX7_nobody 18 = .ok (.bipush 99, 2) := by decide +kernel
theorem dX7_nobody_20 : decode cX7_nobody 20 = .ok (.if_icmp .le 8, 3) := by decide +kernel
theorem dX7_nobody_23 : decode cX7_nobody 23 = .ok (.ldc 76, 2) := by decide +kernel
theorem dX7_nobody_25 : decode cX7_nobody 25 = .ok (.goto 11, 3) := by decide +kernel
theorem dX7_nobody_28 : decode cX7_nobody 28 = .ok (.aload_n 0, 1) := by decide +kernel
theorem dX7_nobody_29 : decode cX7_nobody 29 = .ok (.getfield 45, 3) := by decide +kernel
theorem dX7_nobody_32 : decode cX7_nobody 32 = .ok (.iload_n 1, 1) := by decide +kernel
theorem dX7_nobody_33 : decode cX7_nobody 33 = .ok (.invokevirtual 241, 3) := by decide +kernel
theorem dX7_nobody_36 : decode cX7_nobody 36 = .ok (.ireturn, 1) := by decide +kernel
theorem dX7_round_0 : decode cX7_round 0 = .ok (.aload_n 0, 1) := by decide +kernel
theorem dX7_round_1 : decode cX7_round 1 = .ok (.getfield 26, 3) := by decide +kernel
theorem dX7_round_4 : decode cX7_round 4 = .ok (.iload_n 1, 1) := by decide +kernel
theorem dX7_round_5 : decode cX7_round 5 = .ok (.invokevirtual 146, 3) := by decide +kernel
theorem dX7_round_8 : decode cX7_round 8 = .ok (.ifCond .eq 14, 3) := by decide +kernel
theorem dX7_round_11 : decode cX7_round 11 = .ok (.aload_n 0, 1) := by decide +kernel
theorem dX7_round_12 : decode cX7_round 12 = .ok (.getfield 45, 3) := by decide +kernel
theorem dX7_round_15 : decode cX7_round 15 = .ok (.iload_n 1, 1) := by decide +kernel
theorem dX7_round_16 : decode cX7_round 16 = .ok (.invokevirtual 244, 3) := by decide +kernel
theorem dX7_round_19 : decode cX7_round 19 = .ok (.goto 5, 3) := by decide +kernel
theorem dX7_round_22 : decode cX7_round 22 = .ok (.ldc 76, 2) := by decide +kernel
theorem dX7_round_24 : decode cX7_round 24 = .ok (.ireturn, 1) := by decide +kernel
theorem dX7_bars_0 : decode cX7_bars 0 = .ok (.aload_n 0, 1) := by decide +kernel
theorem dX7_bars_1 : decode cX7_bars 1 = .ok (.getfield 26, 3) := by decide +kernel
theorem dX7_bars_4 : decode cX7_bars 4 = .ok (.iload_n 1, 1) := by decide +kernel
theorem dX7_bars_5 : decode cX7_bars 5 = .ok (.invokevirtual 146, 3) := by decide +kernel
theorem dX7_bars_8 : decode cX7_bars 8 = .ok (.ifCond .eq 21, 3) := by decide +kernel
theorem dX7_bars_11 : decode cX7_bars 11 = .ok (.aload_n 0, 1) := by decide +kernel
theorem dX7_bars_12 : decode cX7_bars 12 = .ok (.getfield 26, 3) := by decide +kernel
theorem dX7_bars_15 : decode cX7_bars 15 = .ok (.iload_n 2, 1) := by decide +kernel
theorem dX7_bars_16 : decode cX7_bars 16 = .ok (.invokevirtual 223, 3) := by decide +kernel
theorem dX7_bars_19 : decode cX7_bars 19 = .ok (.ifCond .eq 10, 3) := by decide +kernel
theorem dX7_bars_22 : decode cX7_bars 22 = .ok (.iload_n 3, 1) := by decide +kernel
theorem dX7_bars_23 : decode cX7_bars 23 = .ok (.invokestatic 232, 3) := by decide +kernel
theorem dX7_bars_26 : decode cX7_bars 26 = .ok (.ifCond .ne 6, 3) := by decide +kernel
theorem dX7_bars_29 : decode cX7_bars 29 = .ok (.ldc 76, 2) := by decide +kernel
theorem dX7_bars_31 : decode cX7_bars 31 = .ok (.ireturn, 1) := by decide +kernel
theorem dX7_bars_32 : decode cX7_bars 32 = .ok (.aload_n 0, 1) := by decide +kernel
theorem dX7_bars_33 : decode cX7_bars 33 = .ok (.getfield 26, 3) := by decide +kernel
theorem dX7_bars_36 : decode cX7_bars 36 = .ok (.iload_n 1, 1) := by decide +kernel
theorem dX7_bars_37 : decode cX7_bars 37 = .ok (.invokevirtual 164, 3) := by decide +kernel
theorem dX7_bars_40 : decode cX7_bars 40 = .ok (.iload_n 2, 1) := by decide +kernel
theorem dX7_bars_41 : decode cX7_bars 41 = .ok (.if_icmp .ne 6, 3) := by decide +kernel
theorem dX7_bars_44 : decode cX7_bars 44 = .ok (.ldc 216, 2) := by decide +kernel
theorem dX7_bars_46 : decode cX7_bars 46 = .ok (.ireturn, 1) := by decide +kernel
theorem dX7_bars_47 : decode cX7_bars 47 = .ok (.aload_n 0, 1) := by decide +kernel
theorem dX7_bars_48 : decode cX7_bars 48 = .ok (.getfield 45, 3) := by decide +kernel
theorem dX7_bars_51 : decode cX7_bars 51 = .ok (.iload_n 1, 1) := by decide +kernel
theorem dX7_bars_52 : decode cX7_bars 52 = .ok (.iload_n 2, 1) := by decide +kernel
theorem dX7_bars_53 : decode cX7_bars 53 = .ok (.invokevirtual 247, 3) := by decide +kernel
theorem dX7_bars_56 : decode cX7_bars 56 = .ok (.istore 4, 2) := by decide +kernel
theorem dX7_bars_58 : decode cX7_bars 58 = .ok (.iload_n 3, 1) := by decide +kernel
theorem dX7_bars_59 : decode cX7_bars 59 = .ok (.ifCond .ne 11, 3) := by decide +kernel
theorem dX7_bars_62 : decode cX7_bars 62 = .ok (.iload 4, 2) := by decide +kernel
theorem dX7_bars_64 : decode cX7_bars 64 = .ok (.invokestatic 250, 3) := by decide +kernel
theorem dX7_bars_67 : decode cX7_bars 67 = .ok (.goto 5, 3) := by decide +kernel
theorem dX7_bars_70 : decode cX7_bars 70 = .ok (.iload 4, 2) := by decide +kernel
theorem dX7_bars_72 : decode cX7_bars 72 = .ok (.ireturn, 1) := by decide +kernel
theorem dX7_meet_0 : decode cX7_meet 0 = .ok (.aload_n 0, 1) := by decide +kernel
theorem dX7_meet_1 : decode cX7_meet 1 = .ok (.getfield 26, 3) := by decide +kernel
theorem dX7_meet_4 : decode cX7_meet 4 = .ok (.iload_n 1, 1) := by decide +kernel
theorem dX7_meet_5 : decode cX7_meet 5 = .ok (.iload_n 2, 1) := by decide +kernel
theorem dX7_meet_6 : decode cX7_meet 6 = .ok (.invokevirtual 167, 3) := by decide +kernel
theorem dX7_meet_9 : decode cX7_meet 9 = .ok (.ifCond .eq 10, 3) := by decide +kernel
theorem dX7_meet_12 : decode cX7_meet 12 = .ok (.iload_n 3, 1) := by decide +kernel
theorem dX7_meet_13 : decode cX7_meet 13 = .ok (.invokestatic 232, 3) := by decide +kernel
theorem dX7_meet_16 : decode cX7_meet 16 = .ok (.ifCond .ne 6, 3) := by decide +kernel
theorem dX7_meet_19 : decode cX7_meet 19 = .ok (.ldc 76, 2) := by decide +kernel
theorem dX7_meet_21 : decode cX7_meet 21 = .ok (.ireturn, 1) := by decide +kernel
theorem dX7_meet_22 : decode cX7_meet 22 = .ok (.aload_n 0, 1) := by decide +kernel
theorem dX7_meet_23 : decode cX7_meet 23 = .ok (.getfield 45, 3) := by decide +kernel
theorem dX7_meet_26 : decode cX7_meet 26 = .ok (.iload_n 1, 1) := by decide +kernel
theorem dX7_meet_27 : decode cX7_meet 27 = .ok (.iload_n 2, 1) := by decide +kernel
theorem dX7_meet_28 : decode cX7_meet 28 = .ok (.iload_n 3, 1) := by decide +kernel
theorem dX7_meet_29 : decode cX7_meet 29 = .ok (.invokevirtual 255, 3) := by decide +kernel
theorem dX7_meet_32 : decode cX7_meet 32 = .ok (.ireturn, 1) := by decide +kernel
theorem dX7_whose_0 : decode cX7_whose 0 = .ok (.aload_n 0, 1) := by decide +kernel
theorem dX7_whose_1 : decode cX7_whose 1 = .ok (.getfield 26, 3) := by decide +kernel
theorem dX7_whose_4 : decode cX7_whose 4 = .ok (.invokevirtual 179, 3) := by decide +kernel
theorem dX7_whose_7 : decode cX7_whose 7 = .ok (.ifCond .ne 6, 3) := by decide +kernel
theorem dX7_whose_10 : decode cX7_whose 10 = .ok (.ldc 156, 2) := by decide +kernel
theorem dX7_whose_12 : decode cX7_whose 12 = .ok (.ireturn, 1) := by decide +kernel
theorem dX7_whose_13 : decode cX7_whose 13 = .ok (.iload_n 1, 1) := by decide +kernel
theorem dX7_whose_14 : decode cX7_whose 14 = .ok (.invokestatic 72, 3) := by decide +kernel
theorem dX7_whose_17 : decode cX7_whose 17 = .ok (.ifCond .eq 25, 3) := by decide +kernel
theorem dX7_whose_20 : decode cX7_whose 20 = .ok (.iload_n 3, 1) := by decide +kernel
theorem dX7_whose_21 : decode cX7_whose 21 = .ok (.ifCond .lt 21, 3) := by decide +kernel
theorem dX7_whose_24 : decode cX7_whose 24 = .ok (.iload_n 3, 1) := by decide +kernel
theorem dX7_whose_25 : decode cX7_whose 25 = .ok (.bipush 16, 2) := by decide +kernel
theorem dX7_whose_27 : decode cX7_whose 27 = .ok (.if_icmp .gt 15, 3) := by decide +kernel
theorem dX7_whose_30 : decode cX7_whose 30 = .ok (.aload_n 0, 1) := by decide +kernel
theorem dX7_whose_31 : decode cX7_whose 31 = .ok (.getfield 26, 3) := by decide +kernel
theorem dX7_whose_34 : decode cX7_whose 34 = .ok (.iload 4, 2) := by decide +kernel
theorem dX7_whose_36 : decode cX7_whose 36 = .ok (.invokevirtual 223, 3) := by decide +kernel
theorem dX7_whose_39 : decode cX7_whose 39 = .ok (.ifCond .ne 6, 3) := by decide +kernel
theorem dX7_whose_42 : decode cX7_whose 42 = .ok (.ldc 76, 2) := by decide +kernel
theorem dX7_whose_44 : decode cX7_whose 44 = .ok (.ireturn, 1) := by decide +kernel
theorem dX7_whose_45 : decode cX7_whose 45 = .ok (.aload_n 0, 1) := by decide +kernel
theorem dX7_whose_46 : decode cX7_whose 46 = .ok (.getfield 13, 3) := by decide +kernel
theorem dX7_whose_49 : decode cX7_whose 49 = .ok (.iload_n 1, 1) := by decide +kernel
theorem dX7_whose_50 : decode cX7_whose 50 = .ok (.invokevirtual 88, 3) := by decide +kernel
theorem dX7_whose_53 : decode cX7_whose 53 = .ok (.ifCond .eq 9, 3) := by decide +kernel
theorem dX7_whose_56 : decode cX7_whose 56 = .ok (.aload_n 0, 1) := by decide +kernel
theorem dX7_whose_57 : decode cX7_whose 57 = .ok (.iconst 1, 1) := by decide +kernel
theorem dX7_whose_58 : decode cX7_whose 58 = .ok (.invokevirtual 77, 3) := by decide +kernel
theorem dX7_whose_61 : decode cX7_whose 61 = .ok (.ireturn, 1) := by decide +kernel
theorem dX7_whose_62 : decode cX7_whose 62 = .ok (.aload_n 0, 1) := by decide +kernel
theorem dX7_whose_63 : decode cX7_whose 63 = .ok (.getfield 13, 3) := by decide +kernel
theorem dX7_whose_66 : decode cX7_whose 66 = .ok (.iload_n 1, 1) := by decide +kernel
theorem dX7_whose_67 : decode cX7_whose 67 = .ok (.iload_n 2, 1) := by decide +kernel
theorem dX7_whose_68 : decode cX7_whose 68 = .ok (.iload_n 3, 1) := by decide +kernel
theorem dX7_whose_69 : decode cX7_whose 69 = .ok (.invokevirtual 91, 3) := by decide +kernel
theorem dX7_whose_72 : decode cX7_whose 72 = .ok (.ifCond .ne 9, 3) := by decide +kernel
theorem dX7_whose_75 : decode cX7_whose 75 = .ok (.aload_n 0, 1) := by decide +kernel
theorem dX7_whose_76 : decode cX7_whose 76 = .ok (.iconst 2, 1) := by decide +kernel
theorem dX7_whose_77 : decode cX7_whose 77 = .ok (.invokevirtual 77, 3) := by decide +kernel
theorem dX7_whose_80 : decode cX7_whose 80 = .ok (.ireturn, 1) := by decide +kernel
theorem dX7_whose_81 : decode cX7_whose 81 = .ok (.aload_n 0, 1) := by decide +kernel
theorem dX7_whose_82 : decode cX7_whose 82 = .ok (.iload_n 1, 1) := by decide +kernel
theorem dX7_whose_83 : decode cX7_whose 83 = .ok (.iload_n 2, 1) := by decide +kernel
theorem dX7_whose_84 : decode cX7_whose 84 = .ok (.iload_n 3, 1) := by decide +kernel
theorem dX7_whose_85 : decode cX7_whose 85 = .ok (.iload 4, 2) := by decide +kernel
theorem dX7_whose_87 : decode cX7_whose 87 = .ok (.invokevirtual 258, 3) := by decide +kernel
theorem dX7_whose_90 : decode cX7_whose 90 = .ok (.istore 5, 2) := by decide +kernel
theorem dX7_whose_92 : decode cX7_whose 92 = .ok (.iload 5, 2) := by decide +kernel
theorem dX7_whose_94 : decode cX7_whose 94 = .ok (.ldc 76, 2) := by decide +kernel
theorem dX7_whose_96 : decode cX7_whose 96 = .ok (.if_icmp .ne 8, 3) := by decide +kernel
theorem dX7_whose_99 : decode cX7_whose 99 = .ok (.ldc 76, 2) := by decide +kernel
theorem dX7_whose_101 : decode cX7_whose 101 = .ok (.goto 9, 3) := by decide +kernel
theorem dX7_whose_104 : decode cX7_whose 104 = .ok (.aload_n 0, 1) := by decide +kernel
theorem dX7_whose_105 : decode cX7_whose 105 = .ok (.iload 5, 2) := by decide +kernel
theorem dX7_whose_107 : decode cX7_whose 107 = .ok (.invokevirtual 85, 3) := by decide +kernel
theorem dX7_whose_110 : decode cX7_whose 110 = .ok (.ireturn, 1) := by decide +kernel
theorem dX7_snow_0 : decode cX7_snow 0 = .ok (.aload_n 0, 1) := by decide +kernel
theorem dX7_snow_1 : decode cX7_snow 1 = .ok (.getfield 26, 3) := by decide +kernel
theorem dX7_snow_4 : decode cX7_snow 4 = .ok (.iload_n 1, 1) := by decide +kernel
theorem dX7_snow_5 : decode cX7_snow 5 = .ok (.invokevirtual 146, 3) := by decide +kernel
theorem dX7_snow_8 : decode cX7_snow 8 = .ok (.ifCond .eq 32, 3) := by decide +kernel
theorem dX7_snow_11 : decode cX7_snow 11 = .ok (.aload_n 0, 1) := by decide +kernel
theorem dX7_snow_12 : decode cX7_snow 12 = .ok (.getfield 26, 3) := by decide +kernel
theorem dX7_snow_15 : decode cX7_snow 15 = .ok (.iload_n 2, 1) := by decide +kernel
theorem dX7_snow_16 : decode cX7_snow 16 = .ok (.invokevirtual 223, 3) := by decide +kernel
theorem dX7_snow_19 : decode cX7_snow 19 = .ok (.ifCond .eq 21, 3) := by decide +kernel
theorem dX7_snow_22 : decode cX7_snow 22 = .ok (.iload_n 3, 1) := by decide +kernel
theorem dX7_snow_23 : decode cX7_snow 23 = .ok (.ifCond .lt 17, 3) := by decide +kernel
theorem dX7_snow_26 : decode cX7_snow 26 = .ok (.iload_n 3, 1) := by decide +kernel
theorem dX7_snow_27 : decode cX7_snow 27 = .ok (.bipush 10, 2) := by decide +kernel
theorem dX7_snow_29 : decode cX7_snow 29 = .ok (.if_icmp .gt 11, 3) := by decide +kernel
theorem dX7_snow_32 : decode cX7_snow 32 = .ok (.iload 4, 2) := by decide +kernel
theorem dX7_snow_34 : decode cX7_snow 34 = .ok (.invokestatic 232, 3) := by decide +kernel
theorem dX7_snow_37 : decode cX7_snow 37 = .ok (.ifCond .ne 7, 3) := by decide +kernel
theorem dX7_snow_40 : decode cX7_snow 40 = .ok (.ldc2_w 262, 3) := by decide +kernel
theorem dX7_snow_43 : decode cX7_snow 43 = .ok (.lreturn, 1) := by decide +kernel
theorem dX7_snow_44 : decode cX7_snow 44 = .ok (.aload_n 0, 1) := by decide +kernel
theorem dX7_snow_45 : decode cX7_snow 45 = .ok (.getfield 45, 3) := by decide +kernel
theorem dX7_snow_48 : decode cX7_snow 48 = .ok (.iload_n 1, 1) := by decide +kernel
theorem dX7_snow_49 : decode cX7_snow 49 = .ok (.iload_n 2, 1) := by decide +kernel
theorem dX7_snow_50 : decode cX7_snow 50 = .ok (.iload_n 3, 1) := by decide +kernel
theorem dX7_snow_51 : decode cX7_snow 51 = .ok (.iload 4, 2) := by decide +kernel
theorem dX7_snow_53 : decode cX7_snow 53 = .ok (.invokevirtual 264, 3) := by decide +kernel
theorem dX7_snow_56 : decode cX7_snow 56 = .ok (.lreturn, 1) := by decide +kernel
theorem dX7_image_0 : decode cX7_image 0 = .ok (.iload_n 1, 1) := by decide +kernel
theorem dX7_image_1 : decode cX7_image 1 = .ok (.ifCond .lt 8, 3) := by decide +kernel
theorem dX7_image_4 : decode cX7_image 4 = .ok (.iload_n 1, 1) := by decide +kernel
theorem dX7_image_5 : decode cX7_image 5 = .ok (.iconst 2, 1) := by decide +kernel
theorem dX7_image_6 : decode cX7_image 6 = .ok (.if_icmp .lt 6, 3) := by decide +kernel
theorem dX7_image_9 : decode cX7_image 9 = .ok (.ldc 76, 2) := by decide +kernel
theorem dX7_image_11 : decode cX7_image 11 = .ok (.ireturn, 1) := by decide +kernel
theorem dX7_image_12 : decode cX7_image 12 = .ok (.aload_n 0, 1) := by decide +kernel
theorem dX7_image_13 : decode cX7_image 13 = .ok (.getfield 26, 3) := by decide +kernel
theorem dX7_image_16 : decode cX7_image 16 = .ok (.invokevirtual 179, 3) := by decide +kernel
theorem dX7_image_19 : decode cX7_image 19 = .ok (.ifCond .ne 6, 3) := by decide +kernel
theorem dX7_image_22 : decode cX7_image 22 = .ok (.ldc 156, 2) := by decide +kernel
theorem dX7_image_24 : decode cX7_image 24 = .ok (.ireturn, 1) := by decide +kernel
theorem dX7_image_25 : decode cX7_image 25 = .ok (.aload_n 0, 1) := by decide +kernel
theorem dX7_image_26 : decode cX7_image 26 = .ok (.getfield 26, 3) := by decide +kernel
theorem dX7_image_29 : decode cX7_image 29 = .ok (.aload_n 0, 1) := by decide +kernel
theorem dX7_image_30 : decode cX7_image 30 = .ok (.getfield 58, 3) := by decide +kernel
theorem dX7_image_33 : decode cX7_image 33 = .ok (.iload_n 1, 1) := by decide +kernel
theorem dX7_image_34 : decode cX7_image 34 = .ok (.aaload, 1) := by decide +kernel
theorem dX7_image_35 : decode cX7_image 35 = .ok (.invokevirtual 268, 3) := by decide +kernel
theorem dX7_image_38 : decode cX7_image 38 = .ok (.aload_n 0, 1) := by decide +kernel
theorem dX7_image_39 : decode cX7_image 39 = .ok (.getfield 61, 3) := by decide +kernel
theorem dX7_image_42 : decode cX7_image 42 = .ok (.iload_n 1, 1) := by decide +kernel
theorem dX7_image_43 : decode cX7_image 43 = .ok (.iconst 1, 1) := by decide +kernel
theorem dX7_image_44 : decode cX7_image 44 = .ok (.bastore, 1) := by decide +kernel
theorem dX7_image_45 : decode cX7_image 45 = .ok (.iconst 1, 1) := by decide +kernel
theorem dX7_image_46 : decode cX7_image 46 = .ok (.ireturn, 1) := by decide +kernel
theorem dX7_restore_0 : decode cX7_restore 0 = .ok (.iload_n 1, 1) := by decide +kernel
theorem dX7_restore_1 : decode cX7_restore 1 = .ok (.ifCond .lt 8, 3) := by decide +kernel
theorem dX7_restore_4 : decode cX7_restore 4 = .ok (.iload_n 1, 1) := by decide +kernel
theorem dX7_restore_5 : decode cX7_restore 5 = .ok (.iconst 2, 1) := by decide +kernel
theorem dX7_restore_6 : decode cX7_restore 6 = .ok (.if_icmp .lt 6, 3) := by decide +kernel
theorem dX7_restore_9 : decode cX7_restore 9 = .ok (.ldc 76, 2) := by decide +kernel
theorem dX7_restore_11 : decode cX7_restore 11 = .ok (.ireturn, 1) := by decide +kernel
theorem dX7_restore_12 : decode cX7_restore 12 = .ok (.aload_n 0, 1) := by decide +kernel
theorem dX7_restore_13 : decode cX7_restore 13 = .ok (.getfield 61, 3) := by decide +kernel
theorem dX7_restore_16 : decode cX7_restore 16 = .ok (.iload_n 1, 1) := by decide +kernel
theorem dX7_restore_17 : decode cX7_restore 17 = .ok (.baload, 1) := by decide +kernel
theorem dX7_restore_18 : decode cX7_restore 18 = .ok (.ifCond .ne 6, 3) := by decide +kernel
theorem dX7_restore_21 : decode cX7_restore 21 = .ok (.ldc 156, 2) := by decide +kernel
theorem dX7_restore_23 : decode cX7_restore 23 = .ok (.ireturn, 1) := by decide +kernel
theorem dX7_restore_24 : decode cX7_restore 24 = .ok (.aload_n 0, 1) := by decide +kernel
theorem dX7_restore_25 : decode cX7_restore 25 = .ok (.getfield 26, 3) := by decide +kernel
theorem dX7_restore_28 : decode cX7_restore 28 = .ok (.aload_n 0, 1) := by decide +kernel
theorem dX7_restore_29 : decode cX7_restore 29 = .ok (.getfield 58, 3) := by decide +kernel
theorem dX7_restore_32 : decode cX7_restore 32 = .ok (.iload_n 1, 1) := by decide +kernel
theorem dX7_restore_33 : decode cX7_restore 33 = .ok (.aaload, 1) := by decide +kernel
theorem dX7_restore_34 : decode cX7_restore 34 = .ok (.invokevirtual 136, 3) := by decide +kernel
theorem dX7_restore_37 : decode cX7_restore 37 = .ok (.aload_n 0, 1) := by decide +kernel
theorem dX7_restore_38 : decode cX7_restore 38 = .ok (.getfield 36, 3) := by decide +kernel
theorem dX7_restore_41 : decode cX7_restore 41 = .ok (.invokevirtual 140, 3) := by decide +kernel
theorem dX7_restore_44 : decode cX7_restore 44 = .ok (.iconst 1, 1) := by decide +kernel
theorem dX7_restore_45 : decode cX7_restore 45 = .ok (.ireturn, 1) := by decide +kernel
theorem dX7_kind_0 : decode cX7_kind 0 = .ok (.aload_n 0, 1) := by decide +kernel
theorem dX7_kind_1 : decode cX7_kind 1 = .ok (.getfield 26, 3) := by decide +kernel
theorem dX7_kind_4 : decode cX7_kind 4 = .ok (.iload_n 1, 1) := by decide +kernel
theorem dX7_kind_5 : decode cX7_kind 5 = .ok (.invokevirtual 149, 3) := by decide +kernel
theorem dX7_kind_8 : decode cX7_kind 8 = .ok (.ifCond .eq 14, 3) := by decide +kernel
theorem dX7_kind_11 : decode cX7_kind 11 = .ok (.aload_n 0, 1) := by decide +kernel
theorem dX7_kind_12 : decode cX7_kind 12 = .ok (.getfield 26, 3) := by decide +kernel
theorem dX7_kind_15 : decode cX7_kind 15 = .ok (.iload_n 1, 1) := by decide +kernel
theorem dX7_kind_16 : decode cX7_kind 16 = .ok (.invokevirtual 271, 3) := by decide +kernel
theorem dX7_kind_19 : decode cX7_kind 19 = .ok (.goto 5, 3) := by decide +kernel
theorem dX7_kind_22 : decode cX7_kind 22 = .ok (.ldc 76, 2) := by decide +kernel
theorem dX7_kind_24 : decode cX7_kind 24 = .ok (.ireturn, 1) := by decide +kernel
theorem dX7_as_0 : decode cX7_as 0 = .ok (.aload_n 0, 1) := by decide +kernel
theorem dX7_as_1 : decode cX7_as 1 = .ok (.getfield 26, 3) := by decide +kernel
theorem dX7_as_4 : decode cX7_as 4 = .ok (.iload_n 1, 1) := by decide +kernel
theorem dX7_as_5 : decode cX7_as 5 = .ok (.invokevirtual 149, 3) := by decide +kernel
theorem dX7_as_8 : decode cX7_as 8 = .ok (.ifCond .eq 10, 3) := by decide +kernel
theorem dX7_as_11 : decode cX7_as 11 = .ok (.iload_n 2, 1) := by decide +kernel
theorem dX7_as_12 : decode cX7_as 12 = .ok (.invokestatic 274, 3) := by decide +kernel
theorem dX7_as_15 : decode cX7_as 15 = .ok (.ifCond .ne 6, 3) := by decide +kernel
theorem dX7_as_18 : decode cX7_as 18 = .ok (.ldc 76, 2) := by decide +kernel
theorem dX7_as_20 : decode cX7_as 20 = .ok (.ireturn, 1) := by decide +kernel
theorem dX7_as_21 : decode cX7_as 21 = .ok (.aload_n 0, 1) := by decide +kernel
theorem dX7_as_22 : decode cX7_as 22 = .ok (.getfield 26, 3) := by decide +kernel
theorem dX7_as_25 : decode cX7_as 25 = .ok (.iload_n 1, 1) := by decide +kernel
theorem dX7_as_26 : decode cX7_as 26 = .ok (.invokevirtual 271, 3) := by decide +kernel
theorem dX7_as_29 : decode cX7_as 29 = .ok (.iload_n 2, 1) := by decide +kernel
theorem dX7_as_30 : decode cX7_as 30 = .ok (.invokestatic 277, 3) := by decide +kernel
theorem dX7_as_33 : decode cX7_as 33 = .ok (.ifCond .eq 11, 3) := by decide +kernel
theorem dX7_as_36 : decode cX7_as 36 = .ok (.aload_n 0, 1) := by decide +kernel
theorem dX7_as_37 : decode cX7_as 37 = .ok (.iload_n 1, 1) := by decide +kernel
theorem dX7_as_38 : decode cX7_as 38 = .ok (.invokevirtual 85, 3) := by decide +kernel
theorem dX7_as_41 : decode cX7_as 41 = .ok (.goto 8, 3) := by decide +kernel
theorem dX7_as_44 : decode cX7_as 44 = .ok (.aload_n 0, 1) := by decide +kernel
theorem dX7_as_45 : decode cX7_as 45 = .ok (.iconst 3, 1) := by decide +kernel
theorem dX7_as_46 : decode cX7_as 46 = .ok (.invokevirtual 77, 3) := by decide +kernel
theorem dX7_as_49 : decode cX7_as 49 = .ok (.ireturn, 1) := by decide +kernel
theorem dX7_ask_0 : decode cX7_ask 0 = .ok (.aload_n 0, 1) := by decide +kernel
theorem dX7_ask_1 : decode cX7_ask 1 = .ok (.getfield 26, 3) := by decide +kernel
theorem dX7_ask_4 : decode cX7_ask 4 = .ok (.iload_n 1, 1) := by decide +kernel
theorem dX7_ask_5 : decode cX7_ask 5 = .ok (.invokevirtual 149, 3) := by decide +kernel
theorem dX7_ask_8 : decode cX7_ask 8 = .ok (.ifCond .eq 10, 3) := by decide +kernel
theorem dX7_ask_11 : decode cX7_ask 11 = .ok (.iload_n 2, 1) := by decide +kernel
theorem dX7_ask_12 : decode cX7_ask 12 = .ok (.invokestatic 232, 3) := by decide +kernel
theorem dX7_ask_15 : decode cX7_ask 15 = .ok (.ifCond .ne 6, 3) := by decide +kernel
theorem dX7_ask_18 : decode cX7_ask 18 = .ok (.ldc 76, 2) := by decide +kernel
theorem dX7_ask_20 : decode cX7_ask 20 = .ok (.ireturn, 1) := by decide +kernel
theorem dX7_ask_21 : decode cX7_ask 21 = .ok (.aload_n 0, 1) := by decide +kernel
theorem dX7_ask_22 : decode cX7_ask 22 = .ok (.getfield 52, 3) := by decide +kernel
theorem dX7_ask_25 : decode cX7_ask 25 = .ok (.invokevirtual 280, 3) := by decide +kernel
theorem dX7_ask_28 : decode cX7_ask 28 = .ok (.aload_n 0, 1) := by decide +kernel
theorem dX7_ask_29 : decode cX7_ask 29 = .ok (.getfield 52, 3) := by decide +kernel
theorem dX7_ask_32 : decode cX7_ask 32 = .ok (.iload_n 1, 1) := by decide +kernel
theorem dX7_ask_33 : decode cX7_ask 33 = .ok (.iload_n 2, 1) := by decide +kernel
theorem dX7_ask_34 : decode cX7_ask 34 = .ok (.iconst 0, 1) := by decide +kernel
theorem dX7_ask_35 : decode cX7_ask 35 = .ok (.invokevirtual 283, 3) := by decide +kernel
theorem dX7_ask_38 : decode cX7_ask 38 = .ok (.ireturn, 1) := by decide +kernel
theorem dX7_trace_0 : decode cX7_trace 0 = .ok (.aload_n 0, 1) := by decide +kernel
theorem dX7_trace_1 : decode cX7_trace 1 = .ok (.getfield 52, 3) := by decide +kernel
theorem dX7_trace_4 : decode cX7_trace 4 = .ok (.iload_n 1, 1) := by decide +kernel
theorem dX7_trace_5 : decode cX7_trace 5 = .ok (.invokevirtual 286, 3) := by decide +kernel
theorem dX7_trace_8 : decode cX7_trace 8 = .ok (.ireturn, 1) := by decide +kernel
theorem dX7_count_0 : decode cX7_count 0 = .ok (.iload_n 1, 1) := by decide +kernel
theorem dX7_count_1 : decode cX7_count 1 = .ok (.tableswitch 123 0 8 #[51, 59, 67, 75, 83, 91, 99, 107, 115], 51) := by decide +kernel
theorem dX7_count_52 : decode cX7_count 52 = .ok (.aload_n 0, 1) := by decide +kernel
theorem dX7_count_53 : decode cX7_count 53 = .ok (.getfield 13, 3) := by decide +kernel
theorem dX7_count_56 : decode cX7_count 56 = .ok (.invokevirtual 289, 3) := by decide +kernel
theorem dX7_count_59 : decode cX7_count 59 = .ok (.ireturn, 1) := by decide +kernel
theorem dX7_count_60 : decode cX7_count 60 = .ok (.aload_n 0, 1) := by decide +kernel
theorem dX7_count_61 : decode cX7_count 61 = .ok (.getfield 26, 3) := by decide +kernel
theorem dX7_count_64 : decode cX7_count 64 = .ok (.invokevirtual 292, 3) := by decide +kernel
theorem dX7_count_67 : decode cX7_count 67 = .ok (.ireturn, 1) := by decide +kernel
theorem dX7_count_68 : decode cX7_count 68 = .ok (.aload_n 0, 1) := by decide +kernel
theorem dX7_count_69 : decode cX7_count 69 = .ok (.getfield 26, 3) := by decide +kernel
theorem dX7_count_72 : decode cX7_count 72 = .ok (.invokevirtual 143, 3) := by decide +kernel
theorem dX7_count_75 : decode cX7_count 75 = .ok (.ireturn, 1) := by decide +kernel
theorem dX7_count_76 : decode cX7_count 76 = .ok (.aload_n 0, 1) := by decide +kernel
theorem dX7_count_77 : decode cX7_count 77 = .ok (.getfield 26, 3) := by decide +kernel
theorem dX7_count_80 : decode cX7_count 80 = .ok (.invokevirtual 295, 3) := by decide +kernel
theorem dX7_count_83 : decode cX7_count 83 = .ok (.ireturn, 1) := by decide +kernel
theorem dX7_count_84 : decode cX7_count 84 = .ok (.aload_n 0, 1) := by decide +kernel
theorem dX7_count_85 : decode cX7_count 85 = .ok (.getfield 26, 3) := by decide +kernel
theorem dX7_count_88 : decode cX7_count 88 = .ok (.invokevirtual 298, 3) := by decide +kernel
theorem dX7_count_91 : decode cX7_count 91 = .ok (.ireturn, 1) := by decide +kernel
theorem dX7_count_92 : decode cX7_count 92 = .ok (.aload_n 0, 1) := by decide +kernel
theorem dX7_count_93 : decode cX7_count 93 = .ok (.getfield 26, 3) := by decide +kernel
theorem dX7_count_96 : decode cX7_count 96 = .ok (.invokevirtual 182, 3) := by decide +kernel
theorem dX7_count_99 : decode cX7_count 99 = .ok (.ireturn, 1) := by decide +kernel
theorem dX7_count_100 : decode cX7_count 100 = .ok (.aload_n 0, 1) := by decide +kernel
theorem dX7_count_101 : decode cX7_count 101 = .ok (.getfield 26, 3) := by decide +kernel
theorem dX7_count_104 : decode cX7_count 104 = .ok (.invokevirtual 301, 3) := by decide +kernel
theorem dX7_count_107 : decode cX7_count 107 = .ok (.ireturn, 1) := by decide +kernel
theorem dX7_count_108 : decode cX7_count 108 = .ok (.aload_n 0, 1) := by decide +kernel
theorem dX7_count_109 : decode cX7_count 109 = .ok (.getfield 36, 3) := by decide +kernel
theorem dX7_count_112 : decode cX7_count 112 = .ok (.invokevirtual 188, 3) := by decide +kernel
theorem dX7_count_115 : decode cX7_count 115 = .ok (.ireturn, 1) := by decide +kernel
theorem dX7_count_116 : decode cX7_count 116 = .ok (.aload_n 0, 1) := by decide +kernel
theorem dX7_count_117 : decode cX7_count 117 = .ok (.getfield 22, 3) := by decide +kernel
theorem dX7_count_120 : decode cX7_count 120 = .ok (.invokevirtual 304, 3) := by decide +kernel
theorem dX7_count_123 : decode cX7_count 123 = .ok (.ireturn, 1) := by decide +kernel
theorem dX7_count_124 : decode cX7_count 124 = .ok (.ldc 76, 2) := by decide +kernel
theorem dX7_count_126 : decode cX7_count 126 = .ok (.ireturn, 1) := by decide +kernel
theorem dX7_status_0 : decode cX7_status 0 = .ok (.aload_n 0, 1) := by decide +kernel
theorem dX7_status_1 : decode cX7_status 1 = .ok (.getfield 69, 3) := by decide +kernel
theorem dX7_status_4 : decode cX7_status 4 = .ok (.ireturn, 1) := by decide +kernel
theorem dX7_isZeroOrOne_0 : decode cX7_isZeroOrOne 0 = .ok (.iload_n 0, 1) := by decide +kernel
theorem dX7_isZeroOrOne_1 : decode cX7_isZeroOrOne 1 = .ok (.ifCond .eq 8, 3) := by decide +kernel
theorem dX7_isZeroOrOne_4 : decode cX7_isZeroOrOne 4 = .ok (.iload_n 0, 1) := by decide +kernel
theorem dX7_isZeroOrOne_5 : decode cX7_isZeroOrOne 5 = .ok (.iconst 1, 1) := by decide +kernel
theorem dX7_isZeroOrOne_6 : decode cX7_isZeroOrOne 6 = .ok (.if_icmp .ne 7, 3) := by decide +kernel
theorem dX7_isZeroOrOne_9 : decode cX7_isZeroOrOne 9 = .ok (.iconst 1, 1) := by decide +kernel
theorem dX7_isZeroOrOne_10 : decode cX7_isZeroOrOne 10 = .ok (.goto 4, 3) := by decide +kernel
theorem dX7_isZeroOrOne_13 : decode cX7_isZeroOrOne 13 = .ok (.iconst 0, 1) := by decide +kernel
theorem dX7_isZeroOrOne_14 : decode cX7_isZeroOrOne 14 = .ok (.ireturn, 1) := by decide +kernel
theorem dX7_found_0 : decode cX7_found 0 = .ok (.aload_n 0, 1) := by decide +kernel
theorem dX7_found_1 : decode cX7_found 1 = .ok (.iload_n 1, 1) := by decide +kernel
theorem dX7_found_2 : decode cX7_found 2 = .ok (.putfield 69, 3) := by decide +kernel
theorem dX7_found_5 : decode cX7_found 5 = .ok (.ldc_w 307, 3) := by decide +kernel
theorem dX7_found_8 : decode cX7_found 8 = .ok (.iload_n 1, 1) := by decide +kernel
theorem dX7_found_9 : decode cX7_found 9 = .ok (.isub, 1) := by decide +kernel
theorem dX7_found_10 : decode cX7_found 10 = .ok (.ireturn, 1) := by decide +kernel
theorem dX7_fine_0 : decode cX7_fine 0 = .ok (.aload_n 0, 1) := by decide +kernel
theorem dX7_fine_1 : decode cX7_fine 1 = .ok (.iconst 0, 1) := by decide +kernel
theorem dX7_fine_2 : decode cX7_fine 2 = .ok (.putfield 69, 3) := by decide +kernel
theorem dX7_fine_5 : decode cX7_fine 5 = .ok (.iload_n 1, 1) := by decide +kernel
theorem dX7_fine_6 : decode cX7_fine 6 = .ok (.ireturn, 1) := by decide +kernel
theorem dX7_solesThatWent_0 : decode cX7_solesThatWent 0 = .ok (.aload_n 0, 1) := by decide +kernel
theorem dX7_solesThatWent_1 : decode cX7_solesThatWent 1 = .ok (.getfield 26, 3) := by decide +kernel
theorem dX7_solesThatWent_4 : decode cX7_solesThatWent 4 = .ok (.invokevirtual 308, 3) := by decide +kernel
theorem dX7_solesThatWent_7 : decode cX7_solesThatWent 7 = .ok (.istore 5, 2) := by decide +kernel
theorem dX7_solesThatWent_9 : decode cX7_solesThatWent 9 = .ok (.iload 4, 2) := by decide +kernel
theorem dX7_solesThatWent_11 : decode cX7_solesThatWent 11 = .ok (.istore 6, 2) := by decide +kernel
theorem dX7_solesThatWent_13 : decode cX7_solesThatWent 13 = .ok (.iconst 0, 1) := by decide +kernel
theorem dX7_solesThatWent_14 : decode cX7_solesThatWent 14 = .ok (.istore 7, 2) := by decide +kernel
theorem dX7_solesThatWent_16 : decode cX7_solesThatWent 16 = .ok (.iload 7, 2) := by decide +kernel
theorem dX7_solesThatWent_18 : decode cX7_solesThatWent 18 = .ok (.iload_n 3, 1) := by decide +kernel
theorem dX7_solesThatWent_19 : decode cX7_solesThatWent 19 = .ok (.if_icmp .ge 86, 3) := by decide +kernel
theorem dX7_solesThatWent_22 : decode cX7_solesThatWent 22 = .ok (.aload_n 0, 1) := by decide +kernel
theorem dX7_solesThatWent_23 : decode cX7_solesThatWent 23 = .ok (.getfield 13, 3) := by decide +kernel
theorem dX7_solesThatWent_26 : decode cX7_solesThatWent 26 = .ok (.iload_n 1, 1) := by decide +kernel
theorem dX7_solesThatWent_27 : decode cX7_solesThatWent 27 = .ok (.iload_n 2, 1) := by decide +kernel
theorem dX7_solesThatWent_28 : decode cX7_solesThatWent 28 = .ok (.iload 7, 2) := by decide +kernel
theorem dX7_solesThatWent_30 : decode cX7_solesThatWent 30 = .ok (.iadd, 1) := by decide +kernel
theorem dX7_solesThatWent_31 : decode cX7_solesThatWent 31 = .ok (.invokevirtual 311, 3) := by decide +kernel
theorem dX7_solesThatWent_34 : decode cX7_solesThatWent 34 = .ok (.istore 8, 2) := by decide +kernel
theorem dX7_solesThatWent_36 : decode cX7_solesThatWent 36 = .ok (.aload_n 0, 1) := by decide +kernel
theorem dX7_solesThatWent_37 : decode cX7_solesThatWent 37 = .ok (.getfield 26, 3) := by decide +kernel
theorem dX7_solesThatWent_40 : decode cX7_solesThatWent 40 = .ok (.iload 8, 2) := by decide +kernel
theorem dX7_solesThatWent_42 : decode cX7_solesThatWent 42 = .ok (.invokevirtual 149, 3) := by decide +kernel
theorem dX7_solesThatWent_45 : decode cX7_solesThatWent 45 = .ok (.ifCond .eq 17, 3) := by decide +kernel
theorem dX7_solesThatWent_48 : decode cX7_solesThatWent 48 = .ok (.aload_n 0, 1) := by decide +kernel
theorem dX7_solesThatWent_49 : decode cX7_solesThatWent 49 = .ok (.getfield 26, 3) := by decide +kernel
theorem dX7_solesThatWent_52 : decode cX7_solesThatWent 52 = .ok (.iload 8, 2) := by decide +kernel
theorem dX7_solesThatWent_54 : decode cX7_solesThatWent 54 = .ok (.iload 6, 2) := by decide +kernel
theorem dX7_solesThatWent_56 : decode cX7_solesThatWent 56 = .ok (.invokevirtual 314, 3) := by decide +kernel
theorem dX7_solesThatWent_59 : decode cX7_solesThatWent 59 = .ok (.ifCond .ne 6, 3) := by decide +kernel
theorem dX7_solesThatWent_62 : decode cX7_solesThatWent 62 = .ok (.ldc 76, 2) := by decide +kernel
theorem dX7_solesThatWent_64 : decode cX7_solesThatWent 64 = .ok (.ireturn, 1) := by decide +kernel
theorem dX7_solesThatWent_65 : decode cX7_solesThatWent 65 = .ok (.iload 5, 2) := by decide +kernel
theorem dX7_solesThatWent_67 : decode cX7_solesThatWent 67 = .ok (.aload_n 0, 1) := by decide +kernel
theorem dX7_solesThatWent_68 : decode cX7_solesThatWent 68 = .ok (.getfield 26, 3) := by decide +kernel
theorem dX7_solesThatWent_71 : decode cX7_solesThatWent 71 = .ok (.iload 8, 2) := by decide +kernel
theorem dX7_solesThatWent_73 : decode cX7_solesThatWent 73 = .ok (.aload_n 0, 1) := by decide +kernel
theorem dX7_solesThatWent_74 : decode cX7_solesThatWent 74 = .ok (.getfield 26, 3) := by decide +kernel
theorem dX7_solesThatWent_77 : decode cX7_solesThatWent 77 = .ok (.invokevirtual 182, 3) := by decide +kernel
theorem dX7_solesThatWent_80 : decode cX7_solesThatWent 80 = .ok (.invokevirtual 206, 3) := by decide +kernel
theorem dX7_solesThatWent_83 : decode cX7_solesThatWent 83 = .ok (.iand, 1) := by decide +kernel
theorem dX7_solesThatWent_84 : decode cX7_solesThatWent 84 = .ok (.istore 5, 2) := by decide +kernel
theorem dX7_solesThatWent_86 : decode cX7_solesThatWent 86 = .ok (.aload_n 0, 1) := by decide +kernel
theorem dX7_solesThatWent_87 : decode cX7_solesThatWent 87 = .ok (.getfield 26, 3) := by decide +kernel
theorem dX7_solesThatWent_90 : decode cX7_solesThatWent 90 = .ok (.iload 8, 2) := by decide +kernel
theorem dX7_solesThatWent_92 : decode cX7_solesThatWent 92 = .ok (.iload 6, 2) := by decide +kernel
theorem dX7_solesThatWent_94 : decode cX7_solesThatWent 94 = .ok (.invokevirtual 317, 3) := by decide +kernel
theorem dX7_solesThatWent_97 : decode cX7_solesThatWent 97 = .ok (.istore 6, 2) := by decide +kernel
theorem dX7_solesThatWent_99 : decode cX7_solesThatWent 99 = .ok (.iinc 7 1, 3) := by decide +kernel
theorem dX7_solesThatWent_102 : decode cX7_solesThatWent 102 = .ok (.goto (-86), 3) := by decide +kernel
theorem dX7_solesThatWent_105 : decode cX7_solesThatWent 105 = .ok (.iload 5, 2) := by decide +kernel
theorem dX7_solesThatWent_107 : decode cX7_solesThatWent 107 = .ok (.ireturn, 1) := by decide +kernel
theorem dX8_init_0 : decode cX8_init 0 = .ok (.aload_n 0, 1) := by decide +kernel
theorem dX8_init_1 : decode cX8_init 1 = .ok (.invokespecial 1, 3) := by decide +kernel
theorem dX8_init_4 : decode cX8_init 4 = .ok (.aload_n 0, 1) := by decide +kernel
theorem dX8_init_5 : decode cX8_init 5 = .ok (.bipush 8, 2) := by decide +kernel
theorem dX8_init_7 : decode cX8_init 7 = .ok (.newarray .int, 2) := by decide +kernel
theorem dX8_init_9 : decode cX8_init 9 = .ok (.putfield 7, 3) := by decide +kernel
theorem dX8_init_12 : decode cX8_init 12 = .ok (.aload_n 0, 1) := by decide +kernel
theorem dX8_init_13 : decode cX8_init 13 = .ok (.bipush 8, 2) := by decide +kernel
theorem dX8_init_15 : decode cX8_init 15 = .ok (.newarray .int, 2) := by decide +kernel
theorem dX8_init_17 : decode cX8_init 17 = .ok (.putfield 13, 3) := by decide +kernel
theorem dX8_init_20 : decode cX8_init 20 = .ok (.aload_n 0, 1) := by decide +kernel
theorem dX8_init_21 : decode cX8_init 21 = .ok (.sipush 320, 3) := by decide +kernel
theorem dX8_init_24 : decode cX8_init 24 = .ok (.newarray .int, 2) := by decide +kernel
theorem dX8_init_26 : decode cX8_init 26 = .ok (.putfield 16, 3) := by decide +kernel
theorem dX8_init_29 : decode cX8_init 29 = .ok (.aload_n 0, 1) := by decide +kernel
theorem dX8_init_30 : decode cX8_init 30 = .ok (.bipush 122, 2) := by decide +kernel
theorem dX8_init_32 : decode cX8_init 32 = .ok (.newarray .int, 2) := by decide +kernel
theorem dX8_init_34 : decode cX8_init 34 = .ok (.putfield 19, 3) := by decide +kernel
theorem dX8_init_37 : decode cX8_init 37 = .ok (.aload_n 0, 1) := by decide +kernel
theorem dX8_init_38 : decode cX8_init 38 = .ok (.bipush 40, 2) := by decide +kernel
theorem dX8_init_40 : decode cX8_init 40 = .ok (.newarray .int, 2) := by decide +kernel
theorem dX8_init_42 : decode cX8_init 42 = .ok (.putfield 22, 3) := by decide +kernel
theorem dX8_init_45 : decode cX8_init 45 = .ok (.aload_n 0, 1) := by decide +kernel
theorem dX8_init_46 : decode cX8_init 46 = .ok (.bipush 120, 2) := by decide +kernel
theorem dX8_init_48 : decode cX8_init 48 = .ok (.newarray .int, 2) := by decide +kernel
theorem dX8_init_50 : decode cX8_init 50 = .ok (.putfield 25, 3) := by decide +kernel
theorem dX8_init_53 : decode cX8_init 53 = .ok (.aload_n 0, 1) := by decide +kernel
theorem dX8_init_54 : decode cX8_init 54 = .ok (.bipush 122, 2) := by decide +kernel
theorem dX8_init_56 : decode cX8_init 56 = .ok (.newarray .int, 2) := by decide +kernel
theorem dX8_init_58 : decode cX8_init 58 = .ok (.putfield 28, 3) := by decide +kernel
theorem dX8_init_61 : decode cX8_init 61 = .ok (.aload_n 0, 1) := by decide +kernel
theorem dX8_init_62 : decode cX8_init 62 = .ok (.sipush 2928, 3) := by decide +kernel
theorem dX8_init_65 : decode cX8_init 65 = .ok (.newarray .int, 2) := by decide +kernel
theorem dX8_init_67 : decode cX8_init 67 = .ok (.putfield 31, 3) := by decide +kernel
theorem dX8_init_70 : decode cX8_init 70 = .ok (.aload_n 0, 1) := by decide +kernel
theorem dX8_init_71 : decode cX8_init 71 = .ok (.bipush 8, 2) := by decide +kernel
theorem dX8_init_73 : decode cX8_init 73 = .ok (.newarray .int, 2) := by decide +kernel
theorem dX8_init_75 : decode cX8_init 75 = .ok (.putfield 34, 3) := by decide +kernel
theorem dX8_init_78 : decode cX8_init 78 = .ok (.aload_n 0, 1) := by decide +kernel
theorem dX8_init_79 : decode cX8_init 79 = .ok (.sipush 4096, 3) := by decide +kernel
theorem dX8_init_82 : decode cX8_init 82 = .ok (.newarray .int, 2) := by decide +kernel
theorem dX8_init_84 : decode cX8_init 84 = .ok (.putfield 37, 3) := by decide +kernel
theorem dX8_init_87 : decode cX8_init 87 = .ok (.aload_n 0, 1) := by decide +kernel
theorem dX8_init_88 : decode cX8_init 88 = .ok (.bipush 8, 2) := by decide +kernel
theorem dX8_init_90 : decode cX8_init 90 = .ok (.newarray .int, 2) := by decide +kernel
theorem dX8_init_92 : decode cX8_init 92 = .ok (.putfield 40, 3) := by decide +kernel
theorem dX8_init_95 : decode cX8_init 95 = .ok (.aload_n 0, 1) := by decide +kernel
theorem dX8_init_96 : decode cX8_init 96 = .ok (.bipush 122, 2) := by decide +kernel
theorem dX8_init_98 : decode cX8_init 98 = .ok (.newarray .int, 2) := by decide +kernel
theorem dX8_init_100 : decode cX8_init 100 = .ok (.putfield 43, 3) := by decide +kernel
theorem dX8_init_103 : decode cX8_init 103 = .ok (.aload_n 0, 1) := by decide +kernel
theorem dX8_init_104 : decode cX8_init 104 = .ok (.iconst 2, 1) := by decide +kernel
theorem dX8_init_105 : decode cX8_init 105 = .ok (.newarray .boolean, 2) := by decide +kernel
theorem dX8_init_107 : decode cX8_init 107 = .ok (.putfield 46, 3) := by decide +kernel
theorem dX8_init_110 : decode cX8_init 110 = .ok (.aload_n 0, 1) := by decide +kernel
theorem dX8_init_111 : decode cX8_init 111 = .ok (.sipush 244, 3) := by decide +kernel
theorem dX8_init_114 : decode cX8_init 114 = .ok (.newarray .int, 2) := by decide +kernel
theorem dX8_init_116 : decode cX8_init 116 = .ok (.putfield 50, 3) := by decide +kernel
theorem dX8_init_119 : decode cX8_init 119 = .ok (.aload_n 0, 1) := by decide +kernel
theorem dX8_init_120 : decode cX8_init 120 = .ok (.bipush 16, 2) := by decide +kernel
theorem dX8_init_122 : decode cX8_init 122 = .ok (.newarray .int, 2) := by decide +kernel
theorem dX8_init_124 : decode cX8_init 124 = .ok (.putfield 53, 3) := by decide +kernel
theorem dX8_init_127 : decode cX8_init 127 = .ok (.iconst 0, 1) := by decide +kernel
theorem dX8_init_128 : decode cX8_init 128 = .ok (.istore_n 1, 1) := by decide +kernel
theorem dX8_init_129 : decode cX8_init 129 = .ok (.iload_n 1, 1) := by decide +kernel
theorem dX8_init_130 : decode cX8_init 130 = .ok (.bipush 8, 2) := by decide +kernel
theorem dX8_init_132 : decode cX8_init 132 = .ok (.if_icmp .ge 16, 3) := by decide +kernel
theorem dX8_init_135 : decode cX8_init 135 = .ok (.aload_n 0, 1) := by decide +kernel
theorem dX8_init_136 : decode cX8_init 136 = .ok (.getfield 13, 3) := by decide +kernel
theorem dX8_init_139 : decode cX8_init 139 = .ok (.iload_n 1, 1) := by decide +kernel
theorem dX8_init_140 : decode cX8_init 140 = .ok (.iconst (-1), 1) := by decide +kernel
theorem dX8_init_141 : decode cX8_init 141 = .ok (.iastore, 1) := by decide +kernel
theorem dX8_init_142 : decode cX8_init 142 = .ok (.iinc 1 1, 3) := by decide +kernel
theorem dX8_init_145 : decode cX8_init 145 = .ok (.goto (-16), 3) := by decide +kernel
theorem dX8_init_148 : decode cX8_init 148 = .ok (.return_, 1) := by decide +kernel
theorem dX8_in_0 : decode cX8_in 0 = .ok (.lload_n 0, 1) := by decide +kernel
theorem dX8_in_1 : decode cX8_in 1 = .ok (.lload_n 2, 1) := by decide +kernel
theorem dX8_in_2 : decode cX8_in 2 = .ok (.lcmp, 1) := by decide +kernel
theorem dX8_in_3 : decode cX8_in 3 = .ok (.ifCond .lt 14, 3) := by decide +kernel
theorem dX8_in_6 : decode cX8_in 6 = .ok (.lload_n 0, 1) := by decide +kernel
theorem dX8_in_7 : decode cX8_in 7 = .ok (.lload 4, 2) := by decide +kernel
theorem dX8_in_9 : decode cX8_in 9 = .ok (.lcmp, 1) := by decide +kernel
theorem dX8_in_10 : decode cX8_in 10 = .ok (.ifCond .gt 7, 3) := by decide +kernel
theorem dX8_in_13 : decode cX8_in 13 = .ok (.iconst 1, 1) := by decide +kernel
theorem dX8_in_14 : decode cX8_in 14 = .ok (.goto 4, 3) := by decide +kernel
theorem dX8_in_17 : decode cX8_in 17 = .ok (.iconst 0, 1) := by decide +kernel
theorem dX8_in_18 : decode cX8_in 18 = .ok (.ireturn, 1) := by decide +kernel
theorem dX8_has_0 : decode cX8_has 0 = .ok (.iload_n 0, 1) := by decide +kernel
theorem dX8_has_1 : decode cX8_has 1 = .ok (.iload_n 1, 1) := by decide +kernel
theorem dX8_has_2 : decode cX8_has 2 = .ok (.ishr, 1) := by decide +kernel
theorem dX8_has_3 : decode cX8_has 3 = .ok (.iconst 1, 1) := by decide +kernel
theorem dX8_has_4 : decode cX8_has 4 = .ok (.iand, 1) := by decide +kernel
theorem dX8_has_5 : decode cX8_has 5 = .ok (.iconst 1, 1) := by decide +kernel
theorem dX8_has_6 : decode cX8_has 6 = .ok (.if_icmp .ne 7, 3) := by decide +kernel
theorem dX8_has_9 : decode cX8_has 9 = .ok (.iconst 1, 1) := by decide +kernel
theorem dX8_has_10 : decode cX8_has 10 = .ok (.goto 4, 3) := by decide +kernel
theorem dX8_has_13 : decode cX8_has 13 = .ok (.iconst 0, 1) := by decide +kernel
theorem dX8_has_14 : decode cX8_has 14 = .ok (.ireturn, 1) := by decide +kernel
theorem dX8_ones_0 : decode cX8_ones 0 = .ok (.iconst 0, 1) := by decide +kernel
theorem dX8_ones_1 : decode cX8_ones 1 = .ok (.istore_n 1, 1) := by decide +kernel
theorem dX8_ones_2 : decode cX8_ones 2 = .ok (.iload_n 0, 1) := by decide +kernel
theorem dX8_ones_3 : decode cX8_ones 3 = .ok (.istore_n 2, 1) := by decide +kernel
theorem dX8_ones_4 : decode cX8_ones 4 = .ok (.iload_n 2, 1) := by decide +kernel
theorem dX8_ones_5 : decode cX8_ones 5 = .ok (.ifCond .eq 15, 3) := by decide +kernel
theorem dX8_ones_8 : decode cX8_ones 8 = .ok (.iinc 1 1, 3) := by decide +kernel
theorem dX8_ones_11 : decode cX8_ones 11 = .ok (.iload_n 2, 1) := by decide +kernel
theorem dX8_ones_12 : decode cX8_ones 12 = .ok (.iload_n 2, 1) := by decide +kernel
theorem dX8_ones_13 : decode cX8_ones 13 = .ok (.iconst 1, 1) := by decide +kernel
theorem dX8_ones_14 : decode cX8_ones 14 = .ok (.isub, 1) := by decide +kernel
theorem dX8_ones_15 : decode cX8_ones 15 = .ok (.iand, 1) := by decide +kernel
theorem dX8_ones_16 : decode cX8_ones 16 = .ok (.istore_n 2, 1) := by decide +kernel
theorem dX8_ones_17 : decode cX8_ones 17 = .ok (.goto (-13), 3) := by decide +kernel
theorem dX8_ones_20 : decode cX8_ones 20 = .ok (.iload_n 1, 1) := by decide +kernel
theorem dX8_ones_21 : decode cX8_ones 21 = .ok (.ireturn, 1) := by decide +kernel
theorem dX8_find_0 : decode cX8_find 0 = .ok (.aload_n 0, 1) := by decide +kernel
theorem dX8_find_1 : decode cX8_find 1 = .ok (.iload_n 1, 1) := by decide +kernel
theorem dX8_find_2 : decode cX8_find 2 = .ok (.putfield 56, 3) := by decide +kernel
theorem dX8_find_5 : decode cX8_find 5 = .ok (.ldc 60, 2) := by decide +kernel
theorem dX8_find_7 : decode cX8_find 7 = .ok (.iload_n 1, 1) := by decide +kernel
theorem dX8_find_8 : decode cX8_find 8 = .ok (.isub, 1) := by decide +kernel
theorem dX8_find_9 : decode cX8_find 9 = .ok (.ireturn, 1) := by decide +kernel
theorem dX8_well_0 : decode cX8_well 0 = .ok (.aload_n 0, 1) := by decide +kernel
theorem dX8_well_1 : decode cX8_well 1 = .ok (.iconst 0, 1) := by decide +kernel
theorem dX8_well_2 : decode cX8_well 2 = .ok (.putfield 56, 3) := by decide +kernel
theorem dX8_well_5 : decode cX8_well 5 = .ok (.iload_n 1, 1) := by decide +kernel
theorem dX8_well_6 : decode cX8_well 6 = .ok (.ireturn, 1) := by decide +kernel
theorem dX8_isRow_0 : decode cX8_isRow 0 = .ok (.iload_n 0, 1) := by decide +kernel
theorem dX8_isRow_1 : decode cX8_isRow 1 = .ok (.i2l, 1) := by decide +kernel
theorem dX8_isRow_2 : decode cX8_isRow 2 = .ok (.lconst 0, 1) := by decide +kernel
theorem dX8_isRow_3 : decode cX8_isRow 3 = .ok (.ldc2_w 61, 3) := by decide +kernel
theorem dX8_isRow_6 : decode cX8_isRow 6 = .ok (.invokestatic 63, 3) := by decide +kernel
theorem dX8_isRow_9 : decode cX8_isRow 9 = .ok (.ireturn, 1) := by decide +kernel
theorem dX8_row_0 : decode cX8_row 0 = .ok (.iload_n 1, 1) := by decide +kernel
theorem dX8_row_1 : decode cX8_row 1 = .ok (.invokestatic 67, 3) := by decide +kernel
theorem dX8_row_4 : decode cX8_row 4 = .ok (.ifCond .eq 21, 3) := by decide +kernel
theorem dX8_row_7 : decode cX8_row 7 = .ok (.iload_n 2, 1) := by decide +kernel
theorem dX8_row_8 : decode cX8_row 8 = .ok (.i2l, 1) := by decide +kernel
theorem dX8_row_9 : decode cX8_row 9 = .ok (.lconst 0, 1) := by decide +kernel
theorem dX8_row_10 : decode cX8_row 10 = .ok (.ldc2_w 71, 3) := by decide +kernel
theorem dX8_row_13 : decode cX8_row 13 = .ok (.invokestatic 63, 3) := by decide +kernel
theorem dX8_row_16 : decode cX8_row 16 = .ok (.ifCond .eq 9, 3) := by decide +kernel
theorem dX8_row_19 : decode cX8_row 19 = .ok (.iload_n 3, 1) := by decide +kernel
theorem dX8_row_20 : decode cX8_row 20 = .ok (.bipush 40, 2) := by decide +kernel
theorem dX8_row_22 : decode cX8_row 22 = .ok (.if_icmp .le 6, 3) := by decide +kernel
theorem dX8_row_25 : decode cX8_row 25 = .ok (.ldc 73, 2) := by decide +kernel
theorem dX8_row_27 : decode cX8_row 27 = .ok (.ireturn, 1) := by decide +kernel
theorem dX8_row_28 : decode cX8_row 28 = .ok (.iload_n 3, 1) := by decide +kernel
theorem dX8_row_29 : decode cX8_row 29 = .ok (.ifCond .ge 9, 3) := by decide +kernel
theorem dX8_row_32 : decode cX8_row 32 = .ok (.aload_n 0, 1) := by decide +kernel
theorem dX8_row_33 : decode cX8_row 33 = .ok (.iconst 4, 1) := by decide +kernel
theorem dX8_row_34 : decode cX8_row 34 = .ok (.invokevirtual 74, 3) := by decide +kernel
theorem dX8_row_37 : decode cX8_row 37 = .ok (.ireturn, 1) := by decide +kernel
theorem dX8_row_38 : decode cX8_row 38 = .ok (.aload_n 0, 1) := by decide +kernel
theorem dX8_row_39 : decode cX8_row 39 = .ok (.getfield 7, 3) := by decide +kernel
theorem dX8_row_42 : decode cX8_row 42 = .ok (.iload_n 1, 1) := by decide +kernel
theorem dX8_row_43 : decode cX8_row 43 = .ok (.iload_n 2, 1) := by decide +kernel
theorem dX8_row_44 : decode cX8_row 44 = .ok (.iastore, 1) := by decide +kernel
theorem dX8_row_45 : decode cX8_row 45 = .ok (.aload_n 0, 1) := by decide +kernel
theorem dX8_row_46 : decode cX8_row 46 = .ok (.getfield 13, 3) := by decide +kernel
theorem dX8_row_49 : decode cX8_row 49 = .ok (.iload_n 1, 1) := by decide +kernel
theorem dX8_row_50 : decode cX8_row 50 = .ok (.iload_n 3, 1) := by decide +kernel
theorem dX8_row_51 : decode cX8_row 51 = .ok (.iastore, 1) := by decide +kernel
theorem dX8_row_52 : decode cX8_row 52 = .ok (.iconst 0, 1) := by decide +kernel
theorem dX8_row_53 : decode cX8_row 53 = .ok (.istore 4, 2) := by decide +kernel
theorem dX8_row_55 : decode cX8_row 55 = .ok (.iload 4, 2) := by decide +kernel
theorem dX8_row_57 : decode cX8_row 57 = .ok (.bipush 40, 2) := by decide +kernel
theorem dX8_row_59 : decode cX8_row 59 = .ok (.if_icmp .ge 22, 3) := by decide +kernel
theorem dX8_row_62 : decode cX8_row 62 = .ok (.aload_n 0, 1) := by decide +kernel
theorem dX8_row_63 : decode cX8_row 63 = .ok (.getfield 16, 3) := by decide +kernel
theorem dX8_row_66 : decode cX8_row 66 = .ok (.bipush 40, 2) := by decide +kernel
theorem dX8_row_68 : decode cX8_row 68 = .ok (.iload_n 1, 1) := by decide +kernel
theorem dX8_row_69 : decode cX8_row 69 = .ok (.imul, 1) := by decide +kernel
theorem dX8_row_70 : decode cX8_row 70 = .ok (.iload 4, 2) := by decide +kernel
theorem dX8_row_72 : decode cX8_row 72 = .ok (.iadd, 1) := by decide +kernel
theorem dX8_row_73 : decode cX8_row 73 = .ok (.iconst 0, 1) := by decide +kernel
theorem dX8_row_74 : decode cX8_row 74 = .ok (.iastore, 1) := by decide +kernel
theorem dX8_row_75 : decode cX8_row 75 = .ok (.iinc 4 1, 3) := by decide +kernel
theorem dX8_row_78 : decode cX8_row 78 = .ok (.goto (-23), 3) := by decide +kernel
theorem dX8_row_81 : decode cX8_row 81 = .ok (.aload_n 0, 1) := by decide +kernel
theorem dX8_row_82 : decode cX8_row 82 = .ok (.iload_n 3, 1) := by decide +kernel
theorem dX8_row_83 : decode cX8_row 83 = .ok (.invokevirtual 78, 3) := by decide +kernel
theorem dX8_row_86 : decode cX8_row 86 = .ok (.ireturn, 1) := by decide +kernel
theorem dX8_asLane_0 : decode cX8_asLane 0 = .ok (.iload_n 0, 1) := by decide +kernel
theorem dX8_asLane_1 : decode cX8_asLane 1 = .ok (.ifCond .ne 13, 3) := by decide +kernel
theorem dX8_asLane_4 : decode cX8_asLane 4 = .ok (.iload_n 1, 1) := by decide +kernel
theorem dX8_asLane_5 : decode cX8_asLane 5 = .ok (.bipush 24, 2) := by decide +kernel
theorem dX8_asLane_7 : decode cX8_asLane 7 = .ok (.ishl, 1) := by decide +kernel
theorem dX8_asLane_8 : decode cX8_asLane 8 = .ok (.bipush 24, 2) := by decide +kernel
theorem dX8_asLane_10 : decode cX8_asLane 10 = .ok (.ishr, 1) := by decide +kernel
theorem dX8_asLane_11 : decode cX8_asLane 11 = .ok (.goto 19, 3) := by decide +kernel
theorem dX8_asLane_14 : decode cX8_asLane 14 = .ok (.iload_n 0, 1) := by decide +kernel
theorem dX8_asLane_15 : decode cX8_asLane 15 = .ok (.iconst 1, 1) := by decide +kernel
theorem dX8_asLane_16 : decode cX8_asLane 16 = .ok (.if_icmp .ne 13, 3) := by decide +kernel
theorem dX8_asLane_19 : decode cX8_asLane 19 = .ok (.iload_n 1, 1) := by decide +kernel
theorem dX8_asLane_20 : decode cX8_asLane 20 = .ok (.bipush 16, 2) := by decide +kernel
theorem dX8_asLane_22 : decode cX8_asLane 22 = .ok (.ishl, 1) := by decide +kernel
theorem dX8_asLane_23 : decode cX8_asLane 23 = .ok (.bipush 16, 2) := by decide +kernel
theorem dX8_asLane_25 : decode cX8_asLane 25 = .ok (.ishr, 1) := by decide +kernel
theorem dX8_asLane_26 : decode cX8_asLane 26 = .ok (.goto 4, 3) := by decide +kernel
theorem dX8_asLane_29 : decode cX8_asLane 29 = .ok (.iload_n 1, 1) := by decide +kernel
theorem dX8_asLane_30 : decode cX8_asLane 30 = .ok (.ireturn, 1) := by decide +kernel
theorem dX8_set_0 : decode cX8_set 0 = .ok (.iload_n 1, 1) := by decide +kernel
theorem dX8_set_1 : decode cX8_set 1 = .ok (.invokestatic 67, 3) := by decide +kernel
theorem dX8_set_4 : decode cX8_set 4 = .ok (.ifCond .ne 6, 3) := by decide +kernel
theorem dX8_set_7 : decode cX8_set 7 = .ok (.ldc 73, 2) := by decide +kernel
theorem dX8_set_9 : decode cX8_set 9 = .ok (.ireturn, 1) := by decide +kernel
theorem dX8_set_10 : decode cX8_set 10 = .ok (.aload_n 0, 1) := by decide +kernel
theorem dX8_set_11 : decode cX8_set 11 = .ok (.getfield 13, 3) := by decide +kernel
theorem dX8_set_14 : decode cX8_set 14 = .ok (.iload_n 1, 1) := by decide +kernel
theorem dX8_set_15 : decode cX8_set 15 = .ok (.iaload, 1) := by decide +kernel
theorem dX8_set_16 : decode cX8_set 16 = .ok (.ifCond .ge 9, 3) := by decide +kernel
theorem dX8_set_19 : decode cX8_set 19 = .ok (.aload_n 0, 1) := by decide +kernel
theorem dX8_set_20 : decode cX8_set 20 = .ok (.iconst 1, 1) := by decide +kernel
theorem dX8_set_21 : decode cX8_set 21 = .ok (.invokevirtual 74, 3) := by decide +kernel
theorem dX8_set_24 : decode cX8_set 24 = .ok (.ireturn, 1) := by decide +kernel
theorem dX8_set_25 : decode cX8_set 25 = .ok (.iload_n 2, 1) := by decide +kernel
theorem dX8_set_26 : decode cX8_set 26 = .ok (.i2l, 1) := by decide +kernel
theorem dX8_set_27 : decode cX8_set 27 = .ok (.lconst 0, 1) := by decide +kernel
theorem dX8_set_28 : decode cX8_set 28 = .ok (.aload_n 0, 1) := by decide +kernel
theorem dX8_set_29 : decode cX8_set 29 = .ok (.getfield 13, 3) := by decide +kernel
theorem dX8_set_32 : decode cX8_set 32 = .ok (.iload_n 1, 1) := by decide +kernel
theorem dX8_set_33 : decode cX8_set 33 = .ok (.iaload, 1) := by decide +kernel
theorem dX8_set_34 : decode cX8_set 34 = .ok (.iconst 1, 1) := by decide +kernel
theorem dX8_set_35 : decode cX8_set 35 = .ok (.isub, 1) := by decide +kernel
theorem dX8_set_36 : decode cX8_set 36 = .ok (.i2l, 1) := by decide +kernel
theorem dX8_set_37 : decode cX8_set 37 = .ok (.invokestatic 63, 3) := by decide +kernel
theorem dX8_set_40 : decode cX8_set 40 = .ok (.ifCond .ne 9, 3) := by decide +kernel
theorem dX8_set_43 : decode cX8_set 43 = .ok (.aload_n 0, 1) := by decide +kernel
theorem dX8_set_44 : decode cX8_set 44 = .ok (.iconst 2, 1) := by decide +kernel
theorem dX8_set_45 : decode cX8_set 45 = .ok (.invokevirtual 74, 3) := by decide +kernel
theorem dX8_set_48 : decode cX8_set 48 = .ok (.ireturn, 1) := by decide +kernel
theorem dX8_set_49 : decode cX8_set 49 = .ok (.aload_n 0, 1) := by decide +kernel
theorem dX8_set_50 : decode cX8_set 50 = .ok (.getfield 16, 3) := by decide +kernel
theorem dX8_set_53 : decode cX8_set 53 = .ok (.bipush 40, 2) := by decide +kernel
theorem dX8_set_55 : decode cX8_set 55 = .ok (.iload_n 1, 1) := by decide +kernel
theorem dX8_set_56 : decode cX8_set 56 = .ok (.imul, 1) := by decide +kernel
theorem dX8_set_57 : decode cX8_set 57 = .ok (.iload_n 2, 1) := by decide +kernel
theorem dX8_set_58 : decode cX8_set 58 = .ok (.iadd, 1) := by decide +kernel
theorem dX8_set_59 : decode cX8_set 59 = .ok (.aload_n 0, 1) := by decide +kernel
theorem dX8_set_60 : decode cX8_set 60 = .ok (.getfield 7, 3) := by decide +kernel
theorem dX8_set_63 : decode cX8_set 63 = .ok (.iload_n 1, 1) := by decide +kernel
theorem dX8_set_64 : decode cX8_set 64 = .ok (.iaload, 1) := by decide +kernel
theorem dX8_set_65 : decode cX8_set 65 = .ok (.iload_n 3, 1) := by decide +kernel
theorem dX8_set_66 : decode cX8_set 66 = .ok (.invokestatic 81, 3) := by decide +kernel
theorem dX8_set_69 : decode cX8_set 69 = .ok (.iastore, 1) := by decide +kernel
theorem dX8_set_70 : decode cX8_set 70 = .ok (.aload_n 0, 1) := by decide +kernel
theorem dX8_set_71 : decode cX8_set 71 = .ok (.aload_n 0, 1) := by decide +kernel
theorem dX8_set_72 : decode cX8_set 72 = .ok (.getfield 16, 3) := by decide +kernel
theorem dX8_set_75 : decode cX8_set 75 = .ok (.bipush 40, 2) := by decide +kernel
theorem dX8_set_77 : decode cX8_set 77 = .ok (.iload_n 1, 1) := by decide +kernel
theorem dX8_set_78 : decode cX8_set 78 = .ok (.imul, 1) := by decide +kernel
theorem dX8_set_79 : decode cX8_set 79 = .ok (.iload_n 2, 1) := by decide +kernel
theorem dX8_set_80 : decode cX8_set 80 = .ok (.iadd, 1) := by decide +kernel
theorem dX8_set_81 : decode cX8_set 81 = .ok (.iaload, 1) := by decide +kernel
theorem dX8_set_82 : decode cX8_set 82 = .ok (.invokevirtual 78, 3) := by decide +kernel
theorem dX8_set_85 : decode cX8_set 85 = .ok (.ireturn, 1) := by decide +kernel
theorem dX8_copy_0 : decode cX8_copy 0 = .ok (.iload_n 1, 1) := by decide +kernel
theorem dX8_copy_1 : decode cX8_copy 1 = .ok (.invokestatic 67, 3) := by decide +kernel
theorem dX8_copy_4 : decode cX8_copy 4 = .ok (.ifCond .eq 10, 3) := by decide +kernel
theorem dX8_copy_7 : decode cX8_copy 7 = .ok (.iload_n 3, 1) := by decide +kernel
theorem dX8_copy_8 : decode cX8_copy 8 = .ok (.invokestatic 67, 3) := by decide +kernel
theorem dX8_copy_11 : decode cX8_copy 11 = .ok (.ifCond .ne 6, 3) := by decide +kernel
theorem dX8_copy_14 : decode cX8_copy 14 = .ok (.ldc 73, 2) := by decide +kernel
theorem dX8_copy_16 : decode cX8_copy 16 = .ok (.ireturn, 1) := by decide +kernel
theorem dX8_copy_17 : decode cX8_copy 17 = .ok (.aload_n 0, 1) := by decide +kernel
theorem dX8_copy_18 : decode cX8_copy 18 = .ok (.getfield 13, 3) := by decide +kernel
theorem dX8_copy_21 : decode cX8_copy 21 = .ok (.iload_n 1, 1) := by decide +kernel
theorem dX8_copy_22 : decode cX8_copy 22 = .ok (.iaload, 1) := by decide +kernel
theorem dX8_copy_23 : decode cX8_copy 23 = .ok (.ifCond .lt 12, 3) := by decide +kernel
theorem dX8_copy_26 : decode cX8_copy 26 = .ok (.aload_n 0, 1) := by decide +kernel
theorem dX8_copy_27 : decode cX8_copy 27 = .ok (.getfield 13, 3) := by decide +kernel
theorem dX8_copy_30 : decode cX8_copy 30 = .ok (.iload_n 3, 1) := by decide +kernel
theorem dX8_copy_31 : decode cX8_copy 31 = .ok (.iaload, 1) := by decide +kernel
theorem dX8_copy_32 : decode cX8_copy 32 = .ok (.ifCond .ge 9, 3) := by decide +kernel
theorem dX8_copy_35 : decode cX8_copy 35 = .ok (.aload_n 0, 1) := by decide +kernel
theorem dX8_copy_36 : decode cX8_copy 36 = .ok (.iconst 1, 1) := by decide +kernel
theorem dX8_copy_37 : decode cX8_copy 37 = .ok (.invokevirtual 74, 3) := by decide +kernel
theorem dX8_copy_40 : decode cX8_copy 40 = .ok (.ireturn, 1) := by decide +kernel
theorem dX8_copy_41 : decode cX8_copy 41 = .ok (.aload_n 0, 1) := by decide +kernel
theorem dX8_copy_42 : decode cX8_copy 42 = .ok (.getfield 7, 3) := by decide +kernel
theorem dX8_copy_45 : decode cX8_copy 45 = .ok (.iload_n 1, 1) := by decide +kernel
theorem dX8_copy_46 : decode cX8_copy 46 = .ok (.iaload, 1) := by decide +kernel
theorem dX8_copy_47 : decode cX8_copy 47 = .ok (.aload_n 0, 1) := by decide +kernel
theorem dX8_copy_48 : decode cX8_copy 48 = .ok (.getfield 7, 3) := by decide +kernel
theorem dX8_copy_51 : decode cX8_copy 51 = .ok (.iload_n 3, 1) := by decide +kernel
theorem dX8_copy_52 : decode cX8_copy 52 = .ok (.iaload, 1) := by decide +kernel
theorem dX8_copy_53 : decode cX8_copy 53 = .ok (.if_icmp .eq 9, 3) := by decide +kernel
theorem dX8_copy_56 : decode cX8_copy 56 = .ok (.aload_n 0, 1) := by decide +kernel
theorem dX8_copy_57 : decode cX8_copy 57 = .ok (.iconst 5, 1) := by decide +kernel
theorem dX8_copy_58 : decode cX8_copy 58 = .ok (.invokevirtual 74, 3) := by decide +kernel
theorem dX8_copy_61 : decode cX8_copy 61 = .ok (.ireturn, 1) := by decide +kernel
theorem dX8_copy_62 : decode cX8_copy 62 = .ok (.iload 5, 2) := by decide +kernel
theorem dX8_copy_64 : decode cX8_copy 64 = .ok (.ifCond .lt 44, 3) := by decide +kernel
theorem dX8_copy_67 : decode cX8_copy 67 = .ok (.iload_n 2, 1) := by decide +kernel
theorem dX8_copy_68 : decode cX8_copy 68 = .ok (.i2l, 1) := by decide +kernel
theorem dX8_copy_69 : decode cX8_copy 69 = .ok (.lconst 0, 1) := by decide +kernel
theorem dX8_copy_70 : decode cX8_copy 70 = .ok (.aload_n 0, 1) := by decide +kernel
theorem dX8_copy_71 : decode cX8_copy 71 = .ok (.getfield 13, 3) := by decide +kernel
theorem dX8_copy_74 : decode cX8_copy 74 = .ok (.iload_n 1, 1) := by decide +kernel
theorem dX8_copy_75 : decode cX8_copy 75 = .ok (.iaload, 1) := by decide +kernel
theorem dX8_copy_76 : decode cX8_copy 76 = .ok (.i2l, 1) := by decide +kernel
theorem dX8_copy_77 : decode cX8_copy 77 = .ok (.iload 5, 2) := by decide +kernel
theorem dX8_copy_79 : decode cX8_copy 79 = .ok (.i2l, 1) := by decide +kernel
theorem dX8_copy_80 : decode cX8_copy 80 = .ok (.lsub, 1) := by decide +kernel
theorem dX8_copy_81 : decode cX8_copy 81 = .ok (.invokestatic 63, 3) := by decide +kernel
theorem dX8_copy_84 : decode cX8_copy 84 = .ok (.ifCond .eq 24, 3) := by decide +kernel
theorem dX8_copy_87 : decode cX8_copy 87 = .ok (.iload 4, 2) := by decide +kernel
theorem dX8_copy_89 : decode cX8_copy 89 = .ok (.i2l, 1) := by decide +kernel
theorem dX8_copy_90 : decode cX8_copy 90 = .ok (.lconst 0, 1) := by decide +kernel
theorem dX8_copy_91 : decode cX8_copy 91 = .ok (.aload_n 0, 1) := by decide +kernel
theorem dX8_copy_92 : decode cX8_copy 92 = .ok (.getfield 13, 3) := by decide +kernel
theorem dX8_copy_95 : decode cX8_copy 95 = .ok (.iload_n 3, 1) := by decide +kernel
theorem dX8_copy_96 : decode cX8_copy 96 = .ok (.iaload, 1) := by decide +kernel
theorem dX8_copy_97 : decode cX8_copy 97 = .ok (.i2l, 1) := by decide +kernel
theorem dX8_copy_98 : decode cX8_copy 98 = .ok (.iload 5, 2) := by decide +kernel
theorem dX8_copy_100 : decode cX8_copy 100 = .ok (.i2l, 1) := by decide +kernel
theorem dX8_copy_101 : decode cX8_copy 101 = .ok (.lsub, 1) := by decide +kernel
theorem dX8_copy_102 : decode cX8_copy 102 = .ok (.invokestatic 63, 3) := by decide +kernel
theorem dX8_copy_105 : decode cX8_copy 105 = .ok (.ifCond .ne 9, 3) := by decide +kernel
theorem dX8_copy_108 : decode cX8_copy 108 = .ok (.aload_n 0, 1) := by decide +kernel
theorem dX8_copy_109 : decode cX8_copy 109 = .ok (.iconst 2, 1) := by decide +kernel
theorem dX8_copy_110 : decode cX8_copy 110 = .ok (.invokevirtual 74, 3) := by decide +kernel
theorem dX8_copy_113 : decode cX8_copy 113 = .ok (.ireturn, 1) := by decide +kernel
theorem dX8_copy_114 : decode cX8_copy 114 = .ok (.iconst 0, 1) := by decide +kernel
theorem dX8_copy_115 : decode cX8_copy 115 = .ok (.istore 6, 2) := by decide +kernel
theorem dX8_copy_117 : decode cX8_copy 117 = .ok (.iload 6, 2) := by decide +kernel
theorem dX8_copy_119 : decode cX8_copy 119 = .ok (.iload 5, 2) := by decide +kernel
theorem dX8_copy_121 : decode cX8_copy 121 = .ok (.if_icmp .ge 30, 3) := by decide +kernel
theorem dX8_copy_124 : decode cX8_copy 124 = .ok (.aload_n 0, 1) := by decide +kernel
theorem dX8_copy_125 : decode cX8_copy 125 = .ok (.getfield 22, 3) := by decide +kernel
theorem dX8_copy_128 : decode cX8_copy 128 = .ok (.iload 6, 2) := by decide +kernel
theorem dX8_copy_130 : decode cX8_copy 130 = .ok (.aload_n 0, 1) := by decide +kernel
theorem dX8_copy_131 : decode cX8_copy 131 = .ok (.getfield 16, 3) := by decide +kernel
theorem dX8_copy_134 : decode cX8_copy 134 = .ok (.bipush 40, 2) := by decide +kernel
theorem dX8_copy_136 : decode cX8_copy 136 = .ok (.iload_n 1, 1) := by decide +kernel
theorem dX8_copy_137 : decode cX8_copy 137 = .ok (.imul, 1) := by decide +kernel
theorem dX8_copy_138 : decode cX8_copy 138 = .ok (.iload_n 2, 1) := by decide +kernel
theorem dX8_copy_139 : decode cX8_copy 139 = .ok (.iadd, 1) := by decide +kernel
theorem dX8_copy_140 : decode cX8_copy 140 = .ok (.iload 6, 2) := by decide +kernel
theorem dX8_copy_142 : decode cX8_copy 142 = .ok (.iadd, 1) := by decide +kernel
theorem dX8_copy_143 : decode cX8_copy 143 = .ok (.iaload, 1) := by decide +kernel
theorem dX8_copy_144 : decode cX8_copy 144 = .ok (.iastore, 1) := by decide +kernel
theorem dX8_copy_145 : decode cX8_copy 145 = .ok (.iinc 6 1, 3) := by decide +kernel
theorem dX8_copy_148 : decode cX8_copy 148 = .ok (.goto (-31), 3) := by decide +kernel
theorem dX8_copy_151 : decode cX8_copy 151 = .ok (.iconst 0, 1) := by decide +kernel
theorem dX8_copy_152 : decode cX8_copy 152 = .ok (.istore 6, 2) := by decide +kernel
theorem dX8_copy_154 : decode cX8_copy 154 = .ok (.iload 6, 2) := by decide +kernel
theorem dX8_copy_156 : decode cX8_copy 156 = .ok (.iload 5, 2) := by decide +kernel
theorem dX8_copy_158 : decode cX8_copy 158 = .ok (.if_icmp .ge 31, 3) := by decide +kernel
theorem dX8_copy_161 : decode cX8_copy 161 = .ok (.aload_n 0, 1) := by decide +kernel
theorem dX8_copy_162 : decode cX8_copy 162 = .ok (.getfield 16, 3) := by decide +kernel
theorem dX8_copy_165 : decode cX8_copy 165 = .ok (.bipush 40, 2) := by decide +kernel
theorem dX8_copy_167 : decode cX8_copy 167 = .ok (.iload_n 3, 1) := by decide +kernel
theorem dX8_copy_168 : decode cX8_copy 168 = .ok (.imul, 1) := by decide +kernel
theorem dX8_copy_169 : decode cX8_copy 169 = .ok (.iload 4, 2) := by decide +kernel
theorem dX8_copy_171 : decode cX8_copy 171 = .ok (.iadd, 1) := by decide +kernel
theorem dX8_copy_172 : decode cX8_copy 172 = .ok (.iload 6, 2) := by decide +kernel
theorem dX8_copy_174 : decode cX8_copy 174 = .ok (.iadd, 1) := by decide +kernel
theorem dX8_copy_175 : decode cX8_copy 175 = .ok (.aload_n 0, 1) := by decide +kernel
theorem dX8_copy_176 : decode cX8_copy 176 = .ok (.getfield 22, 3) := by decide +kernel
theorem dX8_copy_179 : decode cX8_copy 179 = .ok (.iload 6, 2) := by decide +kernel
theorem dX8_copy_181 : decode cX8_copy 181 = .ok (.iaload, 1) := by decide +kernel
theorem dX8_copy_182 : decode cX8_copy 182 = .ok (.iastore, 1) := by decide +kernel
theorem dX8_copy_183 : decode cX8_copy 183 = .ok (.iinc 6 1, 3) := by decide +kernel
theorem dX8_copy_186 : decode cX8_copy 186 = .ok (.goto (-32), 3) := by decide +kernel
theorem dX8_copy_189 : decode cX8_copy 189 = .ok (.aload_n 0, 1) := by decide +kernel
theorem dX8_copy_190 : decode cX8_copy 190 = .ok (.iload 5, 2) := by decide +kernel
theorem dX8_copy_192 : decode cX8_copy 192 = .ok (.invokevirtual 78, 3) := by decide +kernel
theorem dX8_copy_195 : decode cX8_copy 195 = .ok (.ireturn, 1) := by decide +kernel
theorem dX8_drop_0 : decode cX8_drop 0 = .ok (.iload_n 1, 1) := by decide +kernel
theorem dX8_drop_1 : decode cX8_drop 1 = .ok (.invokestatic 67, 3) := by decide +kernel
theorem dX8_drop_4 : decode cX8_drop 4 = .ok (.ifCond .ne 6, 3) := by decide +kernel
theorem dX8_drop_7 : decode cX8_drop 7 = .ok (.ldc 73, 2) := by decide +kernel
theorem dX8_drop_9 : decode cX8_drop 9 = .ok (.ireturn, 1) := by decide +kernel
theorem dX8_drop_10 : decode cX8_drop 10 = .ok (.aload_n 0, 1) := by decide +kernel
theorem dX8_drop_11 : decode cX8_drop 11 = .ok (.getfield 13, 3) := by decide +kernel
theorem dX8_drop_14 : decode cX8_drop 14 = .ok (.iload_n 1, 1) := by decide +kernel
theorem dX8_drop_15 : decode cX8_drop 15 = .ok (.iaload, 1) := by decide +kernel
theorem dX8_drop_16 : decode cX8_drop 16 = .ok (.ifCond .ge 9, 3) := by decide +kernel
theorem dX8_drop_19 : decode cX8_drop 19 = .ok (.aload_n 0, 1) := by decide +kernel
theorem dX8_drop_20 : decode cX8_drop 20 = .ok (.iconst 1, 1) := by decide +kernel
theorem dX8_drop_21 : decode cX8_drop 21 = .ok (.invokevirtual 74, 3) := by decide +kernel
theorem dX8_drop_24 : decode cX8_drop 24 = .ok (.ireturn, 1) := by decide +kernel
theorem dX8_drop_25 : decode cX8_drop 25 = .ok (.aload_n 0, 1) := by decide +kernel
theorem dX8_drop_26 : decode cX8_drop 26 = .ok (.getfield 13, 3) := by decide +kernel
theorem dX8_drop_29 : decode cX8_drop 29 = .ok (.iload_n 1, 1) := by decide +kernel
theorem dX8_drop_30 : decode cX8_drop 30 = .ok (.iaload, 1) := by decide +kernel
theorem dX8_drop_31 : decode cX8_drop 31 = .ok (.istore_n 2, 1) := by decide +kernel
theorem dX8_drop_32 : decode cX8_drop 32 = .ok (.aload_n 0, 1) := by decide +kernel
theorem dX8_drop_33 : decode cX8_drop 33 = .ok (.getfield 13, 3) := by decide +kernel
theorem dX8_drop_36 : decode cX8_drop 36 = .ok (.iload_n 1, 1) := by decide +kernel
theorem dX8_drop_37 : decode cX8_drop 37 = .ok (.iconst (-1), 1) := by decide +kernel
theorem dX8_drop_38 : decode cX8_drop 38 = .ok (.iastore, 1) := by decide +kernel
theorem dX8_drop_39 : decode cX8_drop 39 = .ok (.aload_n 0, 1) := by decide +kernel
theorem dX8_drop_40 : decode cX8_drop 40 = .ok (.iload_n 2, 1) := by decide +kernel
theorem dX8_drop_41 : decode cX8_drop 41 = .ok (.invokevirtual 78, 3) := by decide +kernel
theorem dX8_drop_44 : decode cX8_drop 44 = .ok (.ireturn, 1) := by decide +kernel
theorem dX8_feed_0 : decode cX8_feed 0 = .ok (.iload_n 1, 1) := by decide +kernel
theorem dX8_feed_1 : decode cX8_feed 1 = .ok (.i2l, 1) := by decide +kernel
theorem dX8_feed_2 : decode cX8_feed 2 = .ok (.lconst 0, 1) := by decide +kernel
theorem dX8_feed_3 : decode cX8_feed 3 = .ok (.ldc2_w 85, 3) := by decide +kernel
theorem dX8_feed_6 : decode cX8_feed 6 = .ok (.invokestatic 63, 3) := by decide +kernel
theorem dX8_feed_9 : decode cX8_feed 9 = .ok (.ifCond .ne 6, 3) := by decide +kernel
theorem dX8_feed_12 : decode cX8_feed 12 = .ok (.ldc 73, 2) := by decide +kernel
theorem dX8_feed_14 : decode cX8_feed 14 = .ok (.ireturn, 1) := by decide +kernel
theorem dX8_feed_15 : decode cX8_feed 15 = .ok (.aload_n 0, 1) := by decide +kernel
theorem dX8_feed_16 : decode cX8_feed 16 = .ok (.getfield 87, 3) := by decide +kernel
theorem dX8_feed_19 : decode cX8_feed 19 = .ok (.bipush 120, 2) := by decide +kernel
theorem dX8_feed_21 : decode cX8_feed 21 = .ok (.if_icmp .ne 6, 3) := by decide +kernel
theorem dX8_feed_24 : decode cX8_feed 24 = .ok (.ldc 90, 2) := by decide +kernel
theorem dX8_feed_26 : decode cX8_feed 26 = .ok (.ireturn, 1) := by decide +kernel
theorem dX8_feed_27 : decode cX8_feed 27 = .ok (.aload_n 0, 1) := by decide +kernel
theorem dX8_feed_28 : decode cX8_feed 28 = .ok (.getfield 25, 3) := by decide +kernel
theorem dX8_feed_31 : decode cX8_feed 31 = .ok (.aload_n 0, 1) := by decide +kernel
theorem dX8_feed_32 : decode cX8_feed 32 = .ok (.getfield 87, 3) := by decide +kernel
theorem dX8_feed_35 : decode cX8_feed 35 = .ok (.iload_n 1, 1) := by decide +kernel
theorem dX8_feed_36 : decode cX8_feed 36 = .ok (.iastore, 1) := by decide +kernel
theorem dX8_feed_37 : decode cX8_feed 37 = .ok (.aload_n 0, 1) := by decide +kernel
theorem dX8_feed_38 : decode cX8_feed 38 = .ok (.dup, 1) := by decide +kernel
theorem dX8_feed_39 : decode cX8_feed 39 = .ok (.getfield 87, 3) := by decide +kernel
theorem dX8_feed_42 : decode cX8_feed 42 = .ok (.iconst 1, 1) := by decide +kernel
theorem dX8_feed_43 : decode cX8_feed 43 = .ok (.iadd, 1) := by decide +kernel
theorem dX8_feed_44 : decode cX8_feed 44 = .ok (.putfield 87, 3) := by decide +kernel
theorem dX8_feed_47 : decode cX8_feed 47 = .ok (.aload_n 0, 1) := by decide +kernel
theorem dX8_feed_48 : decode cX8_feed 48 = .ok (.getfield 87, 3) := by decide +kernel
theorem dX8_feed_51 : decode cX8_feed 51 = .ok (.ireturn, 1) := by decide +kernel
theorem dX8_nextToken_0 : decode cX8_nextToken 0 = .ok (.aload_n 0, 1) := by decide +kernel
theorem dX8_nextToken_1 : decode cX8_nextToken 1 = .ok (.aload_n 0, 1) := by decide +kernel
theorem dX8_nextToken_2 : decode cX8_nextToken 2 = .ok (.getfield 91, 3) := by decide +kernel
theorem dX8_nextToken_5 : decode cX8_nextToken 5 = .ok (.putfield 94, 3) := by decide +kernel
theorem dX8_nextToken_8 : decode cX8_nextToken 8 = .ok (.aload_n 0, 1) := by decide +kernel
theorem dX8_nextToken_9 : decode cX8_nextToken 9 = .ok (.aload_n 0, 1) := by decide +kernel
theorem dX8_nextToken_10 : decode cX8_nextToken 10 = .ok (.getfield 91, 3) := by decide +kernel
theorem dX8_nextToken_13 : decode cX8_nextToken 13 = .ok (.aload_n 0, 1) := by decide +kernel
theorem dX8_nextToken_14 : decode cX8_nextToken 14 = .ok (.getfield 87, 3) := by decide +kernel
theorem dX8_nextToken_17 : decode cX8_nextToken 17 = .ok (.if_icmp .ne 7, 3) := by decide +kernel
theorem dX8_nextToken_20 : decode cX8_nextToken 20 = .ok (.iconst 3, 1) := by decide +kernel
theorem dX8_nextToken_21 : decode cX8_nextToken 21 = .ok (.goto 4, 3) := by decide +kernel
theorem dX8_nextToken_24 : decode cX8_nextToken 24 = .ok (.iconst 0, 1) := by decide +kernel
theorem dX8_nextToken_25 : decode cX8_nextToken 25 = .ok (.putfield 97, 3) := by decide +kernel
theorem dX8_nextToken_28 : decode cX8_nextToken 28 = .ok (.aload_n 0, 1) := by decide +kernel
theorem dX8_nextToken_29 : decode cX8_nextToken 29 = .ok (.iconst 0, 1) := by decide +kernel
theorem dX8_nextToken_30 : decode cX8_nextToken 30 = .ok (.putfield 100, 3) := by decide +kernel
theorem dX8_nextToken_33 : decode cX8_nextToken 33 = .ok (.aload_n 0, 1) := by decide +kernel
theorem dX8_nextToken_34 : decode cX8_nextToken 34 = .ok (.getfield 91, 3) := by decide +kernel
theorem dX8_nextToken_37 : decode cX8_nextToken 37 = .ok (.aload_n 0, 1) := by decide +kernel
theorem dX8_nextToken_38 : decode cX8_nextToken 38 = .ok (.getfield 87, 3) := by decide +kernel
theorem dX8_nextToken_41 : decode cX8_nextToken 41 = .ok (.if_icmp .ge 79, 3) := by decide +kernel
theorem dX8_nextToken_44 : decode cX8_nextToken 44 = .ok (.aload_n 0, 1) := by decide +kernel
theorem dX8_nextToken_45 : decode cX8_nextToken 45 = .ok (.getfield 25, 3) := by decide +kernel
theorem dX8_nextToken_48 : decode cX8_nextToken 48 = .ok (.aload_n 0, 1) := by decide +kernel
theorem dX8_nextToken_49 : decode cX8_nextToken 49 = .ok (.getfield 91, 3) := by decide +kernel
theorem dX8_nextToken_52 : decode cX8_nextToken 52 = .ok (.iaload, 1) := by decide +kernel
theorem dX8_nextToken_53 : decode cX8_nextToken 53 = .ok (.i2l, 1) := by decide +kernel
theorem dX8_nextToken_54 : decode cX8_nextToken 54 = .ok (.ldc2_w 103, 3) := by decide +kernel
theorem dX8_nextToken_57 : decode cX8_nextToken 57 = .ok (.ldc2_w 105, 3) := by decide +kernel
theorem dX8_nextToken_60 : decode cX8_nextToken 60 = .ok (.invokestatic 63, 3) := by decide +kernel
theorem dX8_nextToken_63 : decode cX8_nextToken 63 = .ok (.ifCond .eq 57, 3) := by decide +kernel
theorem dX8_nextToken_66 : decode cX8_nextToken 66 = .ok (.aload_n 0, 1) := by decide +kernel
theorem dX8_nextToken_67 : decode cX8_nextToken 67 = .ok (.aload_n 0, 1) := by decide +kernel
theorem dX8_nextToken_68 : decode cX8_nextToken 68 = .ok (.getfield 100, 3) := by decide +kernel
theorem dX8_nextToken_71 : decode cX8_nextToken 71 = .ok (.sipush 999, 3) := by decide +kernel
theorem dX8_nextToken_74 : decode cX8_nextToken 74 = .ok (.if_icmp .le 10, 3) := by decide +kernel
theorem dX8_nextToken_77 : decode cX8_nextToken 77 = .ok (.aload_n 0, 1) := by decide +kernel
theorem dX8_nextToken_78 : decode cX8_nextToken 78 = .ok (.getfield 100, 3) := by decide +kernel
theorem dX8_nextToken_81 : decode cX8_nextToken 81 = .ok (.goto 23, 3) := by decide +kernel
theorem dX8_nextToken_84 : decode cX8_nextToken 84 = .ok (.bipush 10, 2) := by decide +kernel
theorem dX8_nextToken_86 : decode cX8_nextToken 86 = .ok (.aload_n 0, 1) := by decide +kernel
theorem dX8_nextToken_87 : decode cX8_nextToken 87 = .ok (.getfield 100, 3) := by decide +kernel
theorem dX8_nextToken_90 : decode cX8_nextToken 90 = .ok (.imul, 1) := by decide +kernel
theorem dX8_nextToken_91 : decode cX8_nextToken 91 = .ok (.aload_n 0, 1) := by decide +kernel
theorem dX8_nextToken_92 : decode cX8_nextToken 92 = .ok (.getfield 25, 3) := by decide +kernel
theorem dX8_nextToken_95 : decode cX8_nextToken 95 = .ok (.aload_n 0, 1) := by decide +kernel
theorem dX8_nextToken_96 : decode cX8_nextToken 96 = .ok (.getfield 91, 3) := by decide +kernel
theorem dX8_nextToken_99 : decode cX8_nextToken 99 = .ok (.iaload, 1) := by decide +kernel
theorem dX8_nextToken_100 : decode cX8_nextToken 100 = .ok (.iadd, 1) := by decide +kernel
theorem dX8_nextToken_101 : decode cX8_nextToken 101 = .ok (.bipush 48, 2) := by decide +kernel
theorem dX8_nextToken_103 : decode cX8_nextToken 103 = .ok (.isub, 1) := by decide +kernel
theorem dX8_nextToken_104 : decode cX8_nextToken 104 = .ok (.putfield 100, 3) := by decide +kernel
theorem dX8_nextToken_107 : decode cX8_nextToken 107 = .ok (.aload_n 0, 1) := by decide +kernel
theorem dX8_nextToken_108 : decode cX8_nextToken 108 = .ok (.dup, 1) := by decide +kernel
theorem dX8_nextToken_109 : decode cX8_nextToken 109 = .ok (.getfield 91, 3) := by decide +kernel
theorem dX8_nextToken_112 : decode cX8_nextToken 112 = .ok (.iconst 1, 1) := by decide +kernel
theorem dX8_nextToken_113 : decode cX8_nextToken 113 = .ok (.iadd, 1) := by decide +kernel
theorem dX8_nextToken_114 : decode cX8_nextToken 114 = .ok (.putfield 91, 3) := by decide +kernel
theorem dX8_nextToken_117 : decode cX8_nextToken 117 = .ok (.goto (-84), 3) := by decide +kernel
theorem dX8_nextToken_120 : decode cX8_nextToken 120 = .ok (.aload_n 0, 1) := by decide +kernel
theorem dX8_nextToken_121 : decode cX8_nextToken 121 = .ok (.getfield 91, 3) := by decide +kernel
theorem dX8_nextToken_124 : decode cX8_nextToken 124 = .ok (.aload_n 0, 1) := by decide +kernel
theorem dX8_nextToken_125 : decode cX8_nextToken 125 = .ok (.getfield 94, 3) := by decide +kernel
theorem dX8_nextToken_128 : decode cX8_nextToken 128 = .ok (.if_icmp .le 28, 3) := by decide +kernel
theorem dX8_nextToken_131 : decode cX8_nextToken 131 = .ok (.aload_n 0, 1) := by decide +kernel
theorem dX8_nextToken_132 : decode cX8_nextToken 132 = .ok (.aload_n 0, 1) := by decide +kernel
theorem dX8_nextToken_133 : decode cX8_nextToken 133 = .ok (.getfield 91, 3) := by decide +kernel
theorem dX8_nextToken_136 : decode cX8_nextToken 136 = .ok (.aload_n 0, 1) := by decide +kernel
theorem dX8_nextToken_137 : decode cX8_nextToken 137 = .ok (.getfield 94, 3) := by decide +kernel
theorem dX8_nextToken_140 : decode cX8_nextToken 140 = .ok (.isub, 1) := by decide +kernel
theorem dX8_nextToken_141 : decode cX8_nextToken 141 = .ok (.iconst 3, 1) := by decide +kernel
theorem dX8_nextToken_142 : decode cX8_nextToken 142 = .ok (.if_icmp .le 7, 3) := by decide +kernel
theorem dX8_nextToken_145 : decode cX8_nextToken 145 = .ok (.iconst 0, 1) := by decide +kernel
theorem dX8_nextToken_146 : decode cX8_nextToken 146 = .ok (.goto 4, 3) := by decide +kernel
theorem dX8_nextToken_149 : decode cX8_nextToken 149 = .ok (.iconst 2, 1) := by decide +kernel
theorem dX8_nextToken_150 : decode cX8_nextToken 150 = .ok (.putfield 97, 3) := by decide +kernel
theorem dX8_nextToken_153 : decode cX8_nextToken 153 = .ok (.goto 77, 3) := by decide +kernel
theorem dX8_nextToken_156 : decode cX8_nextToken 156 = .ok (.aload_n 0, 1) := by decide +kernel
theorem dX8_nextToken_157 : decode cX8_nextToken 157 = .ok (.getfield 97, 3) := by decide +kernel
theorem dX8_nextToken_160 : decode cX8_nextToken 160 = .ok (.ifCond .ne 70, 3) := by decide +kernel
theorem dX8_nextToken_163 : decode cX8_nextToken 163 = .ok (.aload_n 0, 1) := by decide +kernel
theorem dX8_nextToken_164 : decode cX8_nextToken 164 = .ok (.aload_n 0, 1) := by decide +kernel
theorem dX8_nextToken_165 : decode cX8_nextToken 165 = .ok (.getfield 25, 3) := by decide +kernel
theorem dX8_nextToken_168 : decode cX8_nextToken 168 = .ok (.aload_n 0, 1) := by decide +kernel
theorem dX8_nextToken_169 : decode cX8_nextToken 169 = .ok (.getfield 91, 3) := by decide +kernel
theorem dX8_nextToken_172 : decode cX8_nextToken 172 = .ok (.iaload, 1) := by decide +kernel
theorem dX8_nextToken_173 : decode cX8_nextToken 173 = .ok (.putfield 100, 3) := by decide +kernel
theorem dX8_nextToken_176 : decode cX8_nextToken 176 = .ok (.aload_n 0, 1) := by decide +kernel
theorem dX8_nextToken_177 : decode cX8_nextToken 177 = .ok (.aload_n 0, 1) := by decide +kernel
theorem dX8_nextToken_178 : decode cX8_nextToken 178 = .ok (.getfield 100, 3) := by decide +kernel
theorem dX8_nextToken_181 : decode cX8_nextToken 181 = .ok (.i2l, 1) := by decide +kernel
theorem dX8_nextToken_182 : decode cX8_nextToken 182 = .ok (.ldc2_w 107, 3) := by decide +kernel
theorem dX8_nextToken_185 : decode cX8_nextToken 185 = .ok (.ldc2_w 109, 3) := by decide +kernel
theorem dX8_nextToken_188 : decode cX8_nextToken 188 = .ok (.invokestatic 63, 3) := by decide +kernel
theorem dX8_nextToken_191 : decode cX8_nextToken 191 = .ok (.ifCond .ne 21, 3) := by decide +kernel
theorem dX8_nextToken_194 : decode cX8_nextToken 194 = .ok (.aload_n 0, 1) := by decide +kernel
theorem dX8_nextToken_195 : decode cX8_nextToken 195 = .ok (.getfield 100, 3) := by decide +kernel
theorem dX8_nextToken_198 : decode cX8_nextToken 198 = .ok (.bipush 44, 2) := by decide +kernel
theorem dX8_nextToken_200 : decode cX8_nextToken 200 = .ok (.if_icmp .eq 12, 3) := by decide +kernel
theorem dX8_nextToken_203 : decode cX8_nextToken 203 = .ok (.aload_n 0, 1) := by decide +kernel
theorem dX8_nextToken_204 : decode cX8_nextToken 204 = .ok (.getfield 100, 3) := by decide +kernel
theorem dX8_nextToken_207 : decode cX8_nextToken 207 = .ok (.bipush 59, 2) := by decide +kernel
theorem dX8_nextToken_209 : decode cX8_nextToken 209 = .ok (.if_icmp .ne 7, 3) := by decide +kernel
theorem dX8_nextToken_212 : decode cX8_nextToken 212 = .ok (.iconst 1, 1) := by decide +kernel
theorem dX8_nextToken_213 : decode cX8_nextToken 213 = .ok (.goto 4, 3) := by decide +kernel
theorem dX8_nextToken_216 : decode cX8_nextToken 216 = .ok (.iconst 0, 1) := by decide +kernel
theorem dX8_nextToken_217 : decode cX8_nextToken 217 = .ok (.putfield 97, 3) := by decide +kernel
theorem dX8_nextToken_220 : decode cX8_nextToken 220 = .ok (.aload_n 0, 1) := by decide +kernel
theorem dX8_nextToken_221 : decode cX8_nextToken 221 = .ok (.dup, 1) := by decide +kernel
theorem dX8_nextToken_222 : decode cX8_nextToken 222 = .ok (.getfield 91, 3) := by decide +kernel
theorem dX8_nextToken_225 : decode cX8_nextToken 225 = .ok (.iconst 1, 1) := by decide +kernel
theorem dX8_nextToken_226 : decode cX8_nextToken 226 = .ok (.iadd, 1) := by decide +kernel
theorem dX8_nextToken_227 : decode cX8_nextToken 227 = .ok (.putfield 91, 3) := by decide +kernel
theorem dX8_nextToken_230 : decode cX8_nextToken 230 = .ok (.return_, 1) := by decide +kernel
theorem dX8_faults_0 : decode cX8_faults 0 = .ok (.aload_n 0, 1) := by decide +kernel
theorem dX8_faults_1 : decode cX8_faults 1 = .ok (.iload_n 1, 1) := by decide +kernel
theorem dX8_faults_2 : decode cX8_faults 2 = .ok (.putfield 111, 3) := by decide +kernel
theorem dX8_faults_5 : decode cX8_faults 5 = .ok (.iconst 0, 1) := by decide +kernel
theorem dX8_faults_6 : decode cX8_faults 6 = .ok (.ireturn, 1) := by decide +kernel
theorem dX8_isLetter_0 : decode cX8_isLetter 0 = .ok (.aload_n 0, 1) := by decide +kernel
theorem dX8_isLetter_1 : decode cX8_isLetter 1 = .ok (.getfield 97, 3) := by decide +kernel
theorem dX8_isLetter_4 : decode cX8_isLetter 4 = .ok (.iconst 1, 1) := by decide +kernel
theorem dX8_isLetter_5 : decode cX8_isLetter 5 = .ok (.if_icmp .ne 15, 3) := by decide +kernel
theorem dX8_isLetter_8 : decode cX8_isLetter 8 = .ok (.aload_n 0, 1) := by decide +kernel
theorem dX8_isLetter_9 : decode cX8_isLetter 9 = .ok (.getfield 100, 3) := by decide +kernel
theorem dX8_isLetter_12 : decode cX8_isLetter 12 = .ok (.iload_n 1, 1) := by decide +kernel
theorem dX8_isLetter_13 : decode cX8_isLetter 13 = .ok (.if_icmp .ne 7, 3) := by decide +kernel
theorem dX8_isLetter_16 : decode cX8_isLetter 16 = .ok (.iconst 1, 1) := by decide +kernel
theorem dX8_isLetter_17 : decode cX8_isLetter 17 = .ok (.goto 4, 3) := by decide +kernel
theorem dX8_isLetter_20 : decode cX8_isLetter 20 = .ok (.iconst 0, 1) := by decide +kernel
theorem dX8_isLetter_21 : decode cX8_isLetter 21 = .ok (.ireturn, 1) := by decide +kernel
theorem dX8_takes_0 : decode cX8_takes 0 = .ok (.aload_n 0, 1) := by decide +kernel
theorem dX8_takes_1 : decode cX8_takes 1 = .ok (.iload_n 1, 1) := by decide +kernel
theorem dX8_takes_2 : decode cX8_takes 2 = .ok (.invokevirtual 114, 3) := by decide +kernel
theorem dX8_takes_5 : decode cX8_takes 5 = .ok (.ifCond .ne 9, 3) := by decide +kernel
theorem dX8_takes_8 : decode cX8_takes 8 = .ok (.aload_n 0, 1) := by decide +kernel
theorem dX8_takes_9 : decode cX8_takes 9 = .ok (.iconst 1, 1) := by decide +kernel
theorem dX8_takes_10 : decode cX8_takes 10 = .ok (.invokevirtual 117, 3) := by decide +kernel
theorem dX8_takes_13 : decode cX8_takes 13 = .ok (.ireturn, 1) := by decide +kernel
theorem dX8_takes_14 : decode cX8_takes 14 = .ok (.aload_n 0, 1) := by decide +kernel
theorem dX8_takes_15 : decode cX8_takes 15 = .ok (.invokevirtual 120, 3) := by decide +kernel
theorem dX8_takes_18 : decode cX8_takes 18 = .ok (.iconst 1, 1) := by decide +kernel
theorem dX8_takes_19 : decode cX8_takes 19 = .ok (.ireturn, 1) := by decide +kernel
theorem dX8_takesNumber_0 : decode cX8_takesNumber 0 = .ok (.aload_n 0, 1) := by decide +kernel
theorem dX8_takesNumber_1 : decode cX8_takesNumber 1 = .ok (.getfield 97, 3) := by decide +kernel
theorem dX8_takesNumber_4 : decode cX8_takesNumber 4 = .ok (.iconst 2, 1) := by decide +kernel
theorem dX8_takesNumber_5 : decode cX8_takesNumber 5 = .ok (.if_icmp .ne 18, 3) := by decide +kernel
theorem dX8_takesNumber_8 : decode cX8_takesNumber 8 = .ok (.aload_n 0, 1) := by decide +kernel
theorem dX8_takesNumber_9 : decode cX8_takesNumber 9 = .ok (.getfield 100, 3) := by decide +kernel
theorem dX8_takesNumber_12 : decode cX8_takesNumber 12 = .ok (.i2l, 1) := by decide +kernel
theorem dX8_takesNumber_13 : decode cX8_takesNumber 13 = .ok (.iload_n 1, 1) := by decide +kernel
theorem dX8_takesNumber_14 : decode cX8_takesNumber 14 = .ok (.i2l, 1) := by decide +kernel
theorem dX8_takesNumber_15 : decode cX8_takesNumber 15 = .ok (.iload_n 2, 1) := by decide +kernel
theorem dX8_takesNumber_16 : decode cX8_takesNumber 16 = .ok (.i2l, 1) := by decide +kernel
theorem dX8_takesNumber_17 : decode cX8_takesNumber 17 = .ok (.invokestatic 63, 3) := by decide +kernel
theorem dX8_takesNumber_20 : decode cX8_takesNumber 20 = .ok (.ifCond .ne 21, 3) := by decide +kernel
theorem dX8_takesNumber_23 : decode cX8_takesNumber 23 = .ok (.aload_n 0, 1) := by decide +kernel
theorem dX8_takesNumber_24 : decode cX8_takesNumber 24 = .ok (.aload_n 0, 1) := by decide +kernel
theorem dX8_takesNumber_25 : decode cX8_takesNumber 25 = .ok (.getfield 97, 3) := by decide +kernel
theorem dX8_takesNumber_28 : decode cX8_takesNumber 28 = .ok (.iconst 2, 1) := by decide +kernel
theorem dX8_takesNumber_29 : decode cX8_takesNumber 29 = .ok (.if_icmp .ne 7, 3) := by decide +kernel
theorem dX8_takesNumber_32 : decode cX8_takesNumber 32 = .ok (.iconst 2, 1) := by decide +kernel
theorem dX8_takesNumber_33 : decode cX8_takesNumber 33 = .ok (.goto 4, 3) := by decide +kernel
theorem dX8_takesNumber_36 : decode cX8_takesNumber 36 = .ok (.iconst 1, 1) := by decide +kernel
theorem dX8_takesNumber_37 : decode cX8_takesNumber 37 = .ok (.invokevirtual 117, 3) := by decide +kernel
theorem dX8_takesNumber_40 : decode cX8_takesNumber 40 = .ok (.ireturn, 1) := by decide +kernel
theorem dX8_takesNumber_41 : decode cX8_takesNumber 41 = .ok (.aload_n 0, 1) := by decide +kernel
theorem dX8_takesNumber_42 : decode cX8_takesNumber 42 = .ok (.getfield 28, 3) := by decide +kernel
theorem dX8_takesNumber_45 : decode cX8_takesNumber 45 = .ok (.iload_n 3, 1) := by decide +kernel
theorem dX8_takesNumber_46 : decode cX8_takesNumber 46 = .ok (.aload_n 0, 1) := by decide +kernel
theorem dX8_takesNumber_47 : decode cX8_takesNumber 47 = .ok (.getfield 100, 3) := by decide +kernel
theorem dX8_takesNumber_50 : decode cX8_takesNumber 50 = .ok (.iastore, 1) := by decide +kernel
theorem dX8_takesNumber_51 : decode cX8_takesNumber 51 = .ok (.aload_n 0, 1) := by decide +kernel
theorem dX8_takesNumber_52 : decode cX8_takesNumber 52 = .ok (.invokevirtual 120, 3) := by decide +kernel
theorem dX8_takesNumber_55 : decode cX8_takesNumber 55 = .ok (.aload_n 0, 1) := by decide +kernel
theorem dX8_takesNumber_56 : decode cX8_takesNumber 56 = .ok (.iload 4, 2) := by decide +kernel
theorem dX8_takesNumber_58 : decode cX8_takesNumber 58 = .ok (.invokevirtual 123, 3) := by decide +kernel
theorem dX8_takesNumber_61 : decode cX8_takesNumber 61 = .ok (.ireturn, 1) := by decide +kernel
theorem dX8_readRoad_0 : decode cX8_readRoad 0 = .ok (.aload_n 0, 1) := by decide +kernel
theorem dX8_readRoad_1 : decode cX8_readRoad 1 = .ok (.getfield 28, 3) := by decide +kernel
theorem dX8_readRoad_4 : decode cX8_readRoad 4 = .ok (.iconst 2, 1) := by decide +kernel
theorem dX8_readRoad_5 : decode cX8_readRoad 5 = .ok (.iaload, 1) := by decide +kernel
theorem dX8_readRoad_6 : decode cX8_readRoad 6 = .ok (.istore_n 2, 1) := by decide +kernel
theorem dX8_readRoad_7 : decode cX8_readRoad 7 = .ok (.iload_n 2, 1) := by decide +kernel
theorem dX8_readRoad_8 : decode cX8_readRoad 8 = .ok (.bipush 9, 2) := by decide +kernel
theorem dX8_readRoad_10 : decode cX8_readRoad 10 = .ok (.if_icmp .eq 12, 3) := by decide +kernel
theorem dX8_readRoad_13 : decode cX8_readRoad 13 = .ok (.aload_n 0, 1) := by decide +kernel
theorem dX8_readRoad_14 : decode cX8_readRoad 14 = .ok (.getfield 28, 3) := by decide +kernel
theorem dX8_readRoad_17 : decode cX8_readRoad 17 = .ok (.iconst 3, 1) := by decide +kernel
theorem dX8_readRoad_18 : decode cX8_readRoad 18 = .ok (.iaload, 1) := by decide +kernel
theorem dX8_readRoad_19 : decode cX8_readRoad 19 = .ok (.ifCond .le 22, 3) := by decide +kernel
theorem dX8_readRoad_22 : decode cX8_readRoad 22 = .ok (.aload_n 0, 1) := by decide +kernel
theorem dX8_readRoad_23 : decode cX8_readRoad 23 = .ok (.aload_n 0, 1) := by decide +kernel
theorem dX8_readRoad_24 : decode cX8_readRoad 24 = .ok (.getfield 28, 3) := by decide +kernel
theorem dX8_readRoad_27 : decode cX8_readRoad 27 = .ok (.iconst 3, 1) := by decide +kernel
theorem dX8_readRoad_28 : decode cX8_readRoad 28 = .ok (.iaload, 1) := by decide +kernel
theorem dX8_readRoad_29 : decode cX8_readRoad 29 = .ok (.ifCond .le 7, 3) := by decide +kernel
theorem dX8_readRoad_32 : decode cX8_readRoad 32 = .ok (.iconst 1, 1) := by decide +kernel
theorem dX8_readRoad_33 : decode cX8_readRoad 33 = .ok (.goto 4, 3) := by decide +kernel
theorem dX8_readRoad_36 : decode cX8_readRoad 36 = .ok (.iconst 3, 1) := by decide +kernel
theorem dX8_readRoad_37 : decode cX8_readRoad 37 = .ok (.invokevirtual 117, 3) := by decide +kernel
theorem dX8_readRoad_40 : decode cX8_readRoad 40 = .ok (.ireturn, 1) := by decide +kernel
theorem dX8_readRoad_41 : decode cX8_readRoad 41 = .ok (.aload_n 0, 1) := by decide +kernel
theorem dX8_readRoad_42 : decode cX8_readRoad 42 = .ok (.invokevirtual 120, 3) := by decide +kernel
theorem dX8_readRoad_45 : decode cX8_readRoad 45 = .ok (.aload_n 0, 1) := by decide +kernel
theorem dX8_readRoad_46 : decode cX8_readRoad 46 = .ok (.getfield 28, 3) := by decide +kernel
theorem dX8_readRoad_49 : decode cX8_readRoad 49 = .ok (.bipush 14, 2) := by decide +kernel
theorem dX8_readRoad_51 : decode cX8_readRoad 51 = .ok (.iload_n 2, 1) := by decide +kernel
theorem dX8_readRoad_52 : decode cX8_readRoad 52 = .ok (.iadd, 1) := by decide +kernel
theorem dX8_readRoad_53 : decode cX8_readRoad 53 = .ok (.iload_n 1, 1) := by decide +kernel
theorem dX8_readRoad_54 : decode cX8_readRoad 54 = .ok (.iastore, 1) := by decide +kernel
theorem dX8_readRoad_55 : decode cX8_readRoad 55 = .ok (.aload_n 0, 1) := by decide +kernel
theorem dX8_readRoad_56 : decode cX8_readRoad 56 = .ok (.iconst 0, 1) := by decide +kernel
theorem dX8_readRoad_57 : decode cX8_readRoad 57 = .ok (.aload_n 0, 1) := by decide +kernel
theorem dX8_readRoad_58 : decode cX8_readRoad 58 = .ok (.getfield 28, 3) := by decide +kernel
theorem dX8_readRoad_61 : decode cX8_readRoad 61 = .ok (.iconst 1, 1) := by decide +kernel
theorem dX8_readRoad_62 : decode cX8_readRoad 62 = .ok (.iaload, 1) := by decide +kernel
theorem dX8_readRoad_63 : decode cX8_readRoad 63 = .ok (.iconst 1, 1) := by decide +kernel
theorem dX8_readRoad_64 : decode cX8_readRoad 64 = .ok (.isub, 1) := by decide +kernel
theorem dX8_readRoad_65 : decode cX8_readRoad 65 = .ok (.bipush 23, 2) := by decide +kernel
theorem dX8_readRoad_67 : decode cX8_readRoad 67 = .ok (.iload_n 2, 1) := by decide +kernel
theorem dX8_readRoad_68 : decode cX8_readRoad 68 = .ok (.iadd, 1) := by decide +kernel
theorem dX8_readRoad_69 : decode cX8_readRoad 69 = .ok (.bipush 44, 2) := by decide +kernel
theorem dX8_readRoad_71 : decode cX8_readRoad 71 = .ok (.invokevirtual 126, 3) := by decide +kernel
theorem dX8_readRoad_74 : decode cX8_readRoad 74 = .ok (.ifCond .ne 5, 3) := by decide +kernel
theorem dX8_readRoad_77 : decode cX8_readRoad 77 = .ok (.iconst 0, 1) := by decide +kernel
theorem dX8_readRoad_78 : decode cX8_readRoad 78 = .ok (.ireturn, 1) := by decide +kernel
theorem dX8_readRoad_79 : decode cX8_readRoad 79 = .ok (.aload_n 0, 1) := by decide +kernel
theorem dX8_readRoad_80 : decode cX8_readRoad 80 = .ok (.getfield 97, 3) := by decide +kernel
theorem dX8_readRoad_83 : decode cX8_readRoad 83 = .ok (.iconst 2, 1) := by decide +kernel
theorem dX8_readRoad_84 : decode cX8_readRoad 84 = .ok (.if_icmp .ne 25, 3) := by decide +kernel
theorem dX8_readRoad_87 : decode cX8_readRoad 87 = .ok (.aload_n 0, 1) := by decide +kernel
theorem dX8_readRoad_88 : decode cX8_readRoad 88 = .ok (.getfield 100, 3) := by decide +kernel
theorem dX8_readRoad_91 : decode cX8_readRoad 91 = .ok (.aload_n 0, 1) := by decide +kernel
theorem dX8_readRoad_92 : decode cX8_readRoad 92 = .ok (.getfield 28, 3) := by decide +kernel
theorem dX8_readRoad_95 : decode cX8_readRoad 95 = .ok (.bipush 23, 2) := by decide +kernel
theorem dX8_readRoad_97 : decode cX8_readRoad 97 = .ok (.iload_n 2, 1) := by decide +kernel
theorem dX8_readRoad_98 : decode cX8_readRoad 98 = .ok (.iadd, 1) := by decide +kernel
theorem dX8_readRoad_99 : decode cX8_readRoad 99 = .ok (.iaload, 1) := by decide +kernel
theorem dX8_readRoad_100 : decode cX8_readRoad 100 = .ok (.if_icmp .ne 9, 3) := by decide +kernel
theorem dX8_readRoad_103 : decode cX8_readRoad 103 = .ok (.aload_n 0, 1) := by decide +kernel
theorem dX8_readRoad_104 : decode cX8_readRoad 104 = .ok (.iconst 2, 1) := by decide +kernel
theorem dX8_readRoad_105 : decode cX8_readRoad 105 = .ok (.invokevirtual 117, 3) := by decide +kernel
theorem dX8_readRoad_108 : decode cX8_readRoad 108 = .ok (.ireturn, 1) := by decide +kernel
theorem dX8_readRoad_109 : decode cX8_readRoad 109 = .ok (.aload_n 0, 1) := by decide +kernel
theorem dX8_readRoad_110 : decode cX8_readRoad 110 = .ok (.getfield 28, 3) := by decide +kernel
theorem dX8_readRoad_113 : decode cX8_readRoad 113 = .ok (.iconst 2, 1) := by decide +kernel
theorem dX8_readRoad_114 : decode cX8_readRoad 114 = .ok (.dup2, 1) := by decide +kernel
theorem dX8_readRoad_115 : decode cX8_readRoad 115 = .ok (.iaload, 1) := by decide +kernel
theorem dX8_readRoad_116 : decode cX8_readRoad 116 = .ok (.iconst 1, 1) := by decide +kernel
theorem dX8_readRoad_117 : decode cX8_readRoad 117 = .ok (.iadd, 1) := by decide +kernel
theorem dX8_readRoad_118 : decode cX8_readRoad 118 = .ok (.iastore, 1) := by decide +kernel
theorem dX8_readRoad_119 : decode cX8_readRoad 119 = .ok (.aload_n 0, 1) := by decide +kernel
theorem dX8_readRoad_120 : decode cX8_readRoad 120 = .ok (.iconst 0, 1) := by decide +kernel
theorem dX8_readRoad_121 : decode cX8_readRoad 121 = .ok (.aload_n 0, 1) := by decide +kernel
theorem dX8_readRoad_122 : decode cX8_readRoad 122 = .ok (.getfield 28, 3) := by decide +kernel
theorem dX8_readRoad_125 : decode cX8_readRoad 125 = .ok (.iconst 1, 1) := by decide +kernel
theorem dX8_readRoad_126 : decode cX8_readRoad 126 = .ok (.iaload, 1) := by decide +kernel
theorem dX8_readRoad_127 : decode cX8_readRoad 127 = .ok (.iconst 1, 1) := by decide +kernel
theorem dX8_readRoad_128 : decode cX8_readRoad 128 = .ok (.isub, 1) := by decide +kernel
theorem dX8_readRoad_129 : decode cX8_readRoad 129 = .ok (.bipush 32, 2) := by decide +kernel
theorem dX8_readRoad_131 : decode cX8_readRoad 131 = .ok (.iload_n 2, 1) := by decide +kernel
theorem dX8_readRoad_132 : decode cX8_readRoad 132 = .ok (.iadd, 1) := by decide +kernel
theorem dX8_readRoad_133 : decode cX8_readRoad 133 = .ok (.bipush 44, 2) := by decide +kernel
theorem dX8_readRoad_135 : decode cX8_readRoad 135 = .ok (.invokevirtual 126, 3) := by decide +kernel
theorem dX8_readRoad_138 : decode cX8_readRoad 138 = .ok (.ifCond .eq 23, 3) := by decide +kernel
theorem dX8_readRoad_141 : decode cX8_readRoad 141 = .ok (.aload_n 0, 1) := by decide +kernel
theorem dX8_readRoad_142 : decode cX8_readRoad 142 = .ok (.iconst 1, 1) := by decide +kernel
theorem dX8_readRoad_143 : decode cX8_readRoad 143 = .ok (.bipush 9, 2) := by decide +kernel
theorem dX8_readRoad_145 : decode cX8_readRoad 145 = .ok (.bipush 41, 2) := by decide +kernel
theorem dX8_readRoad_147 : decode cX8_readRoad 147 = .ok (.iload_n 2, 1) := by decide +kernel
theorem dX8_readRoad_148 : decode cX8_readRoad 148 = .ok (.iadd, 1) := by decide +kernel
theorem dX8_readRoad_149 : decode cX8_readRoad 149 = .ok (.bipush 59, 2) := by decide +kernel
theorem dX8_readRoad_151 : decode cX8_readRoad 151 = .ok (.invokevirtual 126, 3) := by decide +kernel
theorem dX8_readRoad_154 : decode cX8_readRoad 154 = .ok (.ifCond .eq 7, 3) := by decide +kernel
theorem dX8_readRoad_157 : decode cX8_readRoad 157 = .ok (.iconst 1, 1) := by decide +kernel
theorem dX8_readRoad_158 : decode cX8_readRoad 158 = .ok (.goto 4, 3) := by decide +kernel
theorem dX8_readRoad_161 : decode cX8_readRoad 161 = .ok (.iconst 0, 1) := by decide +kernel
theorem dX8_readRoad_162 : decode cX8_readRoad 162 = .ok (.ireturn, 1) := by decide +kernel
theorem dX8_readPerson_0 : decode cX8_readPerson 0 = .ok (.aload_n 0, 1) := by decide +kernel
theorem dX8_readPerson_1 : decode cX8_readPerson 1 = .ok (.getfield 28, 3) := by decide +kernel
theorem dX8_readPerson_4 : decode cX8_readPerson 4 = .ok (.iconst 3, 1) := by decide +kernel
theorem dX8_readPerson_5 : decode cX8_readPerson 5 = .ok (.iaload, 1) := by decide +kernel
theorem dX8_readPerson_6 : decode cX8_readPerson 6 = .ok (.istore_n 1, 1) := by decide +kernel
theorem dX8_readPerson_7 : decode cX8_readPerson 7 = .ok (.iload_n 1, 1) := by decide +kernel
theorem dX8_readPerson_8 : decode cX8_readPerson 8 = .ok (.iconst 4, 1) := by decide +kernel
theorem dX8_readPerson_9 : decode cX8_readPerson 9 = .ok (.if_icmp .ne 9, 3) := by decide +kernel
theorem dX8_readPerson_12 : decode cX8_readPerson 12 = .ok (.aload_n 0, 1) := by decide +kernel
theorem dX8_readPerson_13 : decode cX8_readPerson 13 = .ok (.iconst 3, 1) := by decide +kernel
theorem dX8_readPerson_14 : decode cX8_readPerson 14 = .ok (.invokevirtual 117, 3) := by decide +kernel
theorem dX8_readPerson_17 : decode cX8_readPerson 17 = .ok (.ireturn, 1) := by decide +kernel
theorem dX8_readPerson_18 : decode cX8_readPerson 18 = .ok (.aload_n 0, 1) := by decide +kernel
theorem dX8_readPerson_19 : decode cX8_readPerson 19 = .ok (.invokevirtual 120, 3) := by decide +kernel
theorem dX8_readPerson_22 : decode cX8_readPerson 22 = .ok (.aload_n 0, 1) := by decide +kernel
theorem dX8_readPerson_23 : decode cX8_readPerson 23 = .ok (.getfield 28, 3) := by decide +kernel
theorem dX8_readPerson_26 : decode cX8_readPerson 26 = .ok (.iconst 3, 1) := by decide +kernel
theorem dX8_readPerson_27 : decode cX8_readPerson 27 = .ok (.dup2, 1) := by decide +kernel
theorem dX8_readPerson_28 : decode cX8_readPerson 28 = .ok (.iaload, 1) := by decide +kernel
theorem dX8_readPerson_29 : decode cX8_readPerson 29 = .ok (.iconst 1, 1) := by decide +kernel
theorem dX8_readPerson_30 : decode cX8_readPerson 30 = .ok (.iadd, 1) := by decide +kernel
theorem dX8_readPerson_31 : decode cX8_readPerson 31 = .ok (.iastore, 1) := by decide +kernel
theorem dX8_readPerson_32 : decode cX8_readPerson 32 = .ok (.aload_n 0, 1) := by decide +kernel
theorem dX8_readPerson_33 : decode cX8_readPerson 33 = .ok (.getfield 28, 3) := by decide +kernel
theorem dX8_readPerson_36 : decode cX8_readPerson 36 = .ok (.bipush 10, 2) := by decide +kernel
theorem dX8_readPerson_38 : decode cX8_readPerson 38 = .ok (.iload_n 1, 1) := by decide +kernel
theorem dX8_readPerson_39 : decode cX8_readPerson 39 = .ok (.iadd, 1) := by decide +kernel
theorem dX8_readPerson_40 : decode cX8_readPerson 40 = .ok (.iload_n 1, 1) := by decide +kernel
theorem dX8_readPerson_41 : decode cX8_readPerson 41 = .ok (.iastore, 1) := by decide +kernel
theorem dX8_readPerson_42 : decode cX8_readPerson 42 = .ok (.aload_n 0, 1) := by decide +kernel
theorem dX8_readPerson_43 : decode cX8_readPerson 43 = .ok (.iconst 0, 1) := by decide +kernel
theorem dX8_readPerson_44 : decode cX8_readPerson 44 = .ok (.aload_n 0, 1) := by decide +kernel
theorem dX8_readPerson_45 : decode cX8_readPerson 45 = .ok (.getfield 28, 3) := by decide +kernel
theorem dX8_readPerson_48 : decode cX8_readPerson 48 = .ok (.iconst 1, 1) := by decide +kernel
theorem dX8_readPerson_49 : decode cX8_readPerson 49 = .ok (.iaload, 1) := by decide +kernel
theorem dX8_readPerson_50 : decode cX8_readPerson 50 = .ok (.iconst 1, 1) := by decide +kernel
theorem dX8_readPerson_51 : decode cX8_readPerson 51 = .ok (.isub, 1) := by decide +kernel
theorem dX8_readPerson_52 : decode cX8_readPerson 52 = .ok (.bipush 6, 2) := by decide +kernel
theorem dX8_readPerson_54 : decode cX8_readPerson 54 = .ok (.iload_n 1, 1) := by decide +kernel
theorem dX8_readPerson_55 : decode cX8_readPerson 55 = .ok (.iadd, 1) := by decide +kernel
theorem dX8_readPerson_56 : decode cX8_readPerson 56 = .ok (.bipush 44, 2) := by decide +kernel
theorem dX8_readPerson_58 : decode cX8_readPerson 58 = .ok (.invokevirtual 126, 3) := by decide +kernel
theorem dX8_readPerson_61 : decode cX8_readPerson 61 = .ok (.ifCond .ne 5, 3) := by decide +kernel
theorem dX8_readPerson_64 : decode cX8_readPerson 64 = .ok (.iconst 0, 1) := by decide +kernel
theorem dX8_readPerson_65 : decode cX8_readPerson 65 = .ok (.ireturn, 1) := by decide +kernel
theorem dX8_readPerson_66 : decode cX8_readPerson 66 = .ok (.aload_n 0, 1) := by decide +kernel
theorem dX8_readPerson_67 : decode cX8_readPerson 67 = .ok (.getfield 100, 3) := by decide +kernel
theorem dX8_readPerson_70 : decode cX8_readPerson 70 = .ok (.istore_n 2, 1) := by decide +kernel
theorem dX8_readPerson_71 : decode cX8_readPerson 71 = .ok (.aload_n 0, 1) := by decide +kernel
theorem dX8_readPerson_72 : decode cX8_readPerson 72 = .ok (.iconst 0, 1) := by decide +kernel
theorem dX8_readPerson_73 : decode cX8_readPerson 73 = .ok (.iconst 1, 1) := by decide +kernel
theorem dX8_readPerson_74 : decode cX8_readPerson 74 = .ok (.aload_n 0, 1) := by decide +kernel
theorem dX8_readPerson_75 : decode cX8_readPerson 75 = .ok (.getfield 28, 3) := by decide +kernel
theorem dX8_readPerson_78 : decode cX8_readPerson 78 = .ok (.iconst 2, 1) := by decide +kernel
theorem dX8_readPerson_79 : decode cX8_readPerson 79 = .ok (.iaload, 1) := by decide +kernel
theorem dX8_readPerson_80 : decode cX8_readPerson 80 = .ok (.ishl, 1) := by decide +kernel
theorem dX8_readPerson_81 : decode cX8_readPerson 81 = .ok (.iconst 1, 1) := by decide +kernel
theorem dX8_readPerson_82 : decode cX8_readPerson 82 = .ok (.isub, 1) := by decide +kernel
theorem dX8_readPerson_83 : decode cX8_readPerson 83 = .ok (.iconst 5, 1) := by decide +kernel
theorem dX8_readPerson_84 : decode cX8_readPerson 84 = .ok (.bipush 59, 2) := by decide +kernel
theorem dX8_readPerson_86 : decode cX8_readPerson 86 = .ok (.invokevirtual 126, 3) := by decide +kernel
theorem dX8_readPerson_89 : decode cX8_readPerson 89 = .ok (.ifCond .ne 5, 3) := by decide +kernel
theorem dX8_readPerson_92 : decode cX8_readPerson 92 = .ok (.iconst 0, 1) := by decide +kernel
theorem dX8_readPerson_93 : decode cX8_readPerson 93 = .ok (.ireturn, 1) := by decide +kernel
theorem dX8_readPerson_94 : decode cX8_readPerson 94 = .ok (.aload_n 0, 1) := by decide +kernel
theorem dX8_readPerson_95 : decode cX8_readPerson 95 = .ok (.getfield 28, 3) := by decide +kernel
theorem dX8_readPerson_98 : decode cX8_readPerson 98 = .ok (.iconst 5, 1) := by decide +kernel
theorem dX8_readPerson_99 : decode cX8_readPerson 99 = .ok (.iconst 0, 1) := by decide +kernel
theorem dX8_readPerson_100 : decode cX8_readPerson 100 = .ok (.iastore, 1) := by decide +kernel
theorem dX8_readPerson_101 : decode cX8_readPerson 101 = .ok (.iconst 0, 1) := by decide +kernel
theorem dX8_readPerson_102 : decode cX8_readPerson 102 = .ok (.istore_n 3, 1) := by decide +kernel
theorem dX8_readPerson_103 : decode cX8_readPerson 103 = .ok (.iload_n 3, 1) := by decide +kernel
theorem dX8_readPerson_104 : decode cX8_readPerson 104 = .ok (.aload_n 0, 1) := by decide +kernel
theorem dX8_readPerson_105 : decode cX8_readPerson 105 = .ok (.getfield 28, 3) := by decide +kernel
theorem dX8_readPerson_108 : decode cX8_readPerson 108 = .ok (.iconst 2, 1) := by decide +kernel
theorem dX8_readPerson_109 : decode cX8_readPerson 109 = .ok (.iaload, 1) := by decide +kernel
theorem dX8_readPerson_110 : decode cX8_readPerson 110 = .ok (.if_icmp .ge 84, 3) := by decide +kernel
theorem dX8_readPerson_113 : decode cX8_readPerson 113 = .ok (.iload_n 2, 1) := by decide +kernel
theorem dX8_readPerson_114 : decode cX8_readPerson 114 = .ok (.iload_n 3, 1) := by decide +kernel
theorem dX8_readPerson_115 : decode cX8_readPerson 115 = .ok (.invokestatic 130, 3) := by decide +kernel
theorem dX8_readPerson_118 : decode cX8_readPerson 118 = .ok (.ifCond .eq 20, 3) := by decide +kernel
theorem dX8_readPerson_121 : decode cX8_readPerson 121 = .ok (.aload_n 0, 1) := by decide +kernel
theorem dX8_readPerson_122 : decode cX8_readPerson 122 = .ok (.getfield 28, 3) := by decide +kernel
theorem dX8_readPerson_125 : decode cX8_readPerson 125 = .ok (.bipush 14, 2) := by decide +kernel
theorem dX8_readPerson_127 : decode cX8_readPerson 127 = .ok (.iload_n 3, 1) := by decide +kernel
theorem dX8_readPerson_128 : decode cX8_readPerson 128 = .ok (.iadd, 1) := by decide +kernel
theorem dX8_readPerson_129 : decode cX8_readPerson 129 = .ok (.iaload, 1) := by decide +kernel
theorem dX8_readPerson_130 : decode cX8_readPerson 130 = .ok (.iconst 5, 1) := by decide +kernel
theorem dX8_readPerson_131 : decode cX8_readPerson 131 = .ok (.if_icmp .eq 7, 3) := by decide +kernel
theorem dX8_readPerson_134 : decode cX8_readPerson 134 = .ok (.iconst 1, 1) := by decide +kernel
theorem dX8_readPerson_135 : decode cX8_readPerson 135 = .ok (.goto 4, 3) := by decide +kernel
theorem dX8_readPerson_138 : decode cX8_readPerson 138 = .ok (.iconst 0, 1) := by decide +kernel
theorem dX8_readPerson_139 : decode cX8_readPerson 139 = .ok (.istore 4, 2) := by decide +kernel
theorem dX8_readPerson_141 : decode cX8_readPerson 141 = .ok (.aload_n 0, 1) := by decide +kernel
theorem dX8_readPerson_142 : decode cX8_readPerson 142 = .ok (.getfield 28, 3) := by decide +kernel
theorem dX8_readPerson_145 : decode cX8_readPerson 145 = .ok (.bipush 50, 2) := by decide +kernel
theorem dX8_readPerson_147 : decode cX8_readPerson 147 = .ok (.iconst 4, 1) := by decide +kernel
theorem dX8_readPerson_148 : decode cX8_readPerson 148 = .ok (.iload_n 3, 1) := by decide +kernel
theorem dX8_readPerson_149 : decode cX8_readPerson 149 = .ok (.imul, 1) := by decide +kernel
theorem dX8_readPerson_150 : decode cX8_readPerson 150 = .ok (.iadd, 1) := by decide +kernel
theorem dX8_readPerson_151 : decode cX8_readPerson 151 = .ok (.iload_n 1, 1) := by decide +kernel
theorem dX8_readPerson_152 : decode cX8_readPerson 152 = .ok (.iadd, 1) := by decide +kernel
theorem dX8_readPerson_153 : decode cX8_readPerson 153 = .ok (.iload 4, 2) := by decide +kernel
theorem dX8_readPerson_155 : decode cX8_readPerson 155 = .ok (.ifCond .eq 7, 3) := by decide +kernel
theorem dX8_readPerson_158 : decode cX8_readPerson 158 = .ok (.iconst 2, 1) := by decide +kernel
theorem dX8_readPerson_159 : decode cX8_readPerson 159 = .ok (.goto 4, 3) := by decide +kernel
theorem dX8_readPerson_162 : decode cX8_readPerson 162 = .ok (.iconst 0, 1) := by decide +kernel
theorem dX8_readPerson_163 : decode cX8_readPerson 163 = .ok (.iastore, 1) := by decide +kernel
theorem dX8_readPerson_164 : decode cX8_readPerson 164 = .ok (.aload_n 0, 1) := by decide +kernel
theorem dX8_readPerson_165 : decode cX8_readPerson 165 = .ok (.getfield 28, 3) := by decide +kernel
theorem dX8_readPerson_168 : decode cX8_readPerson 168 = .ok (.bipush 86, 2) := by decide +kernel
theorem dX8_readPerson_170 : decode cX8_readPerson 170 = .ok (.iconst 4, 1) := by decide +kernel
theorem dX8_readPerson_171 : decode cX8_readPerson 171 = .ok (.iload_n 3, 1) := by decide +kernel
theorem dX8_readPerson_172 : decode cX8_readPerson 172 = .ok (.imul, 1) := by decide +kernel
theorem dX8_readPerson_173 : decode cX8_readPerson 173 = .ok (.iadd, 1) := by decide +kernel
theorem dX8_readPerson_174 : decode cX8_readPerson 174 = .ok (.iload_n 1, 1) := by decide +kernel
theorem dX8_readPerson_175 : decode cX8_readPerson 175 = .ok (.iadd, 1) := by decide +kernel
theorem dX8_readPerson_176 : decode cX8_readPerson 176 = .ok (.iload 4, 2) := by decide +kernel
theorem dX8_readPerson_178 : decode cX8_readPerson 178 = .ok (.ifCond .eq 7, 3) := by decide +kernel
theorem dX8_readPerson_181 : decode cX8_readPerson 181 = .ok (.iconst 0, 1) := by decide +kernel
theorem dX8_readPerson_182 : decode cX8_readPerson 182 = .ok (.goto 5, 3) := by decide +kernel
theorem dX8_readPerson_185 : decode cX8_readPerson 185 = .ok (.ldc 134, 2) := by decide +kernel
theorem dX8_readPerson_187 : decode cX8_readPerson 187 = .ok (.iastore, 1) := by decide +kernel
theorem dX8_readPerson_188 : decode cX8_readPerson 188 = .ok (.iinc 3 1, 3) := by decide +kernel
theorem dX8_readPerson_191 : decode cX8_readPerson 191 = .ok (.goto (-88), 3) := by decide +kernel
theorem dX8_readPerson_194 : decode cX8_readPerson 194 = .ok (.iconst 1, 1) := by decide +kernel
theorem dX8_readPerson_195 : decode cX8_readPerson 195 = .ok (.ireturn, 1) := by decide +kernel
theorem dX8_readLand_0 : decode cX8_readLand 0 = .ok (.aload_n 0, 1) := by decide +kernel
theorem dX8_readLand_1 : decode cX8_readLand 1 = .ok (.iconst 0, 1) := by decide +kernel
theorem dX8_readLand_2 : decode cX8_readLand 2 = .ok (.putfield 91, 3) := by decide +kernel
theorem dX8_readLand_5 : decode cX8_readLand 5 = .ok (.iconst 0, 1) := by decide +kernel
theorem dX8_readLand_6 : decode cX8_readLand 6 = .ok (.istore_n 1, 1) := by decide +kernel
theorem dX8_readLand_7 : decode cX8_readLand 7 = .ok (.iload_n 1, 1) := by decide +kernel
theorem dX8_readLand_8 : decode cX8_readLand 8 = .ok (.bipush 122, 2) := by decide +kernel
theorem dX8_readLand_10 : decode cX8_readLand 10 = .ok (.if_icmp .ge 27, 3) := by decide +kernel
theorem dX8_readLand_13 : decode cX8_readLand 13 = .ok (.aload_n 0, 1) := by decide +kernel
theorem dX8_readLand_14 : decode cX8_readLand 14 = .ok (.getfield 28, 3) := by decide +kernel
theorem dX8_readLand_17 : decode cX8_readLand 17 = .ok (.iload_n 1, 1) := by decide +kernel
theorem dX8_readLand_18 : decode cX8_readLand 18 = .ok (.iload_n 1, 1) := by decide +kernel
theorem dX8_readLand_19 : decode cX8_readLand 19 = .ok (.bipush 86, 2) := by decide +kernel
theorem dX8_readLand_21 : decode cX8_readLand 21 = .ok (.if_icmp .ge 7, 3) := by decide +kernel
theorem dX8_readLand_24 : decode cX8_readLand 24 = .ok (.iconst 0, 1) := by decide +kernel
theorem dX8_readLand_25 : decode cX8_readLand 25 = .ok (.goto 5, 3) := by decide +kernel
theorem dX8_readLand_28 : decode cX8_readLand 28 = .ok (.ldc 134, 2) := by decide +kernel
theorem dX8_readLand_30 : decode cX8_readLand 30 = .ok (.iastore, 1) := by decide +kernel
theorem dX8_readLand_31 : decode cX8_readLand 31 = .ok (.iinc 1 1, 3) := by decide +kernel
theorem dX8_readLand_34 : decode cX8_readLand 34 = .ok (.goto (-27), 3) := by decide +kernel
theorem dX8_readLand_37 : decode cX8_readLand 37 = .ok (.aload_n 0, 1) := by decide +kernel
theorem dX8_readLand_38 : decode cX8_readLand 38 = .ok (.invokevirtual 120, 3) := by decide +kernel
theorem dX8_readLand_41 : decode cX8_readLand 41 = .ok (.aload_n 0, 1) := by decide +kernel
theorem dX8_readLand_42 : decode cX8_readLand 42 = .ok (.bipush 102, 2) := by decide +kernel
theorem dX8_readLand_44 : decode cX8_readLand 44 = .ok (.invokevirtual 123, 3) := by decide +kernel
theorem dX8_readLand_47 : decode cX8_readLand 47 = .ok (.ifCond .eq 29, 3) := by decide +kernel
theorem dX8_readLand_50 : decode cX8_readLand 50 = .ok (.aload_n 0, 1) := by decide +kernel
theorem dX8_readLand_51 : decode cX8_readLand 51 = .ok (.iconst 1, 1) := by decide +kernel
theorem dX8_readLand_52 : decode cX8_readLand 52 = .ok (.bipush 30, 2) := by decide +kernel
theorem dX8_readLand_54 : decode cX8_readLand 54 = .ok (.iconst 0, 1) := by decide +kernel
theorem dX8_readLand_55 : decode cX8_readLand 55 = .ok (.bipush 44, 2) := by decide +kernel
theorem dX8_readLand_57 : decode cX8_readLand 57 = .ok (.invokevirtual 126, 3) := by decide +kernel
theorem dX8_readLand_60 : decode cX8_readLand 60 = .ok (.ifCond .eq 16, 3) := by decide +kernel
theorem dX8_readLand_63 : decode cX8_readLand 63 = .ok (.aload_n 0, 1) := by decide +kernel
theorem dX8_readLand_64 : decode cX8_readLand 64 = .ok (.iconst 2, 1) := by decide +kernel
theorem dX8_readLand_65 : decode cX8_readLand 65 = .ok (.bipush 8, 2) := by decide +kernel
theorem dX8_readLand_67 : decode cX8_readLand 67 = .ok (.iconst 1, 1) := by decide +kernel
theorem dX8_readLand_68 : decode cX8_readLand 68 = .ok (.bipush 59, 2) := by decide +kernel
theorem dX8_readLand_70 : decode cX8_readLand 70 = .ok (.invokevirtual 126, 3) := by decide +kernel
theorem dX8_readLand_73 : decode cX8_readLand 73 = .ok (.ifCond .ne 5, 3) := by decide +kernel
theorem dX8_readLand_76 : decode cX8_readLand 76 = .ok (.iconst 0, 1) := by decide +kernel
theorem dX8_readLand_77 : decode cX8_readLand 77 = .ok (.ireturn, 1) := by decide +kernel
theorem dX8_readLand_78 : decode cX8_readLand 78 = .ok (.iconst 1, 1) := by decide +kernel
theorem dX8_readLand_79 : decode cX8_readLand 79 = .ok (.istore_n 1, 1) := by decide +kernel
theorem dX8_readLand_80 : decode cX8_readLand 80 = .ok (.iload_n 1, 1) := by decide +kernel
theorem dX8_readLand_81 : decode cX8_readLand 81 = .ok (.ifCond .eq 115, 3) := by decide +kernel
theorem dX8_readLand_84 : decode cX8_readLand 84 = .ok (.aload_n 0, 1) := by decide +kernel
theorem dX8_readLand_85 : decode cX8_readLand 85 = .ok (.getfield 97, 3) := by decide +kernel
theorem dX8_readLand_88 : decode cX8_readLand 88 = .ok (.iconst 3, 1) := by decide +kernel
theorem dX8_readLand_89 : decode cX8_readLand 89 = .ok (.if_icmp .eq 107, 3) := by decide +kernel
theorem dX8_readLand_92 : decode cX8_readLand 92 = .ok (.aload_n 0, 1) := by decide +kernel
theorem dX8_readLand_93 : decode cX8_readLand 93 = .ok (.bipush 108, 2) := by decide +kernel
theorem dX8_readLand_95 : decode cX8_readLand 95 = .ok (.invokevirtual 114, 3) := by decide +kernel
theorem dX8_readLand_98 : decode cX8_readLand 98 = .ok (.ifCond .eq 7, 3) := by decide +kernel
theorem dX8_readLand_101 : decode cX8_readLand 101 = .ok (.iconst 1, 1) := by decide +kernel
theorem dX8_readLand_102 : decode cX8_readLand 102 = .ok (.goto 56, 3) := by decide +kernel
theorem dX8_readLand_105 : decode cX8_readLand 105 = .ok (.aload_n 0, 1) := by decide +kernel
theorem dX8_readLand_106 : decode cX8_readLand 106 = .ok (.bipush 110, 2) := by decide +kernel
theorem dX8_readLand_108 : decode cX8_readLand 108 = .ok (.invokevirtual 114, 3) := by decide +kernel
theorem dX8_readLand_111 : decode cX8_readLand 111 = .ok (.ifCond .eq 7, 3) := by decide +kernel
theorem dX8_readLand_114 : decode cX8_readLand 114 = .ok (.iconst 2, 1) := by decide +kernel
theorem dX8_readLand_115 : decode cX8_readLand 115 = .ok (.goto 43, 3) := by decide +kernel
theorem dX8_readLand_118 : decode cX8_readLand 118 = .ok (.aload_n 0, 1) := by decide +kernel
theorem dX8_readLand_119 : decode cX8_readLand 119 = .ok (.bipush 111, 2) := by decide +kernel
theorem dX8_readLand_121 : decode cX8_readLand 121 = .ok (.invokevirtual 114, 3) := by decide +kernel
theorem dX8_readLand_124 : decode cX8_readLand 124 = .ok (.ifCond .eq 7, 3) := by decide +kernel
theorem dX8_readLand_127 : decode cX8_readLand 127 = .ok (.iconst 3, 1) := by decide +kernel
theorem dX8_readLand_128 : decode cX8_readLand 128 = .ok (.goto 30, 3) := by decide +kernel
theorem dX8_readLand_131 : decode cX8_readLand 131 = .ok (.aload_n 0, 1) := by decide +kernel
theorem dX8_readLand_132 : decode cX8_readLand 132 = .ok (.bipush 104, 2) := by decide +kernel
theorem dX8_readLand_134 : decode cX8_readLand 134 = .ok (.invokevirtual 114, 3) := by decide +kernel
theorem dX8_readLand_137 : decode cX8_readLand 137 = .ok (.ifCond .eq 7, 3) := by decide +kernel
theorem dX8_readLand_140 : decode cX8_readLand 140 = .ok (.iconst 4, 1) := by decide +kernel
theorem dX8_readLand_141 : decode cX8_readLand 141 = .ok (.goto 17, 3) := by decide +kernel
theorem dX8_readLand_144 : decode cX8_readLand 144 = .ok (.aload_n 0, 1) := by decide +kernel
theorem dX8_readLand_145 : decode cX8_readLand 145 = .ok (.bipush 114, 2) := by decide +kernel
theorem dX8_readLand_147 : decode cX8_readLand 147 = .ok (.invokevirtual 114, 3) := by decide +kernel
theorem dX8_readLand_150 : decode cX8_readLand 150 = .ok (.ifCond .eq 7, 3) := by decide +kernel
theorem dX8_readLand_153 : decode cX8_readLand 153 = .ok (.iconst 5, 1) := by decide +kernel
theorem dX8_readLand_154 : decode cX8_readLand 154 = .ok (.goto 4, 3) := by decide +kernel
theorem dX8_readLand_157 : decode cX8_readLand 157 = .ok (.iconst 0, 1) := by decide +kernel
theorem dX8_readLand_158 : decode cX8_readLand 158 = .ok (.istore_n 2, 1) := by decide +kernel
theorem dX8_readLand_159 : decode cX8_readLand 159 = .ok (.iload_n 2, 1) := by decide +kernel
theorem dX8_readLand_160 : decode cX8_readLand 160 = .ok (.ifCond .le 11, 3) := by decide +kernel
theorem dX8_readLand_163 : decode cX8_readLand 163 = .ok (.aload_n 0, 1) := by decide +kernel
theorem dX8_readLand_164 : decode cX8_readLand 164 = .ok (.iload_n 2, 1) := by decide +kernel
theorem dX8_readLand_165 : decode cX8_readLand 165 = .ok (.invokevirtual 135, 3) := by decide +kernel
theorem dX8_readLand_168 : decode cX8_readLand 168 = .ok (.goto 24, 3) := by decide +kernel
theorem dX8_readLand_171 : decode cX8_readLand 171 = .ok (.aload_n 0, 1) := by decide +kernel
theorem dX8_readLand_172 : decode cX8_readLand 172 = .ok (.bipush 112, 2) := by decide +kernel
theorem dX8_readLand_174 : decode cX8_readLand 174 = .ok (.invokevirtual 114, 3) := by decide +kernel
theorem dX8_readLand_177 : decode cX8_readLand 177 = .ok (.ifCond .eq 10, 3) := by decide +kernel
theorem dX8_readLand_180 : decode cX8_readLand 180 = .ok (.aload_n 0, 1) := by decide +kernel
theorem dX8_readLand_181 : decode cX8_readLand 181 = .ok (.invokevirtual 138, 3) := by decide +kernel
theorem dX8_readLand_184 : decode cX8_readLand 184 = .ok (.goto 8, 3) := by decide +kernel
theorem dX8_readLand_187 : decode cX8_readLand 187 = .ok (.aload_n 0, 1) := by decide +kernel
theorem dX8_readLand_188 : decode cX8_readLand 188 = .ok (.iconst 1, 1) := by decide +kernel
theorem dX8_readLand_189 : decode cX8_readLand 189 = .ok (.invokevirtual 117, 3) := by decide +kernel
theorem dX8_readLand_192 : decode cX8_readLand 192 = .ok (.istore_n 1, 1) := by decide +kernel
theorem dX8_readLand_193 : decode cX8_readLand 193 = .ok (.goto (-113), 3) := by decide +kernel
theorem dX8_readLand_196 : decode cX8_readLand 196 = .ok (.iload_n 1, 1) := by decide +kernel
theorem dX8_readLand_197 : decode cX8_readLand 197 = .ok (.ireturn, 1) := by decide +kernel
theorem dX8_land_0 : decode cX8_land 0 = .ok (.aload_n 0, 1) := by decide +kernel
theorem dX8_land_1 : decode cX8_land 1 = .ok (.invokevirtual 142, 3) := by decide +kernel
theorem dX8_land_4 : decode cX8_land 4 = .ok (.istore_n 1, 1) := by decide +kernel
theorem dX8_land_5 : decode cX8_land 5 = .ok (.aload_n 0, 1) := by decide +kernel
theorem dX8_land_6 : decode cX8_land 6 = .ok (.iconst 0, 1) := by decide +kernel
theorem dX8_land_7 : decode cX8_land 7 = .ok (.putfield 87, 3) := by decide +kernel
theorem dX8_land_10 : decode cX8_land 10 = .ok (.iload_n 1, 1) := by decide +kernel
theorem dX8_land_11 : decode cX8_land 11 = .ok (.ifCond .ne 19, 3) := by decide +kernel
theorem dX8_land_14 : decode cX8_land 14 = .ok (.aload_n 0, 1) := by decide +kernel
theorem dX8_land_15 : decode cX8_land 15 = .ok (.aload_n 0, 1) := by decide +kernel
theorem dX8_land_16 : decode cX8_land 16 = .ok (.getfield 111, 3) := by decide +kernel
theorem dX8_land_19 : decode cX8_land 19 = .ok (.putfield 145, 3) := by decide +kernel
theorem dX8_land_22 : decode cX8_land 22 = .ok (.ldc 148, 2) := by decide +kernel
theorem dX8_land_24 : decode cX8_land 24 = .ok (.aload_n 0, 1) := by decide +kernel
theorem dX8_land_25 : decode cX8_land 25 = .ok (.getfield 94, 3) := by decide +kernel
theorem dX8_land_28 : decode cX8_land 28 = .ok (.isub, 1) := by decide +kernel
theorem dX8_land_29 : decode cX8_land 29 = .ok (.ireturn, 1) := by decide +kernel
theorem dX8_land_30 : decode cX8_land 30 = .ok (.iconst 0, 1) := by decide +kernel
theorem dX8_land_31 : decode cX8_land 31 = .ok (.istore_n 2, 1) := by decide +kernel
theorem dX8_land_32 : decode cX8_land 32 = .ok (.iload_n 2, 1) := by decide +kernel
theorem dX8_land_33 : decode cX8_land 33 = .ok (.bipush 122, 2) := by decide +kernel
theorem dX8_land_35 : decode cX8_land 35 = .ok (.if_icmp .ge 21, 3) := by decide +kernel
theorem dX8_land_38 : decode cX8_land 38 = .ok (.aload_n 0, 1) := by decide +kernel
theorem dX8_land_39 : decode cX8_land 39 = .ok (.getfield 19, 3) := by decide +kernel
theorem dX8_land_42 : decode cX8_land 42 = .ok (.iload_n 2, 1) := by decide +kernel
theorem dX8_land_43 : decode cX8_land 43 = .ok (.aload_n 0, 1) := by decide +kernel
theorem dX8_land_44 : decode cX8_land 44 = .ok (.getfield 28, 3) := by decide +kernel
theorem dX8_land_47 : decode cX8_land 47 = .ok (.iload_n 2, 1) := by decide +kernel
theorem dX8_land_48 : decode cX8_land 48 = .ok (.iaload, 1) := by decide +kernel
theorem dX8_land_49 : decode cX8_land 49 = .ok (.iastore, 1) := by decide +kernel
theorem dX8_land_50 : decode cX8_land 50 = .ok (.iinc 2 1, 3) := by decide +kernel
theorem dX8_land_53 : decode cX8_land 53 = .ok (.goto (-21), 3) := by decide +kernel
theorem dX8_land_56 : decode cX8_land 56 = .ok (.aload_n 0, 1) := by decide +kernel
theorem dX8_land_57 : decode cX8_land 57 = .ok (.iconst 1, 1) := by decide +kernel
theorem dX8_land_58 : decode cX8_land 58 = .ok (.putfield 149, 3) := by decide +kernel
theorem dX8_land_61 : decode cX8_land 61 = .ok (.aload_n 0, 1) := by decide +kernel
theorem dX8_land_62 : decode cX8_land 62 = .ok (.iconst 0, 1) := by decide +kernel
theorem dX8_land_63 : decode cX8_land 63 = .ok (.putfield 153, 3) := by decide +kernel
theorem dX8_land_66 : decode cX8_land 66 = .ok (.aload_n 0, 1) := by decide +kernel
theorem dX8_land_67 : decode cX8_land 67 = .ok (.getfield 19, 3) := by decide +kernel
theorem dX8_land_70 : decode cX8_land 70 = .ok (.iconst 3, 1) := by decide +kernel
theorem dX8_land_71 : decode cX8_land 71 = .ok (.iaload, 1) := by decide +kernel
theorem dX8_land_72 : decode cX8_land 72 = .ok (.ireturn, 1) := by decide +kernel
theorem dX8_fault_0 : decode cX8_fault 0 = .ok (.aload_n 0, 1) := by decide +kernel
theorem dX8_fault_1 : decode cX8_fault 1 = .ok (.getfield 145, 3) := by decide +kernel
theorem dX8_fault_4 : decode cX8_fault 4 = .ok (.ireturn, 1) := by decide +kernel
theorem dX8_isPerson_0 : decode cX8_isPerson 0 = .ok (.iload_n 1, 1) := by decide +kernel
theorem dX8_isPerson_1 : decode cX8_isPerson 1 = .ok (.i2l, 1) := by decide +kernel
theorem dX8_isPerson_2 : decode cX8_isPerson 2 = .ok (.lconst 0, 1) := by decide +kernel
theorem dX8_isPerson_3 : decode cX8_isPerson 3 = .ok (.aload_n 0, 1) := by decide +kernel
theorem dX8_isPerson_4 : decode cX8_isPerson 4 = .ok (.getfield 19, 3) := by decide +kernel
theorem dX8_isPerson_7 : decode cX8_isPerson 7 = .ok (.iconst 3, 1) := by decide +kernel
theorem dX8_isPerson_8 : decode cX8_isPerson 8 = .ok (.iaload, 1) := by decide +kernel
theorem dX8_isPerson_9 : decode cX8_isPerson 9 = .ok (.iconst 1, 1) := by decide +kernel
theorem dX8_isPerson_10 : decode cX8_isPerson 10 = .ok (.isub, 1) := by decide +kernel
theorem dX8_isPerson_11 : decode cX8_isPerson 11 = .ok (.i2l, 1) := by decide +kernel
theorem dX8_isPerson_12 : decode cX8_isPerson 12 = .ok (.invokestatic 63, 3) := by decide +kernel
theorem dX8_isPerson_15 : decode cX8_isPerson 15 = .ok (.ireturn, 1) := by decide +kernel
theorem dX8_isRoad_0 : decode cX8_isRoad 0 = .ok (.iload_n 1, 1) := by decide +kernel
theorem dX8_isRoad_1 : decode cX8_isRoad 1 = .ok (.i2l, 1) := by decide +kernel
theorem dX8_isRoad_2 : decode cX8_isRoad 2 = .ok (.lconst 0, 1) := by decide +kernel
theorem dX8_isRoad_3 : decode cX8_isRoad 3 = .ok (.aload_n 0, 1) := by decide +kernel
theorem dX8_isRoad_4 : decode cX8_isRoad 4 = .ok (.getfield 19, 3) := by decide +kernel
theorem dX8_isRoad_7 : decode cX8_isRoad 7 = .ok (.iconst 2, 1) := by decide +kernel
theorem dX8_isRoad_8 : decode cX8_isRoad 8 = .ok (.iaload, 1) := by decide +kernel
theorem dX8_isRoad_9 : decode cX8_isRoad 9 = .ok (.iconst 1, 1) := by decide +kernel
theorem dX8_isRoad_10 : decode cX8_isRoad 10 = .ok (.isub, 1) := by decide +kernel
theorem dX8_isRoad_11 : decode cX8_isRoad 11 = .ok (.i2l, 1) := by decide +kernel
theorem dX8_isRoad_12 : decode cX8_isRoad 12 = .ok (.invokestatic 63, 3) := by decide +kernel
theorem dX8_isRoad_15 : decode cX8_isRoad 15 = .ok (.ireturn, 1) := by decide +kernel
theorem dX8_isPlace_0 : decode cX8_isPlace 0 = .ok (.iload_n 1, 1) := by decide +kernel
theorem dX8_isPlace_1 : decode cX8_isPlace 1 = .ok (.i2l, 1) := by decide +kernel
theorem dX8_isPlace_2 : decode cX8_isPlace 2 = .ok (.lconst 0, 1) := by decide +kernel
theorem dX8_isPlace_3 : decode cX8_isPlace 3 = .ok (.aload_n 0, 1) := by decide +kernel
theorem dX8_isPlace_4 : decode cX8_isPlace 4 = .ok (.getfield 19, 3) := by decide +kernel
theorem dX8_isPlace_7 : decode cX8_isPlace 7 = .ok (.iconst 1, 1) := by decide +kernel
theorem dX8_isPlace_8 : decode cX8_isPlace 8 = .ok (.iaload, 1) := by decide +kernel
theorem dX8_isPlace_9 : decode cX8_isPlace 9 = .ok (.iconst 1, 1) := by decide +kernel
theorem dX8_isPlace_10 : decode cX8_isPlace 10 = .ok (.isub, 1) := by decide +kernel
theorem dX8_isPlace_11 : decode cX8_isPlace 11 = .ok (.i2l, 1) := by decide +kernel
theorem dX8_isPlace_12 : decode cX8_isPlace 12 = .ok (.invokestatic 63, 3) := by decide +kernel
theorem dX8_isPlace_15 : decode cX8_isPlace 15 = .ok (.ireturn, 1) := by decide +kernel
theorem dX8_areTwo_0 : decode cX8_areTwo 0 = .ok (.aload_n 0, 1) := by decide +kernel
theorem dX8_areTwo_1 : decode cX8_areTwo 1 = .ok (.iload_n 1, 1) := by decide +kernel
theorem dX8_areTwo_2 : decode cX8_areTwo 2 = .ok (.invokevirtual 156, 3) := by decide +kernel
theorem dX8_areTwo_5 : decode cX8_areTwo 5 = .ok (.ifCond .eq 20, 3) := by decide +kernel
theorem dX8_areTwo_8 : decode cX8_areTwo 8 = .ok (.aload_n 0, 1) := by decide +kernel
theorem dX8_areTwo_9 : decode cX8_areTwo 9 = .ok (.iload_n 2, 1) := by decide +kernel
theorem dX8_areTwo_10 : decode cX8_areTwo 10 = .ok (.invokevirtual 156, 3) := by decide +kernel
theorem dX8_areTwo_13 : decode cX8_areTwo 13 = .ok (.ifCond .eq 12, 3) := by decide +kernel
theorem dX8_areTwo_16 : decode cX8_areTwo 16 = .ok (.iload_n 1, 1) := by decide +kernel
theorem dX8_areTwo_17 : decode cX8_areTwo 17 = .ok (.iload_n 2, 1) := by decide +kernel
theorem dX8_areTwo_18 : decode cX8_areTwo 18 = .ok (.if_icmp .eq 7, 3) := by decide +kernel
theorem dX8_areTwo_21 : decode cX8_areTwo 21 = .ok (.iconst 1, 1) := by decide +kernel
theorem dX8_areTwo_22 : decode cX8_areTwo 22 = .ok (.goto 4, 3) := by decide +kernel
theorem dX8_areTwo_25 : decode cX8_areTwo 25 = .ok (.iconst 0, 1) := by decide +kernel
theorem dX8_areTwo_26 : decode cX8_areTwo 26 = .ok (.ireturn, 1) := by decide +kernel
theorem dX8_isByFeet_0 : decode cX8_isByFeet 0 = .ok (.aload_n 0, 1) := by decide +kernel
theorem dX8_isByFeet_1 : decode cX8_isByFeet 1 = .ok (.getfield 19, 3) := by decide +kernel
theorem dX8_isByFeet_4 : decode cX8_isByFeet 4 = .ok (.bipush 14, 2) := by decide +kernel
theorem dX8_isByFeet_6 : decode cX8_isByFeet 6 = .ok (.iload_n 1, 1) := by decide +kernel
theorem dX8_isByFeet_7 : decode cX8_isByFeet 7 = .ok (.iadd, 1) := by decide +kernel
theorem dX8_isByFeet_8 : decode cX8_isByFeet 8 = .ok (.iaload, 1) := by decide +kernel
theorem dX8_isByFeet_9 : decode cX8_isByFeet 9 = .ok (.iconst 4, 1) := by decide +kernel
theorem dX8_isByFeet_10 : decode cX8_isByFeet 10 = .ok (.if_icmp .ge 7, 3) := by decide +kernel
theorem dX8_isByFeet_13 : decode cX8_isByFeet 13 = .ok (.iconst 1, 1) := by decide +kernel
theorem dX8_isByFeet_14 : decode cX8_isByFeet 14 = .ok (.goto 4, 3) := by decide +kernel
theorem dX8_isByFeet_17 : decode cX8_isByFeet 17 = .ok (.iconst 0, 1) := by decide +kernel
theorem dX8_isByFeet_18 : decode cX8_isByFeet 18 = .ok (.ireturn, 1) := by decide +kernel
theorem dX8_limit_0 : decode cX8_limit 0 = .ok (.aload_n 0, 1) := by decide +kernel
theorem dX8_limit_1 : decode cX8_limit 1 = .ok (.getfield 19, 3) := by decide +kernel
theorem dX8_limit_4 : decode cX8_limit 4 = .ok (.bipush 14, 2) := by decide +kernel
theorem dX8_limit_6 : decode cX8_limit 6 = .ok (.iload_n 1, 1) := by decide +kernel
theorem dX8_limit_7 : decode cX8_limit 7 = .ok (.iadd, 1) := by decide +kernel
theorem dX8_limit_8 : decode cX8_limit 8 = .ok (.iaload, 1) := by decide +kernel
theorem dX8_limit_9 : decode cX8_limit 9 = .ok (.iconst 3, 1) := by decide +kernel
theorem dX8_limit_10 : decode cX8_limit 10 = .ok (.if_icmp .ne 14, 3) := by decide +kernel
theorem dX8_limit_13 : decode cX8_limit 13 = .ok (.iconst 2, 1) := by decide +kernel
theorem dX8_limit_14 : decode cX8_limit 14 = .ok (.aload_n 0, 1) := by decide +kernel
theorem dX8_limit_15 : decode cX8_limit 15 = .ok (.getfield 19, 3) := by decide +kernel
theorem dX8_limit_18 : decode cX8_limit 18 = .ok (.iconst 0, 1) := by decide +kernel
theorem dX8_limit_19 : decode cX8_limit 19 = .ok (.iaload, 1) := by decide +kernel
theorem dX8_limit_20 : decode cX8_limit 20 = .ok (.imul, 1) := by decide +kernel
theorem dX8_limit_21 : decode cX8_limit 21 = .ok (.goto 9, 3) := by decide +kernel
theorem dX8_limit_24 : decode cX8_limit 24 = .ok (.aload_n 0, 1) := by decide +kernel
theorem dX8_limit_25 : decode cX8_limit 25 = .ok (.getfield 19, 3) := by decide +kernel
theorem dX8_limit_28 : decode cX8_limit 28 = .ok (.iconst 0, 1) := by decide +kernel
theorem dX8_limit_29 : decode cX8_limit 29 = .ok (.iaload, 1) := by decide +kernel
theorem dX8_limit_30 : decode cX8_limit 30 = .ok (.ireturn, 1) := by decide +kernel
theorem dX8_opensOn_0 : decode cX8_opensOn 0 = .ok (.iconst 4, 1) := by decide +kernel
theorem dX8_opensOn_1 : decode cX8_opensOn 1 = .ok (.iload_n 1, 1) := by decide +kernel
theorem dX8_opensOn_2 : decode cX8_opensOn 2 = .ok (.imul, 1) := by decide +kernel
theorem dX8_opensOn_3 : decode cX8_opensOn 3 = .ok (.iload_n 2, 1) := by decide +kernel
theorem dX8_opensOn_4 : decode cX8_opensOn 4 = .ok (.iadd, 1) := by decide +kernel
theorem dX8_opensOn_5 : decode cX8_opensOn 5 = .ok (.istore 4, 2) := by decide +kernel
theorem dX8_opensOn_7 : decode cX8_opensOn 7 = .ok (.aload_n 0, 1) := by decide +kernel
theorem dX8_opensOn_8 : decode cX8_opensOn 8 = .ok (.getfield 19, 3) := by decide +kernel
theorem dX8_opensOn_11 : decode cX8_opensOn 11 = .ok (.bipush 14, 2) := by decide +kernel
theorem dX8_opensOn_13 : decode cX8_opensOn 13 = .ok (.iload_n 1, 1) := by decide +kernel
theorem dX8_opensOn_14 : decode cX8_opensOn 14 = .ok (.iadd, 1) := by decide +kernel
theorem dX8_opensOn_15 : decode cX8_opensOn 15 = .ok (.iaload, 1) := by decide +kernel
theorem dX8_opensOn_16 : decode cX8_opensOn 16 = .ok (.iconst 2, 1) := by decide +kernel
theorem dX8_opensOn_17 : decode cX8_opensOn 17 = .ok (.if_icmp .ne 7, 3) := by decide +kernel
theorem dX8_opensOn_20 : decode cX8_opensOn 20 = .ok (.iconst 2, 1) := by decide +kernel
theorem dX8_opensOn_21 : decode cX8_opensOn 21 = .ok (.goto 4, 3) := by decide +kernel
theorem dX8_opensOn_24 : decode cX8_opensOn 24 = .ok (.iconst 1, 1) := by decide +kernel
theorem dX8_opensOn_25 : decode cX8_opensOn 25 = .ok (.istore 5, 2) := by decide +kernel
theorem dX8_opensOn_27 : decode cX8_opensOn 27 = .ok (.aload_n 0, 1) := by decide +kernel
theorem dX8_opensOn_28 : decode cX8_opensOn 28 = .ok (.iload_n 1, 1) := by decide +kernel
theorem dX8_opensOn_29 : decode cX8_opensOn 29 = .ok (.invokevirtual 159, 3) := by decide +kernel
theorem dX8_opensOn_32 : decode cX8_opensOn 32 = .ok (.ifCond .eq 38, 3) := by decide +kernel
theorem dX8_opensOn_35 : decode cX8_opensOn 35 = .ok (.aload_n 0, 1) := by decide +kernel
theorem dX8_opensOn_36 : decode cX8_opensOn 36 = .ok (.getfield 19, 3) := by decide +kernel
theorem dX8_opensOn_39 : decode cX8_opensOn 39 = .ok (.bipush 50, 2) := by decide +kernel
theorem dX8_opensOn_41 : decode cX8_opensOn 41 = .ok (.iload 4, 2) := by decide +kernel
theorem dX8_opensOn_43 : decode cX8_opensOn 43 = .ok (.iadd, 1) := by decide +kernel
theorem dX8_opensOn_44 : decode cX8_opensOn 44 = .ok (.iaload, 1) := by decide +kernel
theorem dX8_opensOn_45 : decode cX8_opensOn 45 = .ok (.iload 5, 2) := by decide +kernel
theorem dX8_opensOn_47 : decode cX8_opensOn 47 = .ok (.if_icmp .lt 27, 3) := by decide +kernel
theorem dX8_opensOn_50 : decode cX8_opensOn 50 = .ok (.iload_n 3, 1) := by decide +kernel
theorem dX8_opensOn_51 : decode cX8_opensOn 51 = .ok (.aload_n 0, 1) := by decide +kernel
theorem dX8_opensOn_52 : decode cX8_opensOn 52 = .ok (.getfield 19, 3) := by decide +kernel
theorem dX8_opensOn_55 : decode cX8_opensOn 55 = .ok (.bipush 86, 2) := by decide +kernel
theorem dX8_opensOn_57 : decode cX8_opensOn 57 = .ok (.iload 4, 2) := by decide +kernel
theorem dX8_opensOn_59 : decode cX8_opensOn 59 = .ok (.iadd, 1) := by decide +kernel
theorem dX8_opensOn_60 : decode cX8_opensOn 60 = .ok (.iaload, 1) := by decide +kernel
theorem dX8_opensOn_61 : decode cX8_opensOn 61 = .ok (.isub, 1) := by decide +kernel
theorem dX8_opensOn_62 : decode cX8_opensOn 62 = .ok (.aload_n 0, 1) := by decide +kernel
theorem dX8_opensOn_63 : decode cX8_opensOn 63 = .ok (.iload_n 1, 1) := by decide +kernel
theorem dX8_opensOn_64 : decode cX8_opensOn 64 = .ok (.invokevirtual 162, 3) := by decide +kernel
theorem dX8_opensOn_67 : decode cX8_opensOn 67 = .ok (.if_icmp .gt 7, 3) := by decide +kernel
theorem dX8_opensOn_70 : decode cX8_opensOn 70 = .ok (.iconst 1, 1) := by decide +kernel
theorem dX8_opensOn_71 : decode cX8_opensOn 71 = .ok (.goto 4, 3) := by decide +kernel
theorem dX8_opensOn_74 : decode cX8_opensOn 74 = .ok (.iconst 0, 1) := by decide +kernel
theorem dX8_opensOn_75 : decode cX8_opensOn 75 = .ok (.ireturn, 1) := by decide +kernel
theorem dX8_opens_0 : decode cX8_opens 0 = .ok (.aload_n 0, 1) := by decide +kernel
theorem dX8_opens_1 : decode cX8_opens 1 = .ok (.iload_n 1, 1) := by decide +kernel
theorem dX8_opens_2 : decode cX8_opens 2 = .ok (.iload_n 2, 1) := by decide +kernel
theorem dX8_opens_3 : decode cX8_opens 3 = .ok (.aload_n 0, 1) := by decide +kernel
theorem dX8_opens_4 : decode cX8_opens 4 = .ok (.getfield 19, 3) := by decide +kernel
theorem dX8_opens_7 : decode cX8_opens 7 = .ok (.iconst 4, 1) := by decide +kernel
theorem dX8_opens_8 : decode cX8_opens 8 = .ok (.iaload, 1) := by decide +kernel
theorem dX8_opens_9 : decode cX8_opens 9 = .ok (.invokevirtual 165, 3) := by decide +kernel
theorem dX8_opens_12 : decode cX8_opens 12 = .ok (.ireturn, 1) := by decide +kernel
theorem dX8_openTo_0 : decode cX8_openTo 0 = .ok (.iconst 0, 1) := by decide +kernel
theorem dX8_openTo_1 : decode cX8_openTo 1 = .ok (.istore_n 2, 1) := by decide +kernel
theorem dX8_openTo_2 : decode cX8_openTo 2 = .ok (.iconst 0, 1) := by decide +kernel
theorem dX8_openTo_3 : decode cX8_openTo 3 = .ok (.istore_n 3, 1) := by decide +kernel
theorem dX8_openTo_4 : decode cX8_openTo 4 = .ok (.iload_n 3, 1) := by decide +kernel
theorem dX8_openTo_5 : decode cX8_openTo 5 = .ok (.aload_n 0, 1) := by decide +kernel
theorem dX8_openTo_6 : decode cX8_openTo 6 = .ok (.getfield 19, 3) := by decide +kernel
theorem dX8_openTo_9 : decode cX8_openTo 9 = .ok (.iconst 2, 1) := by decide +kernel
theorem dX8_openTo_10 : decode cX8_openTo 10 = .ok (.iaload, 1) := by decide +kernel
theorem dX8_openTo_11 : decode cX8_openTo 11 = .ok (.if_icmp .ge 28, 3) := by decide +kernel
theorem dX8_openTo_14 : decode cX8_openTo 14 = .ok (.iload_n 2, 1) := by decide +kernel
theorem dX8_openTo_15 : decode cX8_openTo 15 = .ok (.aload_n 0, 1) := by decide +kernel
theorem dX8_openTo_16 : decode cX8_openTo 16 = .ok (.iload_n 3, 1) := by decide +kernel
theorem dX8_openTo_17 : decode cX8_openTo 17 = .ok (.iload_n 1, 1) := by decide +kernel
theorem dX8_openTo_18 : decode cX8_openTo 18 = .ok (.invokevirtual 169, 3) := by decide +kernel
theorem dX8_openTo_21 : decode cX8_openTo 21 = .ok (.ifCond .eq 9, 3) := by decide +kernel
theorem dX8_openTo_24 : decode cX8_openTo 24 = .ok (.iconst 1, 1) := by decide +kernel
theorem dX8_openTo_25 : decode cX8_openTo 25 = .ok (.iload_n 3, 1) := by decide +kernel
theorem dX8_openTo_26 : decode cX8_openTo 26 = .ok (.ishl, 1) := by decide +kernel
theorem dX8_openTo_27 : decode cX8_openTo 27 = .ok (.goto 4, 3) := by decide +kernel
theorem dX8_openTo_30 : decode cX8_openTo 30 = .ok (.iconst 0, 1) := by decide +kernel
theorem dX8_openTo_31 : decode cX8_openTo 31 = .ok (.ior, 1) := by decide +kernel
theorem dX8_openTo_32 : decode cX8_openTo 32 = .ok (.istore_n 2, 1) := by decide +kernel
theorem dX8_openTo_33 : decode cX8_openTo 33 = .ok (.iinc 3 1, 3) := by decide +kernel
theorem dX8_openTo_36 : decode cX8_openTo 36 = .ok (.goto (-32), 3) := by decide +kernel
theorem dX8_openTo_39 : decode cX8_openTo 39 = .ok (.iload_n 2, 1) := by decide +kernel
theorem dX8_openTo_40 : decode cX8_openTo 40 = .ok (.ireturn, 1) := by decide +kernel
theorem dX8_soleOf_0 : decode cX8_soleOf 0 = .ok (.aload_n 0, 1) := by decide +kernel
theorem dX8_soleOf_1 : decode cX8_soleOf 1 = .ok (.getfield 19, 3) := by decide +kernel
theorem dX8_soleOf_4 : decode cX8_soleOf 4 = .ok (.bipush 10, 2) := by decide +kernel
theorem dX8_soleOf_6 : decode cX8_soleOf 6 = .ok (.iload_n 1, 1) := by decide +kernel
theorem dX8_soleOf_7 : decode cX8_soleOf 7 = .ok (.iadd, 1) := by decide +kernel
theorem dX8_soleOf_8 : decode cX8_soleOf 8 = .ok (.iaload, 1) := by decide +kernel
theorem dX8_soleOf_9 : decode cX8_soleOf 9 = .ok (.ireturn, 1) := by decide +kernel
theorem dX8_solesOf_0 : decode cX8_solesOf 0 = .ok (.iconst 0, 1) := by decide +kernel
theorem dX8_solesOf_1 : decode cX8_solesOf 1 = .ok (.istore_n 2, 1) := by decide +kernel
theorem dX8_solesOf_2 : decode cX8_solesOf 2 = .ok (.iconst 0, 1) := by decide +kernel
theorem dX8_solesOf_3 : decode cX8_solesOf 3 = .ok (.istore_n 3, 1) := by decide +kernel
theorem dX8_solesOf_4 : decode cX8_solesOf 4 = .ok (.iload_n 3, 1) := by decide +kernel
theorem dX8_solesOf_5 : decode cX8_solesOf 5 = .ok (.aload_n 0, 1) := by decide +kernel
theorem dX8_solesOf_6 : decode cX8_solesOf 6 = .ok (.getfield 19, 3) := by decide +kernel
theorem dX8_solesOf_9 : decode cX8_solesOf 9 = .ok (.iconst 3, 1) := by decide +kernel
theorem dX8_solesOf_10 : decode cX8_solesOf 10 = .ok (.iaload, 1) := by decide +kernel
theorem dX8_solesOf_11 : decode cX8_solesOf 11 = .ok (.if_icmp .ge 28, 3) := by decide +kernel
theorem dX8_solesOf_14 : decode cX8_solesOf 14 = .ok (.iload_n 2, 1) := by decide +kernel
theorem dX8_solesOf_15 : decode cX8_solesOf 15 = .ok (.aload_n 0, 1) := by decide +kernel
theorem dX8_solesOf_16 : decode cX8_solesOf 16 = .ok (.iload_n 1, 1) := by decide +kernel
theorem dX8_solesOf_17 : decode cX8_solesOf 17 = .ok (.iload_n 3, 1) := by decide +kernel
theorem dX8_solesOf_18 : decode cX8_solesOf 18 = .ok (.invokevirtual 169, 3) := by decide +kernel
theorem dX8_solesOf_21 : decode cX8_solesOf 21 = .ok (.ifCond .eq 9, 3) := by decide +kernel
theorem dX8_solesOf_24 : decode cX8_solesOf 24 = .ok (.iconst 1, 1) := by decide +kernel
theorem dX8_solesOf_25 : decode cX8_solesOf 25 = .ok (.iload_n 3, 1) := by decide +kernel
theorem dX8_solesOf_26 : decode cX8_solesOf 26 = .ok (.ishl, 1) := by decide +kernel
theorem dX8_solesOf_27 : decode cX8_solesOf 27 = .ok (.goto 4, 3) := by decide +kernel
theorem dX8_solesOf_30 : decode cX8_solesOf 30 = .ok (.iconst 0, 1) := by decide +kernel
theorem dX8_solesOf_31 : decode cX8_solesOf 31 = .ok (.ior, 1) := by decide +kernel
theorem dX8_solesOf_32 : decode cX8_solesOf 32 = .ok (.istore_n 2, 1) := by decide +kernel
theorem dX8_solesOf_33 : decode cX8_solesOf 33 = .ok (.iinc 3 1, 3) := by decide +kernel
theorem dX8_solesOf_36 : decode cX8_solesOf 36 = .ok (.goto (-32), 3) := by decide +kernel
theorem dX8_solesOf_39 : decode cX8_solesOf 39 = .ok (.iload_n 2, 1) := by decide +kernel
theorem dX8_solesOf_40 : decode cX8_solesOf 40 = .ok (.ireturn, 1) := by decide +kernel
theorem dX8_across_0 : decode cX8_across 0 = .ok (.aload_n 0, 1) := by decide +kernel
theorem dX8_across_1 : decode cX8_across 1 = .ok (.getfield 19, 3) := by decide +kernel
theorem dX8_across_4 : decode cX8_across 4 = .ok (.bipush 23, 2) := by decide +kernel
theorem dX8_across_6 : decode cX8_across 6 = .ok (.iload_n 1, 1) := by decide +kernel
theorem dX8_across_7 : decode cX8_across 7 = .ok (.iadd, 1) := by decide +kernel
theorem dX8_across_8 : decode cX8_across 8 = .ok (.iaload, 1) := by decide +kernel
theorem dX8_across_9 : decode cX8_across 9 = .ok (.iload_n 2, 1) := by decide +kernel
theorem dX8_across_10 : decode cX8_across 10 = .ok (.if_icmp .ne 15, 3) := by decide +kernel
theorem dX8_across_13 : decode cX8_across 13 = .ok (.aload_n 0, 1) := by decide +kernel
theorem dX8_across_14 : decode cX8_across 14 = .ok (.getfield 19, 3) := by decide +kernel
theorem dX8_across_17 : decode cX8_across 17 = .ok (.bipush 32, 2) := by decide +kernel
theorem dX8_across_19 : decode cX8_across 19 = .ok (.iload_n 1, 1) := by decide +kernel
theorem dX8_across_20 : decode cX8_across 20 = .ok (.iadd, 1) := by decide +kernel
theorem dX8_across_21 : decode cX8_across 21 = .ok (.iaload, 1) := by decide +kernel
theorem dX8_across_22 : decode cX8_across 22 = .ok (.goto 29, 3) := by decide +kernel
theorem dX8_across_25 : decode cX8_across 25 = .ok (.aload_n 0, 1) := by decide +kernel
theorem dX8_across_26 : decode cX8_across 26 = .ok (.getfield 19, 3) := by decide +kernel
theorem dX8_across_29 : decode cX8_across 29 = .ok (.bipush 32, 2) := by decide +kernel
theorem dX8_across_31 : decode cX8_across 31 = .ok (.iload_n 1, 1) := by decide +kernel
theorem dX8_across_32 : decode cX8_across 32 = .ok (.iadd, 1) := by decide +kernel
theorem dX8_across_33 : decode cX8_across 33 = .ok (.iaload, 1) := by decide +kernel
theorem dX8_across_34 : decode cX8_across 34 = .ok (.iload_n 2, 1) := by decide +kernel
theorem dX8_across_35 : decode cX8_across 35 = .ok (.if_icmp .ne 15, 3) := by decide +kernel
theorem dX8_across_38 : decode cX8_across 38 = .ok (.aload_n 0, 1) := by decide +kernel
theorem dX8_across_39 : decode cX8_across 39 = .ok (.getfield 19, 3) := by decide +kernel
theorem dX8_across_42 : decode cX8_across 42 = .ok (.bipush 23, 2) := by decide +kernel
theorem dX8_across_44 : decode cX8_across 44 = .ok (.iload_n 1, 1) := by decide +kernel
theorem dX8_across_45 : decode cX8_across 45 = .ok (.iadd, 1) := by decide +kernel
theorem dX8_across_46 : decode cX8_across 46 = .ok (.iaload, 1) := by decide +kernel
theorem dX8_across_47 : decode cX8_across 47 = .ok (.goto 4, 3) := by decide +kernel
theorem dX8_across_50 : decode cX8_across 50 = .ok (.iconst (-1), 1) := by decide +kernel
theorem dX8_across_51 : decode cX8_across 51 = .ok (.ireturn, 1) := by decide +kernel
theorem dX8_note_0 : decode cX8_note 0 = .ok (.aload_n 0, 1) := by decide +kernel
theorem dX8_note_1 : decode cX8_note 1 = .ok (.getfield 153, 3) := by decide +kernel
theorem dX8_note_4 : decode cX8_note 4 = .ok (.bipush 24, 2) := by decide +kernel
theorem dX8_note_6 : decode cX8_note 6 = .ok (.if_icmp .ne 43, 3) := by decide +kernel
theorem dX8_note_9 : decode cX8_note 9 = .ok (.iconst 0, 1) := by decide +kernel
theorem dX8_note_10 : decode cX8_note 10 = .ok (.istore_n 1, 1) := by decide +kernel
theorem dX8_note_11 : decode cX8_note 11 = .ok (.iload_n 1, 1) := by decide +kernel
theorem dX8_note_12 : decode cX8_note 12 = .ok (.sipush 2806, 3) := by decide +kernel
theorem dX8_note_15 : decode cX8_note 15 = .ok (.if_icmp .ge 24, 3) := by decide +kernel
theorem dX8_note_18 : decode cX8_note 18 = .ok (.aload_n 0, 1) := by decide +kernel
theorem dX8_note_19 : decode cX8_note 19 = .ok (.getfield 31, 3) := by decide +kernel
theorem dX8_note_22 : decode cX8_note 22 = .ok (.iload_n 1, 1) := by decide +kernel
theorem dX8_note_23 : decode cX8_note 23 = .ok (.aload_n 0, 1) := by decide +kernel
theorem dX8_note_24 : decode cX8_note 24 = .ok (.getfield 31, 3) := by decide +kernel
theorem dX8_note_27 : decode cX8_note 27 = .ok (.iload_n 1, 1) := by decide +kernel
theorem dX8_note_28 : decode cX8_note 28 = .ok (.bipush 122, 2) := by decide +kernel
theorem dX8_note_30 : decode cX8_note 30 = .ok (.iadd, 1) := by decide +kernel
theorem dX8_note_31 : decode cX8_note 31 = .ok (.iaload, 1) := by decide +kernel
theorem dX8_note_32 : decode cX8_note 32 = .ok (.iastore, 1) := by decide +kernel
theorem dX8_note_33 : decode cX8_note 33 = .ok (.iinc 1 1, 3) := by decide +kernel
theorem dX8_note_36 : decode cX8_note 36 = .ok (.goto (-25), 3) := by decide +kernel
theorem dX8_note_39 : decode cX8_note 39 = .ok (.aload_n 0, 1) := by decide +kernel
theorem dX8_note_40 : decode cX8_note 40 = .ok (.dup, 1) := by decide +kernel
theorem dX8_note_41 : decode cX8_note 41 = .ok (.getfield 153, 3) := by decide +kernel
theorem dX8_note_44 : decode cX8_note 44 = .ok (.iconst 1, 1) := by decide +kernel
theorem dX8_note_45 : decode cX8_note 45 = .ok (.isub, 1) := by decide +kernel
theorem dX8_note_46 : decode cX8_note 46 = .ok (.putfield 153, 3) := by decide +kernel
theorem dX8_note_49 : decode cX8_note 49 = .ok (.iconst 0, 1) := by decide +kernel
theorem dX8_note_50 : decode cX8_note 50 = .ok (.istore_n 1, 1) := by decide +kernel
theorem dX8_note_51 : decode cX8_note 51 = .ok (.iload_n 1, 1) := by decide +kernel
theorem dX8_note_52 : decode cX8_note 52 = .ok (.bipush 122, 2) := by decide +kernel
theorem dX8_note_54 : decode cX8_note 54 = .ok (.if_icmp .ge 29, 3) := by decide +kernel
theorem dX8_note_57 : decode cX8_note 57 = .ok (.aload_n 0, 1) := by decide +kernel
theorem dX8_note_58 : decode cX8_note 58 = .ok (.getfield 31, 3) := by decide +kernel
theorem dX8_note_61 : decode cX8_note 61 = .ok (.bipush 122, 2) := by decide +kernel
theorem dX8_note_63 : decode cX8_note 63 = .ok (.aload_n 0, 1) := by decide +kernel
theorem dX8_note_64 : decode cX8_note 64 = .ok (.getfield 153, 3) := by decide +kernel
theorem dX8_note_67 : decode cX8_note 67 = .ok (.imul, 1) := by decide +kernel
theorem dX8_note_68 : decode cX8_note 68 = .ok (.iload_n 1, 1) := by decide +kernel
theorem dX8_note_69 : decode cX8_note 69 = .ok (.iadd, 1) := by decide +kernel
theorem dX8_note_70 : decode cX8_note 70 = .ok (.aload_n 0, 1) := by decide +kernel
theorem dX8_note_71 : decode cX8_note 71 = .ok (.getfield 19, 3) := by decide +kernel
theorem dX8_note_74 : decode cX8_note 74 = .ok (.iload_n 1, 1) := by decide +kernel
theorem dX8_note_75 : decode cX8_note 75 = .ok (.iaload, 1) := by decide +kernel
theorem dX8_note_76 : decode cX8_note 76 = .ok (.iastore, 1) := by decide +kernel
theorem dX8_note_77 : decode cX8_note 77 = .ok (.iinc 1 1, 3) := by decide +kernel
theorem dX8_note_80 : decode cX8_note 80 = .ok (.goto (-29), 3) := by decide +kernel
theorem dX8_note_83 : decode cX8_note 83 = .ok (.aload_n 0, 1) := by decide +kernel
theorem dX8_note_84 : decode cX8_note 84 = .ok (.dup, 1) := by decide +kernel
theorem dX8_note_85 : decode cX8_note 85 = .ok (.getfield 153, 3) := by decide +kernel
theorem dX8_note_88 : decode cX8_note 88 = .ok (.iconst 1, 1) := by decide +kernel
theorem dX8_note_89 : decode cX8_note 89 = .ok (.iadd, 1) := by decide +kernel
theorem dX8_note_90 : decode cX8_note 90 = .ok (.putfield 153, 3) := by decide +kernel
theorem dX8_note_93 : decode cX8_note 93 = .ok (.return_, 1) := by decide +kernel
theorem dX8_meetSole_0 : decode cX8_meetSole 0 = .ok (.aload_n 0, 1) := by decide +kernel
theorem dX8_meetSole_1 : decode cX8_meetSole 1 = .ok (.getfield 19, 3) := by decide +kernel
theorem dX8_meetSole_4 : decode cX8_meetSole 4 = .ok (.bipush 14, 2) := by decide +kernel
theorem dX8_meetSole_6 : decode cX8_meetSole 6 = .ok (.iload_n 1, 1) := by decide +kernel
theorem dX8_meetSole_7 : decode cX8_meetSole 7 = .ok (.iadd, 1) := by decide +kernel
theorem dX8_meetSole_8 : decode cX8_meetSole 8 = .ok (.iaload, 1) := by decide +kernel
theorem dX8_meetSole_9 : decode cX8_meetSole 9 = .ok (.iconst 5, 1) := by decide +kernel
theorem dX8_meetSole_10 : decode cX8_meetSole 10 = .ok (.if_icmp .eq 39, 3) := by decide +kernel
theorem dX8_meetSole_13 : decode cX8_meetSole 13 = .ok (.aload_n 0, 1) := by decide +kernel
theorem dX8_meetSole_14 : decode cX8_meetSole 14 = .ok (.getfield 19, 3) := by decide +kernel
theorem dX8_meetSole_17 : decode cX8_meetSole 17 = .ok (.bipush 50, 2) := by decide +kernel
theorem dX8_meetSole_19 : decode cX8_meetSole 19 = .ok (.iconst 4, 1) := by decide +kernel
theorem dX8_meetSole_20 : decode cX8_meetSole 20 = .ok (.iload_n 1, 1) := by decide +kernel
theorem dX8_meetSole_21 : decode cX8_meetSole 21 = .ok (.imul, 1) := by decide +kernel
theorem dX8_meetSole_22 : decode cX8_meetSole 22 = .ok (.iadd, 1) := by decide +kernel
theorem dX8_meetSole_23 : decode cX8_meetSole 23 = .ok (.iload_n 2, 1) := by decide +kernel
theorem dX8_meetSole_24 : decode cX8_meetSole 24 = .ok (.iadd, 1) := by decide +kernel
theorem dX8_meetSole_25 : decode cX8_meetSole 25 = .ok (.dup2, 1) := by decide +kernel
theorem dX8_meetSole_26 : decode cX8_meetSole 26 = .ok (.iaload, 1) := by decide +kernel
theorem dX8_meetSole_27 : decode cX8_meetSole 27 = .ok (.iconst 1, 1) := by decide +kernel
theorem dX8_meetSole_28 : decode cX8_meetSole 28 = .ok (.iadd, 1) := by decide +kernel
theorem dX8_meetSole_29 : decode cX8_meetSole 29 = .ok (.iastore, 1) := by decide +kernel
theorem dX8_meetSole_30 : decode cX8_meetSole 30 = .ok (.aload_n 0, 1) := by decide +kernel
theorem dX8_meetSole_31 : decode cX8_meetSole 31 = .ok (.getfield 19, 3) := by decide +kernel
theorem dX8_meetSole_34 : decode cX8_meetSole 34 = .ok (.bipush 86, 2) := by decide +kernel
theorem dX8_meetSole_36 : decode cX8_meetSole 36 = .ok (.iconst 4, 1) := by decide +kernel
theorem dX8_meetSole_37 : decode cX8_meetSole 37 = .ok (.iload_n 1, 1) := by decide +kernel
theorem dX8_meetSole_38 : decode cX8_meetSole 38 = .ok (.imul, 1) := by decide +kernel
theorem dX8_meetSole_39 : decode cX8_meetSole 39 = .ok (.iadd, 1) := by decide +kernel
theorem dX8_meetSole_40 : decode cX8_meetSole 40 = .ok (.iload_n 2, 1) := by decide +kernel
theorem dX8_meetSole_41 : decode cX8_meetSole 41 = .ok (.iadd, 1) := by decide +kernel
theorem dX8_meetSole_42 : decode cX8_meetSole 42 = .ok (.aload_n 0, 1) := by decide +kernel
theorem dX8_meetSole_43 : decode cX8_meetSole 43 = .ok (.getfield 19, 3) := by decide +kernel
theorem dX8_meetSole_46 : decode cX8_meetSole 46 = .ok (.iconst 4, 1) := by decide +kernel
theorem dX8_meetSole_47 : decode cX8_meetSole 47 = .ok (.iaload, 1) := by decide +kernel
theorem dX8_meetSole_48 : decode cX8_meetSole 48 = .ok (.iastore, 1) := by decide +kernel
theorem dX8_meetSole_49 : decode cX8_meetSole 49 = .ok (.return_, 1) := by decide +kernel
theorem dX8_goOver_0 : decode cX8_goOver 0 = .ok (.aload_n 0, 1) := by decide +kernel
theorem dX8_goOver_1 : decode cX8_goOver 1 = .ok (.getfield 19, 3) := by decide +kernel
theorem dX8_goOver_4 : decode cX8_goOver 4 = .ok (.bipush 6, 2) := by decide +kernel
theorem dX8_goOver_6 : decode cX8_goOver 6 = .ok (.iload_n 1, 1) := by decide +kernel
theorem dX8_goOver_7 : decode cX8_goOver 7 = .ok (.iadd, 1) := by decide +kernel
theorem dX8_goOver_8 : decode cX8_goOver 8 = .ok (.aload_n 0, 1) := by decide +kernel
theorem dX8_goOver_9 : decode cX8_goOver 9 = .ok (.iload_n 2, 1) := by decide +kernel
theorem dX8_goOver_10 : decode cX8_goOver 10 = .ok (.aload_n 0, 1) := by decide +kernel
theorem dX8_goOver_11 : decode cX8_goOver 11 = .ok (.getfield 19, 3) := by decide +kernel
theorem dX8_goOver_14 : decode cX8_goOver 14 = .ok (.bipush 6, 2) := by decide +kernel
theorem dX8_goOver_16 : decode cX8_goOver 16 = .ok (.iload_n 1, 1) := by decide +kernel
theorem dX8_goOver_17 : decode cX8_goOver 17 = .ok (.iadd, 1) := by decide +kernel
theorem dX8_goOver_18 : decode cX8_goOver 18 = .ok (.iaload, 1) := by decide +kernel
theorem dX8_goOver_19 : decode cX8_goOver 19 = .ok (.invokevirtual 172, 3) := by decide +kernel
theorem dX8_goOver_22 : decode cX8_goOver 22 = .ok (.iastore, 1) := by decide +kernel
theorem dX8_goOver_23 : decode cX8_goOver 23 = .ok (.aload_n 0, 1) := by decide +kernel
theorem dX8_goOver_24 : decode cX8_goOver 24 = .ok (.getfield 19, 3) := by decide +kernel
theorem dX8_goOver_27 : decode cX8_goOver 27 = .ok (.iconst 5, 1) := by decide +kernel
theorem dX8_goOver_28 : decode cX8_goOver 28 = .ok (.dup2, 1) := by decide +kernel
theorem dX8_goOver_29 : decode cX8_goOver 29 = .ok (.iaload, 1) := by decide +kernel
theorem dX8_goOver_30 : decode cX8_goOver 30 = .ok (.aload_n 0, 1) := by decide +kernel
theorem dX8_goOver_31 : decode cX8_goOver 31 = .ok (.getfield 19, 3) := by decide +kernel
theorem dX8_goOver_34 : decode cX8_goOver 34 = .ok (.bipush 14, 2) := by decide +kernel
theorem dX8_goOver_36 : decode cX8_goOver 36 = .ok (.iload_n 2, 1) := by decide +kernel
theorem dX8_goOver_37 : decode cX8_goOver 37 = .ok (.iadd, 1) := by decide +kernel
theorem dX8_goOver_38 : decode cX8_goOver 38 = .ok (.iaload, 1) := by decide +kernel
theorem dX8_goOver_39 : decode cX8_goOver 39 = .ok (.iconst 5, 1) := by decide +kernel
theorem dX8_goOver_40 : decode cX8_goOver 40 = .ok (.if_icmp .ne 15, 3) := by decide +kernel
theorem dX8_goOver_43 : decode cX8_goOver 43 = .ok (.aload_n 0, 1) := by decide +kernel
theorem dX8_goOver_44 : decode cX8_goOver 44 = .ok (.getfield 19, 3) := by decide +kernel
theorem dX8_goOver_47 : decode cX8_goOver 47 = .ok (.bipush 41, 2) := by decide +kernel
theorem dX8_goOver_49 : decode cX8_goOver 49 = .ok (.iload_n 2, 1) := by decide +kernel
theorem dX8_goOver_50 : decode cX8_goOver 50 = .ok (.iadd, 1) := by decide +kernel
theorem dX8_goOver_51 : decode cX8_goOver 51 = .ok (.iaload, 1) := by decide +kernel
theorem dX8_goOver_52 : decode cX8_goOver 52 = .ok (.goto 4, 3) := by decide +kernel
theorem dX8_goOver_55 : decode cX8_goOver 55 = .ok (.iconst 0, 1) := by decide +kernel
theorem dX8_goOver_56 : decode cX8_goOver 56 = .ok (.iadd, 1) := by decide +kernel
theorem dX8_goOver_57 : decode cX8_goOver 57 = .ok (.iastore, 1) := by decide +kernel
theorem dX8_goOver_58 : decode cX8_goOver 58 = .ok (.aload_n 0, 1) := by decide +kernel
theorem dX8_goOver_59 : decode cX8_goOver 59 = .ok (.iload_n 2, 1) := by decide +kernel
theorem dX8_goOver_60 : decode cX8_goOver 60 = .ok (.aload_n 0, 1) := by decide +kernel
theorem dX8_goOver_61 : decode cX8_goOver 61 = .ok (.iload_n 1, 1) := by decide +kernel
theorem dX8_goOver_62 : decode cX8_goOver 62 = .ok (.invokevirtual 175, 3) := by decide +kernel
theorem dX8_goOver_65 : decode cX8_goOver 65 = .ok (.invokevirtual 178, 3) := by decide +kernel
theorem dX8_goOver_68 : decode cX8_goOver 68 = .ok (.return_, 1) := by decide +kernel
theorem dX8_walk_0 : decode cX8_walk 0 = .ok (.aload_n 0, 1) := by decide +kernel
theorem dX8_walk_1 : decode cX8_walk 1 = .ok (.iload_n 1, 1) := by decide +kernel
theorem dX8_walk_2 : decode cX8_walk 2 = .ok (.invokevirtual 156, 3) := by decide +kernel
theorem dX8_walk_5 : decode cX8_walk 5 = .ok (.ifCond .eq 11, 3) := by decide +kernel
theorem dX8_walk_8 : decode cX8_walk 8 = .ok (.aload_n 0, 1) := by decide +kernel
theorem dX8_walk_9 : decode cX8_walk 9 = .ok (.iload_n 2, 1) := by decide +kernel
theorem dX8_walk_10 : decode cX8_walk 10 = .ok (.invokevirtual 182, 3) := by decide +kernel
theorem dX8_walk_13 : decode cX8_walk 13 = .ok (.ifCond .ne 6, 3) := by decide +kernel
theorem dX8_walk_16 : decode cX8_walk 16 = .ok (.ldc 73, 2) := by decide +kernel
theorem dX8_walk_18 : decode cX8_walk 18 = .ok (.ireturn, 1) := by decide +kernel
theorem dX8_walk_19 : decode cX8_walk 19 = .ok (.aload_n 0, 1) := by decide +kernel
theorem dX8_walk_20 : decode cX8_walk 20 = .ok (.iload_n 2, 1) := by decide +kernel
theorem dX8_walk_21 : decode cX8_walk 21 = .ok (.aload_n 0, 1) := by decide +kernel
theorem dX8_walk_22 : decode cX8_walk 22 = .ok (.getfield 19, 3) := by decide +kernel
theorem dX8_walk_25 : decode cX8_walk 25 = .ok (.bipush 6, 2) := by decide +kernel
theorem dX8_walk_27 : decode cX8_walk 27 = .ok (.iload_n 1, 1) := by decide +kernel
theorem dX8_walk_28 : decode cX8_walk 28 = .ok (.iadd, 1) := by decide +kernel
theorem dX8_walk_29 : decode cX8_walk 29 = .ok (.iaload, 1) := by decide +kernel
theorem dX8_walk_30 : decode cX8_walk 30 = .ok (.invokevirtual 172, 3) := by decide +kernel
theorem dX8_walk_33 : decode cX8_walk 33 = .ok (.ifCond .lt 16, 3) := by decide +kernel
theorem dX8_walk_36 : decode cX8_walk 36 = .ok (.aload_n 0, 1) := by decide +kernel
theorem dX8_walk_37 : decode cX8_walk 37 = .ok (.iload_n 2, 1) := by decide +kernel
theorem dX8_walk_38 : decode cX8_walk 38 = .ok (.aload_n 0, 1) := by decide +kernel
theorem dX8_walk_39 : decode cX8_walk 39 = .ok (.iload_n 1, 1) := by decide +kernel
theorem dX8_walk_40 : decode cX8_walk 40 = .ok (.invokevirtual 175, 3) := by decide +kernel
theorem dX8_walk_43 : decode cX8_walk 43 = .ok (.invokevirtual 169, 3) := by decide +kernel
theorem dX8_walk_46 : decode cX8_walk 46 = .ok (.ifCond .ne 6, 3) := by decide +kernel
theorem dX8_walk_49 : decode cX8_walk 49 = .ok (.ldc 185, 2) := by decide +kernel
theorem dX8_walk_51 : decode cX8_walk 51 = .ok (.ireturn, 1) := by decide +kernel
theorem dX8_walk_52 : decode cX8_walk 52 = .ok (.aload_n 0, 1) := by decide +kernel
theorem dX8_walk_53 : decode cX8_walk 53 = .ok (.invokevirtual 186, 3) := by decide +kernel
theorem dX8_walk_56 : decode cX8_walk 56 = .ok (.aload_n 0, 1) := by decide +kernel
theorem dX8_walk_57 : decode cX8_walk 57 = .ok (.iload_n 1, 1) := by decide +kernel
theorem dX8_walk_58 : decode cX8_walk 58 = .ok (.iload_n 2, 1) := by decide +kernel
theorem dX8_walk_59 : decode cX8_walk 59 = .ok (.invokevirtual 189, 3) := by decide +kernel
theorem dX8_walk_62 : decode cX8_walk 62 = .ok (.aload_n 0, 1) := by decide +kernel
theorem dX8_walk_63 : decode cX8_walk 63 = .ok (.getfield 19, 3) := by decide +kernel
theorem dX8_walk_66 : decode cX8_walk 66 = .ok (.bipush 6, 2) := by decide +kernel
theorem dX8_walk_68 : decode cX8_walk 68 = .ok (.iload_n 1, 1) := by decide +kernel
theorem dX8_walk_69 : decode cX8_walk 69 = .ok (.iadd, 1) := by decide +kernel
theorem dX8_walk_70 : decode cX8_walk 70 = .ok (.iaload, 1) := by decide +kernel
theorem dX8_walk_71 : decode cX8_walk 71 = .ok (.ireturn, 1) := by decide +kernel
theorem dX8_lead_0 : decode cX8_lead 0 = .ok (.aload_n 0, 1) := by decide +kernel
theorem dX8_lead_1 : decode cX8_lead 1 = .ok (.iload_n 1, 1) := by decide +kernel
theorem dX8_lead_2 : decode cX8_lead 2 = .ok (.iload_n 2, 1) := by decide +kernel
theorem dX8_lead_3 : decode cX8_lead 3 = .ok (.invokevirtual 192, 3) := by decide +kernel
theorem dX8_lead_6 : decode cX8_lead 6 = .ok (.ifCond .eq 11, 3) := by decide +kernel
theorem dX8_lead_9 : decode cX8_lead 9 = .ok (.aload_n 0, 1) := by decide +kernel
theorem dX8_lead_10 : decode cX8_lead 10 = .ok (.iload_n 3, 1) := by decide +kernel
theorem dX8_lead_11 : decode cX8_lead 11 = .ok (.invokevirtual 182, 3) := by decide +kernel
theorem dX8_lead_14 : decode cX8_lead 14 = .ok (.ifCond .ne 6, 3) := by decide +kernel
theorem dX8_lead_17 : decode cX8_lead 17 = .ok (.ldc 73, 2) := by decide +kernel
theorem dX8_lead_19 : decode cX8_lead 19 = .ok (.ireturn, 1) := by decide +kernel
theorem dX8_lead_20 : decode cX8_lead 20 = .ok (.aload_n 0, 1) := by decide +kernel
theorem dX8_lead_21 : decode cX8_lead 21 = .ok (.getfield 19, 3) := by decide +kernel
theorem dX8_lead_24 : decode cX8_lead 24 = .ok (.bipush 6, 2) := by decide +kernel
theorem dX8_lead_26 : decode cX8_lead 26 = .ok (.iload_n 1, 1) := by decide +kernel
theorem dX8_lead_27 : decode cX8_lead 27 = .ok (.iadd, 1) := by decide +kernel
theorem dX8_lead_28 : decode cX8_lead 28 = .ok (.iaload, 1) := by decide +kernel
theorem dX8_lead_29 : decode cX8_lead 29 = .ok (.aload_n 0, 1) := by decide +kernel
theorem dX8_lead_30 : decode cX8_lead 30 = .ok (.getfield 19, 3) := by decide +kernel
theorem dX8_lead_33 : decode cX8_lead 33 = .ok (.bipush 6, 2) := by decide +kernel
theorem dX8_lead_35 : decode cX8_lead 35 = .ok (.iload_n 2, 1) := by decide +kernel
theorem dX8_lead_36 : decode cX8_lead 36 = .ok (.iadd, 1) := by decide +kernel
theorem dX8_lead_37 : decode cX8_lead 37 = .ok (.iaload, 1) := by decide +kernel
theorem dX8_lead_38 : decode cX8_lead 38 = .ok (.if_icmp .ne 7, 3) := by decide +kernel
theorem dX8_lead_41 : decode cX8_lead 41 = .ok (.iconst 1, 1) := by decide +kernel
theorem dX8_lead_42 : decode cX8_lead 42 = .ok (.goto 4, 3) := by decide +kernel
theorem dX8_lead_45 : decode cX8_lead 45 = .ok (.iconst 0, 1) := by decide +kernel
theorem dX8_lead_46 : decode cX8_lead 46 = .ok (.istore 4, 2) := by decide +kernel
theorem dX8_lead_48 : decode cX8_lead 48 = .ok (.iload 4, 2) := by decide +kernel
theorem dX8_lead_50 : decode cX8_lead 50 = .ok (.ifCond .eq 33, 3) := by decide +kernel
theorem dX8_lead_53 : decode cX8_lead 53 = .ok (.aload_n 0, 1) := by decide +kernel
theorem dX8_lead_54 : decode cX8_lead 54 = .ok (.iload_n 3, 1) := by decide +kernel
theorem dX8_lead_55 : decode cX8_lead 55 = .ok (.aload_n 0, 1) := by decide +kernel
theorem dX8_lead_56 : decode cX8_lead 56 = .ok (.getfield 19, 3) := by decide +kernel
theorem dX8_lead_59 : decode cX8_lead 59 = .ok (.bipush 6, 2) := by decide +kernel
theorem dX8_lead_61 : decode cX8_lead 61 = .ok (.iload_n 1, 1) := by decide +kernel
theorem dX8_lead_62 : decode cX8_lead 62 = .ok (.iadd, 1) := by decide +kernel
theorem dX8_lead_63 : decode cX8_lead 63 = .ok (.iaload, 1) := by decide +kernel
theorem dX8_lead_64 : decode cX8_lead 64 = .ok (.invokevirtual 172, 3) := by decide +kernel
theorem dX8_lead_67 : decode cX8_lead 67 = .ok (.ifCond .lt 16, 3) := by decide +kernel
theorem dX8_lead_70 : decode cX8_lead 70 = .ok (.aload_n 0, 1) := by decide +kernel
theorem dX8_lead_71 : decode cX8_lead 71 = .ok (.iload_n 3, 1) := by decide +kernel
theorem dX8_lead_72 : decode cX8_lead 72 = .ok (.aload_n 0, 1) := by decide +kernel
theorem dX8_lead_73 : decode cX8_lead 73 = .ok (.iload_n 1, 1) := by decide +kernel
theorem dX8_lead_74 : decode cX8_lead 74 = .ok (.invokevirtual 175, 3) := by decide +kernel
theorem dX8_lead_77 : decode cX8_lead 77 = .ok (.invokevirtual 169, 3) := by decide +kernel
theorem dX8_lead_80 : decode cX8_lead 80 = .ok (.ifCond .ne 6, 3) := by decide +kernel
theorem dX8_lead_83 : decode cX8_lead 83 = .ok (.ldc 185, 2) := by decide +kernel
theorem dX8_lead_85 : decode cX8_lead 85 = .ok (.ireturn, 1) := by decide +kernel
theorem dX8_lead_86 : decode cX8_lead 86 = .ok (.aload_n 0, 1) := by decide +kernel
theorem dX8_lead_87 : decode cX8_lead 87 = .ok (.invokevirtual 186, 3) := by decide +kernel
theorem dX8_lead_90 : decode cX8_lead 90 = .ok (.aload_n 0, 1) := by decide +kernel
theorem dX8_lead_91 : decode cX8_lead 91 = .ok (.iload_n 1, 1) := by decide +kernel
theorem dX8_lead_92 : decode cX8_lead 92 = .ok (.iload_n 3, 1) := by decide +kernel
theorem dX8_lead_93 : decode cX8_lead 93 = .ok (.invokevirtual 189, 3) := by decide +kernel
theorem dX8_lead_96 : decode cX8_lead 96 = .ok (.aload_n 0, 1) := by decide +kernel
theorem dX8_lead_97 : decode cX8_lead 97 = .ok (.iload_n 2, 1) := by decide +kernel
theorem dX8_lead_98 : decode cX8_lead 98 = .ok (.iload_n 3, 1) := by decide +kernel
theorem dX8_lead_99 : decode cX8_lead 99 = .ok (.invokevirtual 189, 3) := by decide +kernel
theorem dX8_lead_102 : decode cX8_lead 102 = .ok (.aload_n 0, 1) := by decide +kernel
theorem dX8_lead_103 : decode cX8_lead 103 = .ok (.getfield 19, 3) := by decide +kernel
theorem dX8_lead_106 : decode cX8_lead 106 = .ok (.bipush 6, 2) := by decide +kernel
theorem dX8_lead_108 : decode cX8_lead 108 = .ok (.iload_n 1, 1) := by decide +kernel
theorem dX8_lead_109 : decode cX8_lead 109 = .ok (.iadd, 1) := by decide +kernel
theorem dX8_lead_110 : decode cX8_lead 110 = .ok (.iaload, 1) := by decide +kernel
theorem dX8_lead_111 : decode cX8_lead 111 = .ok (.ireturn, 1) := by decide +kernel
theorem dX8_change_0 : decode cX8_change 0 = .ok (.aload_n 0, 1) := by decide +kernel
theorem dX8_change_1 : decode cX8_change 1 = .ok (.iload_n 1, 1) := by decide +kernel
theorem dX8_change_2 : decode cX8_change 2 = .ok (.iload_n 2, 1) := by decide +kernel
theorem dX8_change_3 : decode cX8_change 3 = .ok (.invokevirtual 192, 3) := by decide +kernel
theorem dX8_change_6 : decode cX8_change 6 = .ok (.ifCond .ne 6, 3) := by decide +kernel
theorem dX8_change_9 : decode cX8_change 9 = .ok (.ldc 73, 2) := by decide +kernel
theorem dX8_change_11 : decode cX8_change 11 = .ok (.ireturn, 1) := by decide +kernel
theorem dX8_change_12 : decode cX8_change 12 = .ok (.aload_n 0, 1) := by decide +kernel
theorem dX8_change_13 : decode cX8_change 13 = .ok (.invokevirtual 186, 3) := by decide +kernel
theorem dX8_change_16 : decode cX8_change 16 = .ok (.aload_n 0, 1) := by decide +kernel
theorem dX8_change_17 : decode cX8_change 17 = .ok (.iload_n 1, 1) := by decide +kernel
theorem dX8_change_18 : decode cX8_change 18 = .ok (.invokevirtual 175, 3) := by decide +kernel
theorem dX8_change_21 : decode cX8_change 21 = .ok (.istore_n 3, 1) := by decide +kernel
theorem dX8_change_22 : decode cX8_change 22 = .ok (.aload_n 0, 1) := by decide +kernel
theorem dX8_change_23 : decode cX8_change 23 = .ok (.getfield 19, 3) := by decide +kernel
theorem dX8_change_26 : decode cX8_change 26 = .ok (.bipush 10, 2) := by decide +kernel
theorem dX8_change_28 : decode cX8_change 28 = .ok (.iload_n 1, 1) := by decide +kernel
theorem dX8_change_29 : decode cX8_change 29 = .ok (.iadd, 1) := by decide +kernel
theorem dX8_change_30 : decode cX8_change 30 = .ok (.aload_n 0, 1) := by decide +kernel
theorem dX8_change_31 : decode cX8_change 31 = .ok (.iload_n 2, 1) := by decide +kernel
theorem dX8_change_32 : decode cX8_change 32 = .ok (.invokevirtual 175, 3) := by decide +kernel
theorem dX8_change_35 : decode cX8_change 35 = .ok (.iastore, 1) := by decide +kernel
theorem dX8_change_36 : decode cX8_change 36 = .ok (.aload_n 0, 1) := by decide +kernel
theorem dX8_change_37 : decode cX8_change 37 = .ok (.getfield 19, 3) := by decide +kernel
theorem dX8_change_40 : decode cX8_change 40 = .ok (.bipush 10, 2) := by decide +kernel
theorem dX8_change_42 : decode cX8_change 42 = .ok (.iload_n 2, 1) := by decide +kernel
theorem dX8_change_43 : decode cX8_change 43 = .ok (.iadd, 1) := by decide +kernel
theorem dX8_change_44 : decode cX8_change 44 = .ok (.iload_n 3, 1) := by decide +kernel
theorem dX8_change_45 : decode cX8_change 45 = .ok (.iastore, 1) := by decide +kernel
theorem dX8_change_46 : decode cX8_change 46 = .ok (.aload_n 0, 1) := by decide +kernel
theorem dX8_change_47 : decode cX8_change 47 = .ok (.iload_n 1, 1) := by decide +kernel
theorem dX8_change_48 : decode cX8_change 48 = .ok (.invokevirtual 175, 3) := by decide +kernel
theorem dX8_change_51 : decode cX8_change 51 = .ok (.ireturn, 1) := by decide +kernel
theorem dX8_heels_0 : decode cX8_heels 0 = .ok (.aload_n 0, 1) := by decide +kernel
theorem dX8_heels_1 : decode cX8_heels 1 = .ok (.iload_n 1, 1) := by decide +kernel
theorem dX8_heels_2 : decode cX8_heels 2 = .ok (.invokevirtual 156, 3) := by decide +kernel
theorem dX8_heels_5 : decode cX8_heels 5 = .ok (.ifCond .ne 6, 3) := by decide +kernel
theorem dX8_heels_8 : decode cX8_heels 8 = .ok (.ldc 73, 2) := by decide +kernel
theorem dX8_heels_10 : decode cX8_heels 10 = .ok (.ireturn, 1) := by decide +kernel
theorem dX8_heels_11 : decode cX8_heels 11 = .ok (.aload_n 0, 1) := by decide +kernel
theorem dX8_heels_12 : decode cX8_heels 12 = .ok (.invokevirtual 186, 3) := by decide +kernel
theorem dX8_heels_15 : decode cX8_heels 15 = .ok (.iconst 0, 1) := by decide +kernel
theorem dX8_heels_16 : decode cX8_heels 16 = .ok (.istore_n 2, 1) := by decide +kernel
theorem dX8_heels_17 : decode cX8_heels 17 = .ok (.iconst 0, 1) := by decide +kernel
theorem dX8_heels_18 : decode cX8_heels 18 = .ok (.istore_n 3, 1) := by decide +kernel
theorem dX8_heels_19 : decode cX8_heels 19 = .ok (.iload_n 3, 1) := by decide +kernel
theorem dX8_heels_20 : decode cX8_heels 20 = .ok (.aload_n 0, 1) := by decide +kernel
theorem dX8_heels_21 : decode cX8_heels 21 = .ok (.getfield 19, 3) := by decide +kernel
theorem dX8_heels_24 : decode cX8_heels 24 = .ok (.iconst 2, 1) := by decide +kernel
theorem dX8_heels_25 : decode cX8_heels 25 = .ok (.iaload, 1) := by decide +kernel
theorem dX8_heels_26 : decode cX8_heels 26 = .ok (.if_icmp .ge 64, 3) := by decide +kernel
theorem dX8_heels_29 : decode cX8_heels 29 = .ok (.iconst 4, 1) := by decide +kernel
theorem dX8_heels_30 : decode cX8_heels 30 = .ok (.iload_n 3, 1) := by decide +kernel
theorem dX8_heels_31 : decode cX8_heels 31 = .ok (.imul, 1) := by decide +kernel
theorem dX8_heels_32 : decode cX8_heels 32 = .ok (.aload_n 0, 1) := by decide +kernel
theorem dX8_heels_33 : decode cX8_heels 33 = .ok (.iload_n 1, 1) := by decide +kernel
theorem dX8_heels_34 : decode cX8_heels 34 = .ok (.invokevirtual 175, 3) := by decide +kernel
theorem dX8_heels_37 : decode cX8_heels 37 = .ok (.iadd, 1) := by decide +kernel
theorem dX8_heels_38 : decode cX8_heels 38 = .ok (.istore 4, 2) := by decide +kernel
theorem dX8_heels_40 : decode cX8_heels 40 = .ok (.iload_n 2, 1) := by decide +kernel
theorem dX8_heels_41 : decode cX8_heels 41 = .ok (.aload_n 0, 1) := by decide +kernel
theorem dX8_heels_42 : decode cX8_heels 42 = .ok (.getfield 19, 3) := by decide +kernel
theorem dX8_heels_45 : decode cX8_heels 45 = .ok (.bipush 50, 2) := by decide +kernel
theorem dX8_heels_47 : decode cX8_heels 47 = .ok (.iload 4, 2) := by decide +kernel
theorem dX8_heels_49 : decode cX8_heels 49 = .ok (.iadd, 1) := by decide +kernel
theorem dX8_heels_50 : decode cX8_heels 50 = .ok (.iaload, 1) := by decide +kernel
theorem dX8_heels_51 : decode cX8_heels 51 = .ok (.ifCond .le 7, 3) := by decide +kernel
theorem dX8_heels_54 : decode cX8_heels 54 = .ok (.iconst 1, 1) := by decide +kernel
theorem dX8_heels_55 : decode cX8_heels 55 = .ok (.goto 4, 3) := by decide +kernel
theorem dX8_heels_58 : decode cX8_heels 58 = .ok (.iconst 0, 1) := by decide +kernel
theorem dX8_heels_59 : decode cX8_heels 59 = .ok (.iadd, 1) := by decide +kernel
theorem dX8_heels_60 : decode cX8_heels 60 = .ok (.istore_n 2, 1) := by decide +kernel
theorem dX8_heels_61 : decode cX8_heels 61 = .ok (.aload_n 0, 1) := by decide +kernel
theorem dX8_heels_62 : decode cX8_heels 62 = .ok (.getfield 19, 3) := by decide +kernel
theorem dX8_heels_65 : decode cX8_heels 65 = .ok (.bipush 50, 2) := by decide +kernel
theorem dX8_heels_67 : decode cX8_heels 67 = .ok (.iload 4, 2) := by decide +kernel
theorem dX8_heels_69 : decode cX8_heels 69 = .ok (.iadd, 1) := by decide +kernel
theorem dX8_heels_70 : decode cX8_heels 70 = .ok (.iconst 0, 1) := by decide +kernel
theorem dX8_heels_71 : decode cX8_heels 71 = .ok (.iastore, 1) := by decide +kernel
theorem dX8_heels_72 : decode cX8_heels 72 = .ok (.aload_n 0, 1) := by decide +kernel
theorem dX8_heels_73 : decode cX8_heels 73 = .ok (.getfield 19, 3) := by decide +kernel
theorem dX8_heels_76 : decode cX8_heels 76 = .ok (.bipush 86, 2) := by decide +kernel
theorem dX8_heels_78 : decode cX8_heels 78 = .ok (.iload 4, 2) := by decide +kernel
theorem dX8_heels_80 : decode cX8_heels 80 = .ok (.iadd, 1) := by decide +kernel
theorem dX8_heels_81 : decode cX8_heels 81 = .ok (.ldc 134, 2) := by decide +kernel
theorem dX8_heels_83 : decode cX8_heels 83 = .ok (.iastore, 1) := by decide +kernel
theorem dX8_heels_84 : decode cX8_heels 84 = .ok (.iinc 3 1, 3) := by decide +kernel
theorem dX8_heels_87 : decode cX8_heels 87 = .ok (.goto (-68), 3) := by decide +kernel
theorem dX8_heels_90 : decode cX8_heels 90 = .ok (.iload_n 2, 1) := by decide +kernel
theorem dX8_heels_91 : decode cX8_heels 91 = .ok (.ireturn, 1) := by decide +kernel
theorem dX8_day_0 : decode cX8_day 0 = .ok (.aload_n 0, 1) := by decide +kernel
theorem dX8_day_1 : decode cX8_day 1 = .ok (.getfield 149, 3) := by decide +kernel
theorem dX8_day_4 : decode cX8_day 4 = .ok (.ifCond .ne 6, 3) := by decide +kernel
theorem dX8_day_7 : decode cX8_day 7 = .ok (.ldc 185, 2) := by decide +kernel
theorem dX8_day_9 : decode cX8_day 9 = .ok (.ireturn, 1) := by decide +kernel
theorem dX8_day_10 : decode cX8_day 10 = .ok (.aload_n 0, 1) := by decide +kernel
theorem dX8_day_11 : decode cX8_day 11 = .ok (.getfield 19, 3) := by decide +kernel
theorem dX8_day_14 : decode cX8_day 14 = .ok (.iconst 4, 1) := by decide +kernel
theorem dX8_day_15 : decode cX8_day 15 = .ok (.iaload, 1) := by decide +kernel
theorem dX8_day_16 : decode cX8_day 16 = .ok (.sipush 999, 3) := by decide +kernel
theorem dX8_day_19 : decode cX8_day 19 = .ok (.if_icmp .ne 6, 3) := by decide +kernel
theorem dX8_day_22 : decode cX8_day 22 = .ok (.ldc 90, 2) := by decide +kernel
theorem dX8_day_24 : decode cX8_day 24 = .ok (.ireturn, 1) := by decide +kernel
theorem dX8_day_25 : decode cX8_day 25 = .ok (.aload_n 0, 1) := by decide +kernel
theorem dX8_day_26 : decode cX8_day 26 = .ok (.invokevirtual 186, 3) := by decide +kernel
theorem dX8_day_29 : decode cX8_day 29 = .ok (.aload_n 0, 1) := by decide +kernel
theorem dX8_day_30 : decode cX8_day 30 = .ok (.getfield 19, 3) := by decide +kernel
theorem dX8_day_33 : decode cX8_day 33 = .ok (.iconst 4, 1) := by decide +kernel
theorem dX8_day_34 : decode cX8_day 34 = .ok (.dup2, 1) := by decide +kernel
theorem dX8_day_35 : decode cX8_day 35 = .ok (.iaload, 1) := by decide +kernel
theorem dX8_day_36 : decode cX8_day 36 = .ok (.iconst 1, 1) := by decide +kernel
theorem dX8_day_37 : decode cX8_day 37 = .ok (.iadd, 1) := by decide +kernel
theorem dX8_day_38 : decode cX8_day 38 = .ok (.iastore, 1) := by decide +kernel
theorem dX8_day_39 : decode cX8_day 39 = .ok (.aload_n 0, 1) := by decide +kernel
theorem dX8_day_40 : decode cX8_day 40 = .ok (.getfield 19, 3) := by decide +kernel
theorem dX8_day_43 : decode cX8_day 43 = .ok (.iconst 4, 1) := by decide +kernel
theorem dX8_day_44 : decode cX8_day 44 = .ok (.iaload, 1) := by decide +kernel
theorem dX8_day_45 : decode cX8_day 45 = .ok (.ireturn, 1) := by decide +kernel
theorem dX8_undo_0 : decode cX8_undo 0 = .ok (.aload_n 0, 1) := by decide +kernel
theorem dX8_undo_1 : decode cX8_undo 1 = .ok (.getfield 153, 3) := by decide +kernel
theorem dX8_undo_4 : decode cX8_undo 4 = .ok (.ifCond .ne 6, 3) := by decide +kernel
theorem dX8_undo_7 : decode cX8_undo 7 = .ok (.ldc 185, 2) := by decide +kernel
theorem dX8_undo_9 : decode cX8_undo 9 = .ok (.ireturn, 1) := by decide +kernel
theorem dX8_undo_10 : decode cX8_undo 10 = .ok (.aload_n 0, 1) := by decide +kernel
theorem dX8_undo_11 : decode cX8_undo 11 = .ok (.dup, 1) := by decide +kernel
theorem dX8_undo_12 : decode cX8_undo 12 = .ok (.getfield 153, 3) := by decide +kernel
theorem dX8_undo_15 : decode cX8_undo 15 = .ok (.iconst 1, 1) := by decide +kernel
theorem dX8_undo_16 : decode cX8_undo 16 = .ok (.isub, 1) := by decide +kernel
theorem dX8_undo_17 : decode cX8_undo 17 = .ok (.putfield 153, 3) := by decide +kernel
theorem dX8_undo_20 : decode cX8_undo 20 = .ok (.iconst 0, 1) := by decide +kernel
theorem dX8_undo_21 : decode cX8_undo 21 = .ok (.istore_n 1, 1) := by decide +kernel
theorem dX8_undo_22 : decode cX8_undo 22 = .ok (.iload_n 1, 1) := by decide +kernel
theorem dX8_undo_23 : decode cX8_undo 23 = .ok (.bipush 122, 2) := by decide +kernel
theorem dX8_undo_25 : decode cX8_undo 25 = .ok (.if_icmp .ge 29, 3) := by decide +kernel
theorem dX8_undo_28 : decode cX8_undo 28 = .ok (.aload_n 0, 1) := by decide +kernel
theorem dX8_undo_29 : decode cX8_undo 29 = .ok (.getfield 19, 3) := by decide +kernel
theorem dX8_undo_32 : decode cX8_undo 32 = .ok (.iload_n 1, 1) := by decide +kernel
theorem dX8_undo_33 : decode cX8_undo 33 = .ok (.aload_n 0, 1) := by decide +kernel
theorem dX8_undo_34 : decode cX8_undo 34 = .ok (.getfield 31, 3) := by decide +kernel
theorem dX8_undo_37 : decode cX8_undo 37 = .ok (.bipush 122, 2) := by decide +kernel
theorem dX8_undo_39 : decode cX8_undo 39 = .ok (.aload_n 0, 1) := by decide +kernel
theorem dX8_undo_40 : decode cX8_undo 40 = .ok (.getfield 153, 3) := by decide +kernel
theorem dX8_undo_43 : decode cX8_undo 43 = .ok (.imul, 1) := by decide +kernel
theorem dX8_undo_44 : decode cX8_undo 44 = .ok (.iload_n 1, 1) := by decide +kernel
theorem dX8_undo_45 : decode cX8_undo 45 = .ok (.iadd, 1) := by decide +kernel
theorem dX8_undo_46 : decode cX8_undo 46 = .ok (.iaload, 1) := by decide +kernel
theorem dX8_undo_47 : decode cX8_undo 47 = .ok (.iastore, 1) := by decide +kernel
theorem dX8_undo_48 : decode cX8_undo 48 = .ok (.iinc 1 1, 3) := by decide +kernel
theorem dX8_undo_51 : decode cX8_undo 51 = .ok (.goto (-29), 3) := by decide +kernel
theorem dX8_undo_54 : decode cX8_undo 54 = .ok (.aload_n 0, 1) := by decide +kernel
theorem dX8_undo_55 : decode cX8_undo 55 = .ok (.getfield 153, 3) := by decide +kernel
theorem dX8_undo_58 : decode cX8_undo 58 = .ok (.ireturn, 1) := by decide +kernel
theorem dX8_person_0 : decode cX8_person 0 = .ok (.aload_n 0, 1) := by decide +kernel
theorem dX8_person_1 : decode cX8_person 1 = .ok (.iload_n 1, 1) := by decide +kernel
theorem dX8_person_2 : decode cX8_person 2 = .ok (.invokevirtual 156, 3) := by decide +kernel
theorem dX8_person_5 : decode cX8_person 5 = .ok (.ifCond .eq 15, 3) := by decide +kernel
theorem dX8_person_8 : decode cX8_person 8 = .ok (.iload_n 2, 1) := by decide +kernel
theorem dX8_person_9 : decode cX8_person 9 = .ok (.i2l, 1) := by decide +kernel
theorem dX8_person_10 : decode cX8_person 10 = .ok (.lconst 0, 1) := by decide +kernel
theorem dX8_person_11 : decode cX8_person 11 = .ok (.ldc2_w 71, 3) := by decide +kernel
theorem dX8_person_14 : decode cX8_person 14 = .ok (.invokestatic 63, 3) := by decide +kernel
theorem dX8_person_17 : decode cX8_person 17 = .ok (.ifCond .ne 6, 3) := by decide +kernel
theorem dX8_person_20 : decode cX8_person 20 = .ok (.ldc 73, 2) := by decide +kernel
theorem dX8_person_22 : decode cX8_person 22 = .ok (.ireturn, 1) := by decide +kernel
theorem dX8_person_23 : decode cX8_person 23 = .ok (.iload_n 2, 1) := by decide +kernel
theorem dX8_person_24 : decode cX8_person 24 = .ok (.ifCond .ne 15, 3) := by decide +kernel
theorem dX8_person_27 : decode cX8_person 27 = .ok (.aload_n 0, 1) := by decide +kernel
theorem dX8_person_28 : decode cX8_person 28 = .ok (.getfield 19, 3) := by decide +kernel
theorem dX8_person_31 : decode cX8_person 31 = .ok (.bipush 6, 2) := by decide +kernel
theorem dX8_person_33 : decode cX8_person 33 = .ok (.iload_n 1, 1) := by decide +kernel
theorem dX8_person_34 : decode cX8_person 34 = .ok (.iadd, 1) := by decide +kernel
theorem dX8_person_35 : decode cX8_person 35 = .ok (.iaload, 1) := by decide +kernel
theorem dX8_person_36 : decode cX8_person 36 = .ok (.goto 25, 3) := by decide +kernel
theorem dX8_person_39 : decode cX8_person 39 = .ok (.iload_n 2, 1) := by decide +kernel
theorem dX8_person_40 : decode cX8_person 40 = .ok (.iconst 1, 1) := by decide +kernel
theorem dX8_person_41 : decode cX8_person 41 = .ok (.if_icmp .ne 11, 3) := by decide +kernel
theorem dX8_person_44 : decode cX8_person 44 = .ok (.aload_n 0, 1) := by decide +kernel
theorem dX8_person_45 : decode cX8_person 45 = .ok (.iload_n 1, 1) := by decide +kernel
theorem dX8_person_46 : decode cX8_person 46 = .ok (.invokevirtual 175, 3) := by decide +kernel
theorem dX8_person_49 : decode cX8_person 49 = .ok (.goto 12, 3) := by decide +kernel
theorem dX8_person_52 : decode cX8_person 52 = .ok (.aload_n 0, 1) := by decide +kernel
theorem dX8_person_53 : decode cX8_person 53 = .ok (.aload_n 0, 1) := by decide +kernel
theorem dX8_person_54 : decode cX8_person 54 = .ok (.iload_n 1, 1) := by decide +kernel
theorem dX8_person_55 : decode cX8_person 55 = .ok (.invokevirtual 175, 3) := by decide +kernel
theorem dX8_person_58 : decode cX8_person 58 = .ok (.invokevirtual 195, 3) := by decide +kernel
theorem dX8_person_61 : decode cX8_person 61 = .ok (.ireturn, 1) := by decide +kernel
theorem dX8_road_0 : decode cX8_road 0 = .ok (.aload_n 0, 1) := by decide +kernel
theorem dX8_road_1 : decode cX8_road 1 = .ok (.iload_n 1, 1) := by decide +kernel
theorem dX8_road_2 : decode cX8_road 2 = .ok (.invokevirtual 182, 3) := by decide +kernel
theorem dX8_road_5 : decode cX8_road 5 = .ok (.ifCond .ne 6, 3) := by decide +kernel
theorem dX8_road_8 : decode cX8_road 8 = .ok (.ldc 73, 2) := by decide +kernel
theorem dX8_road_10 : decode cX8_road 10 = .ok (.ireturn, 1) := by decide +kernel
theorem dX8_road_11 : decode cX8_road 11 = .ok (.iload_n 2, 1) := by decide +kernel
theorem dX8_road_12 : decode cX8_road 12 = .ok (.tableswitch 68 0 3 #[32, 42, 52, 62], 32) := by decide +kernel
theorem dX8_road_44 : decode cX8_road 44 = .ok (.aload_n 0, 1) := by decide +kernel
theorem dX8_road_45 : decode cX8_road 45 = .ok (.getfield 19, 3) := by decide +kernel
theorem dX8_road_48 : decode cX8_road 48 = .ok (.bipush 23, 2) := by decide +kernel
theorem dX8_road_50 : decode cX8_road 50 = .ok (.iload_n 1, 1) := by decide +kernel
theorem dX8_road_51 : decode cX8_road 51 = .ok (.iadd, 1) := by decide +kernel
theorem dX8_road_52 : decode cX8_road 52 = .ok (.iaload, 1) := by decide +kernel
theorem dX8_road_53 : decode cX8_road 53 = .ok (.ireturn, 1) := by decide +kernel
theorem dX8_road_54 : decode cX8_road 54 = .ok (.aload_n 0, 1) := by decide +kernel
theorem dX8_road_55 : decode cX8_road 55 = .ok (.getfield 19, 3) := by decide +kernel
theorem dX8_road_58 : decode cX8_road 58 = .ok (.bipush 32, 2) := by decide +kernel
theorem dX8_road_60 : decode cX8_road 60 = .ok (.iload_n 1, 1) := by decide +kernel
theorem dX8_road_61 : decode cX8_road 61 = .ok (.iadd, 1) := by decide +kernel
theorem dX8_road_62 : decode cX8_road 62 = .ok (.iaload, 1) := by decide +kernel
theorem dX8_road_63 : decode cX8_road 63 = .ok (.ireturn, 1) := by decide +kernel
theorem dX8_road_64 : decode cX8_road 64 = .ok (.aload_n 0, 1) := by decide +kernel
theorem dX8_road_65 : decode cX8_road 65 = .ok (.getfield 19, 3) := by decide +kernel
theorem dX8_road_68 : decode cX8_road 68 = .ok (.bipush 41, 2) := by decide +kernel
theorem dX8_road_70 : decode cX8_road 70 = .ok (.iload_n 1, 1) := by decide +kernel
theorem dX8_road_71 : decode cX8_road 71 = .ok (.iadd, 1) := by decide +kernel
theorem dX8_road_72 : decode cX8_road 72 = .ok (.iaload, 1) := by decide +kernel
theorem dX8_road_73 : decode cX8_road 73 = .ok (.ireturn, 1) := by decide +kernel
theorem dX8_road_74 : decode cX8_road 74 = .ok (.aload_n 0, 1) := by decide +kernel
theorem dX8_road_75 : decode cX8_road 75 = .ok (.iload_n 1, 1) := by decide +kernel
theorem dX8_road_76 : decode cX8_road 76 = .ok (.invokevirtual 198, 3) := by decide +kernel
theorem dX8_road_79 : decode cX8_road 79 = .ok (.ireturn, 1) := by decide +kernel
theorem dX8_road_80 : decode cX8_road 80 = .ok (.ldc 73, 2) := by decide +kernel
theorem dX8_road_82 : decode cX8_road 82 = .ok (.ireturn, 1) := by decide +kernel
theorem dX8_met_0 : decode cX8_met 0 = .ok (.aload_n 0, 1) := by decide +kernel
theorem dX8_met_1 : decode cX8_met 1 = .ok (.iload_n 1, 1) := by decide +kernel
theorem dX8_met_2 : decode cX8_met 2 = .ok (.invokevirtual 182, 3) := by decide +kernel
theorem dX8_met_5 : decode cX8_met 5 = .ok (.ifCond .eq 21, 3) := by decide +kernel
theorem dX8_met_8 : decode cX8_met 8 = .ok (.aload_n 0, 1) := by decide +kernel
theorem dX8_met_9 : decode cX8_met 9 = .ok (.iload_n 2, 1) := by decide +kernel
theorem dX8_met_10 : decode cX8_met 10 = .ok (.invokevirtual 156, 3) := by decide +kernel
theorem dX8_met_13 : decode cX8_met 13 = .ok (.ifCond .eq 13, 3) := by decide +kernel
theorem dX8_met_16 : decode cX8_met 16 = .ok (.iload_n 3, 1) := by decide +kernel
theorem dX8_met_17 : decode cX8_met 17 = .ok (.i2l, 1) := by decide +kernel
theorem dX8_met_18 : decode cX8_met 18 = .ok (.lconst 0, 1) := by decide +kernel
theorem dX8_met_19 : decode cX8_met 19 = .ok (.lconst 1, 1) := by decide +kernel
theorem dX8_met_20 : decode cX8_met 20 = .ok (.invokestatic 63, 3) := by decide +kernel
theorem dX8_met_23 : decode cX8_met 23 = .ok (.ifCond .ne 6, 3) := by decide +kernel
theorem dX8_met_26 : decode cX8_met 26 = .ok (.ldc 73, 2) := by decide +kernel
theorem dX8_met_28 : decode cX8_met 28 = .ok (.ireturn, 1) := by decide +kernel
theorem dX8_met_29 : decode cX8_met 29 = .ok (.iload_n 3, 1) := by decide +kernel
theorem dX8_met_30 : decode cX8_met 30 = .ok (.ifCond .ne 19, 3) := by decide +kernel
theorem dX8_met_33 : decode cX8_met 33 = .ok (.aload_n 0, 1) := by decide +kernel
theorem dX8_met_34 : decode cX8_met 34 = .ok (.getfield 19, 3) := by decide +kernel
theorem dX8_met_37 : decode cX8_met 37 = .ok (.bipush 50, 2) := by decide +kernel
theorem dX8_met_39 : decode cX8_met 39 = .ok (.iconst 4, 1) := by decide +kernel
theorem dX8_met_40 : decode cX8_met 40 = .ok (.iload_n 1, 1) := by decide +kernel
theorem dX8_met_41 : decode cX8_met 41 = .ok (.imul, 1) := by decide +kernel
theorem dX8_met_42 : decode cX8_met 42 = .ok (.iadd, 1) := by decide +kernel
theorem dX8_met_43 : decode cX8_met 43 = .ok (.iload_n 2, 1) := by decide +kernel
theorem dX8_met_44 : decode cX8_met 44 = .ok (.iadd, 1) := by decide +kernel
theorem dX8_met_45 : decode cX8_met 45 = .ok (.iaload, 1) := by decide +kernel
theorem dX8_met_46 : decode cX8_met 46 = .ok (.goto 16, 3) := by decide +kernel
theorem dX8_met_49 : decode cX8_met 49 = .ok (.aload_n 0, 1) := by decide +kernel
theorem dX8_met_50 : decode cX8_met 50 = .ok (.getfield 19, 3) := by decide +kernel
theorem dX8_met_53 : decode cX8_met 53 = .ok (.bipush 86, 2) := by decide +kernel
theorem dX8_met_55 : decode cX8_met 55 = .ok (.iconst 4, 1) := by decide +kernel
theorem dX8_met_56 : decode cX8_met 56 = .ok (.iload_n 1, 1) := by decide +kernel
theorem dX8_met_57 : decode cX8_met 57 = .ok (.imul, 1) := by decide +kernel
theorem dX8_met_58 : decode cX8_met 58 = .ok (.iadd, 1) := by decide +kernel
theorem dX8_met_59 : decode cX8_met 59 = .ok (.iload_n 2, 1) := by decide +kernel
theorem dX8_met_60 : decode cX8_met 60 = .ok (.iadd, 1) := by decide +kernel
theorem dX8_met_61 : decode cX8_met 61 = .ok (.iaload, 1) := by decide +kernel
theorem dX8_met_62 : decode cX8_met 62 = .ok (.ireturn, 1) := by decide +kernel
theorem dX8_reachBy_0 : decode cX8_reachBy 0 = .ok (.iconst 1, 1) := by decide +kernel
theorem dX8_reachBy_1 : decode cX8_reachBy 1 = .ok (.iload_n 1, 1) := by decide +kernel
theorem dX8_reachBy_2 : decode cX8_reachBy 2 = .ok (.ishl, 1) := by decide +kernel
theorem dX8_reachBy_3 : decode cX8_reachBy 3 = .ok (.istore_n 3, 1) := by decide +kernel
theorem dX8_reachBy_4 : decode cX8_reachBy 4 = .ok (.iconst 0, 1) := by decide +kernel
theorem dX8_reachBy_5 : decode cX8_reachBy 5 = .ok (.istore 4, 2) := by decide +kernel
theorem dX8_reachBy_7 : decode cX8_reachBy 7 = .ok (.iload 4, 2) := by decide +kernel
theorem dX8_reachBy_9 : decode cX8_reachBy 9 = .ok (.bipush 72, 2) := by decide +kernel
theorem dX8_reachBy_11 : decode cX8_reachBy 11 = .ok (.if_icmp .ge 97, 3) := by decide +kernel
theorem dX8_reachBy_14 : decode cX8_reachBy 14 = .ok (.iload 4, 2) := by decide +kernel
theorem dX8_reachBy_16 : decode cX8_reachBy 16 = .ok (.bipush 9, 2) := by decide +kernel
theorem dX8_reachBy_18 : decode cX8_reachBy 18 = .ok (.irem, 1) := by decide +kernel
theorem dX8_reachBy_19 : decode cX8_reachBy 19 = .ok (.istore 5, 2) := by decide +kernel
theorem dX8_reachBy_21 : decode cX8_reachBy 21 = .ok (.iload_n 2, 1) := by decide +kernel
theorem dX8_reachBy_22 : decode cX8_reachBy 22 = .ok (.iload 5, 2) := by decide +kernel
theorem dX8_reachBy_24 : decode cX8_reachBy 24 = .ok (.invokestatic 130, 3) := by decide +kernel
theorem dX8_reachBy_27 : decode cX8_reachBy 27 = .ok (.ifCond .eq 75, 3) := by decide +kernel
theorem dX8_reachBy_30 : decode cX8_reachBy 30 = .ok (.iload_n 3, 1) := by decide +kernel
theorem dX8_reachBy_31 : decode cX8_reachBy 31 = .ok (.iload_n 3, 1) := by decide +kernel
theorem dX8_reachBy_32 : decode cX8_reachBy 32 = .ok (.aload_n 0, 1) := by decide +kernel
theorem dX8_reachBy_33 : decode cX8_reachBy 33 = .ok (.getfield 19, 3) := by decide +kernel
theorem dX8_reachBy_36 : decode cX8_reachBy 36 = .ok (.bipush 23, 2) := by decide +kernel
theorem dX8_reachBy_38 : decode cX8_reachBy 38 = .ok (.iload 5, 2) := by decide +kernel
theorem dX8_reachBy_40 : decode cX8_reachBy 40 = .ok (.iadd, 1) := by decide +kernel
theorem dX8_reachBy_41 : decode cX8_reachBy 41 = .ok (.iaload, 1) := by decide +kernel
theorem dX8_reachBy_42 : decode cX8_reachBy 42 = .ok (.invokestatic 130, 3) := by decide +kernel
theorem dX8_reachBy_45 : decode cX8_reachBy 45 = .ok (.ifCond .eq 18, 3) := by decide +kernel
theorem dX8_reachBy_48 : decode cX8_reachBy 48 = .ok (.iconst 1, 1) := by decide +kernel
theorem dX8_reachBy_49 : decode cX8_reachBy 49 = .ok (.aload_n 0, 1) := by decide +kernel
theorem dX8_reachBy_50 : decode cX8_reachBy 50 = .ok (.getfield 19, 3) := by decide +kernel
theorem dX8_reachBy_53 : decode cX8_reachBy 53 = .ok (.bipush 32, 2) := by decide +kernel
theorem dX8_reachBy_55 : decode cX8_reachBy 55 = .ok (.iload 5, 2) := by decide +kernel
theorem dX8_reachBy_57 : decode cX8_reachBy 57 = .ok (.iadd, 1) := by decide +kernel
theorem dX8_reachBy_58 : decode cX8_reachBy 58 = .ok (.iaload, 1) := by decide +kernel
theorem dX8_reachBy_59 : decode cX8_reachBy 59 = .ok (.ishl, 1) := by decide +kernel
theorem dX8_reachBy_60 : decode cX8_reachBy 60 = .ok (.goto 4, 3) := by decide +kernel
theorem dX8_reachBy_63 : decode cX8_reachBy 63 = .ok (.iconst 0, 1) := by decide +kernel
theorem dX8_reachBy_64 : decode cX8_reachBy 64 = .ok (.ior, 1) := by decide +kernel
theorem dX8_reachBy_65 : decode cX8_reachBy 65 = .ok (.istore_n 3, 1) := by decide +kernel
theorem dX8_reachBy_66 : decode cX8_reachBy 66 = .ok (.iload_n 3, 1) := by decide +kernel
theorem dX8_reachBy_67 : decode cX8_reachBy 67 = .ok (.iload_n 3, 1) := by decide +kernel
theorem dX8_reachBy_68 : decode cX8_reachBy 68 = .ok (.aload_n 0, 1) := by decide +kernel
theorem dX8_reachBy_69 : decode cX8_reachBy 69 = .ok (.getfield 19, 3) := by decide +kernel
theorem dX8_reachBy_72 : decode cX8_reachBy 72 = .ok (.bipush 32, 2) := by decide +kernel
theorem dX8_reachBy_74 : decode cX8_reachBy 74 = .ok (.iload 5, 2) := by decide +kernel
theorem dX8_reachBy_76 : decode cX8_reachBy 76 = .ok (.iadd, 1) := by decide +kernel
theorem dX8_reachBy_77 : decode cX8_reachBy 77 = .ok (.iaload, 1) := by decide +kernel
theorem dX8_reachBy_78 : decode cX8_reachBy 78 = .ok (.invokestatic 130, 3) := by decide +kernel
theorem dX8_reachBy_81 : decode cX8_reachBy 81 = .ok (.ifCond .eq 18, 3) := by decide +kernel
theorem dX8_reachBy_84 : decode cX8_reachBy 84 = .ok (.iconst 1, 1) := by decide +kernel
theorem dX8_reachBy_85 : decode cX8_reachBy 85 = .ok (.aload_n 0, 1) := by decide +kernel
theorem dX8_reachBy_86 : decode cX8_reachBy 86 = .ok (.getfield 19, 3) := by decide +kernel
theorem dX8_reachBy_89 : decode cX8_reachBy 89 = .ok (.bipush 23, 2) := by decide +kernel
theorem dX8_reachBy_91 : decode cX8_reachBy 91 = .ok (.iload 5, 2) := by decide +kernel
theorem dX8_reachBy_93 : decode cX8_reachBy 93 = .ok (.iadd, 1) := by decide +kernel
theorem dX8_reachBy_94 : decode cX8_reachBy 94 = .ok (.iaload, 1) := by decide +kernel
theorem dX8_reachBy_95 : decode cX8_reachBy 95 = .ok (.ishl, 1) := by decide +kernel
theorem dX8_reachBy_96 : decode cX8_reachBy 96 = .ok (.goto 4, 3) := by decide +kernel
theorem dX8_reachBy_99 : decode cX8_reachBy 99 = .ok (.iconst 0, 1) := by decide +kernel
theorem dX8_reachBy_100 : decode cX8_reachBy 100 = .ok (.ior, 1) := by decide +kernel
theorem dX8_reachBy_101 : decode cX8_reachBy 101 = .ok (.istore_n 3, 1) := by decide +kernel
theorem dX8_reachBy_102 : decode cX8_reachBy 102 = .ok (.iinc 4 1, 3) := by decide +kernel
theorem dX8_reachBy_105 : decode cX8_reachBy 105 = .ok (.goto (-98), 3) := by decide +kernel
theorem dX8_reachBy_108 : decode cX8_reachBy 108 = .ok (.iload_n 3, 1) := by decide +kernel
theorem dX8_reachBy_109 : decode cX8_reachBy 109 = .ok (.ireturn, 1) := by decide +kernel
theorem dX8_reach_0 : decode cX8_reach 0 = .ok (.aload_n 0, 1) := by decide +kernel
theorem dX8_reach_1 : decode cX8_reach 1 = .ok (.iload_n 1, 1) := by decide +kernel
theorem dX8_reach_2 : decode cX8_reach 2 = .ok (.invokevirtual 156, 3) := by decide +kernel
theorem dX8_reach_5 : decode cX8_reach 5 = .ok (.ifCond .eq 28, 3) := by decide +kernel
theorem dX8_reach_8 : decode cX8_reach 8 = .ok (.aload_n 0, 1) := by decide +kernel
theorem dX8_reach_9 : decode cX8_reach 9 = .ok (.aload_n 0, 1) := by decide +kernel
theorem dX8_reach_10 : decode cX8_reach 10 = .ok (.getfield 19, 3) := by decide +kernel
theorem dX8_reach_13 : decode cX8_reach 13 = .ok (.bipush 6, 2) := by decide +kernel
theorem dX8_reach_15 : decode cX8_reach 15 = .ok (.iload_n 1, 1) := by decide +kernel
theorem dX8_reach_16 : decode cX8_reach 16 = .ok (.iadd, 1) := by decide +kernel
theorem dX8_reach_17 : decode cX8_reach 17 = .ok (.iaload, 1) := by decide +kernel
theorem dX8_reach_18 : decode cX8_reach 18 = .ok (.aload_n 0, 1) := by decide +kernel
theorem dX8_reach_19 : decode cX8_reach 19 = .ok (.aload_n 0, 1) := by decide +kernel
theorem dX8_reach_20 : decode cX8_reach 20 = .ok (.iload_n 1, 1) := by decide +kernel
theorem dX8_reach_21 : decode cX8_reach 21 = .ok (.invokevirtual 175, 3) := by decide +kernel
theorem dX8_reach_24 : decode cX8_reach 24 = .ok (.invokevirtual 195, 3) := by decide +kernel
theorem dX8_reach_27 : decode cX8_reach 27 = .ok (.invokevirtual 201, 3) := by decide +kernel
theorem dX8_reach_30 : decode cX8_reach 30 = .ok (.goto 5, 3) := by decide +kernel
theorem dX8_reach_33 : decode cX8_reach 33 = .ok (.ldc 73, 2) := by decide +kernel
theorem dX8_reach_35 : decode cX8_reach 35 = .ok (.ireturn, 1) := by decide +kernel
theorem dX8_findFars_0 : decode cX8_findFars 0 = .ok (.iconst 0, 1) := by decide +kernel
theorem dX8_findFars_1 : decode cX8_findFars 1 = .ok (.istore 4, 2) := by decide +kernel
theorem dX8_findFars_3 : decode cX8_findFars 3 = .ok (.iload 4, 2) := by decide +kernel
theorem dX8_findFars_5 : decode cX8_findFars 5 = .ok (.bipush 8, 2) := by decide +kernel
theorem dX8_findFars_7 : decode cX8_findFars 7 = .ok (.if_icmp .ge 28, 3) := by decide +kernel
theorem dX8_findFars_10 : decode cX8_findFars 10 = .ok (.aload_n 0, 1) := by decide +kernel
theorem dX8_findFars_11 : decode cX8_findFars 11 = .ok (.getfield 34, 3) := by decide +kernel
theorem dX8_findFars_14 : decode cX8_findFars 14 = .ok (.iload 4, 2) := by decide +kernel
theorem dX8_findFars_16 : decode cX8_findFars 16 = .ok (.iload 4, 2) := by decide +kernel
theorem dX8_findFars_18 : decode cX8_findFars 18 = .ok (.iload_n 1, 1) := by decide +kernel
theorem dX8_findFars_19 : decode cX8_findFars 19 = .ok (.if_icmp .ne 7, 3) := by decide +kernel
theorem dX8_findFars_22 : decode cX8_findFars 22 = .ok (.iconst 0, 1) := by decide +kernel
theorem dX8_findFars_23 : decode cX8_findFars 23 = .ok (.goto 5, 3) := by decide +kernel
theorem dX8_findFars_26 : decode cX8_findFars 26 = .ok (.ldc 204, 2) := by decide +kernel
theorem dX8_findFars_28 : decode cX8_findFars 28 = .ok (.iastore, 1) := by decide +kernel
theorem dX8_findFars_29 : decode cX8_findFars 29 = .ok (.iinc 4 1, 3) := by decide +kernel
theorem dX8_findFars_32 : decode cX8_findFars 32 = .ok (.goto (-29), 3) := by decide +kernel
theorem dX8_findFars_35 : decode cX8_findFars 35 = .ok (.iconst 0, 1) := by decide +kernel
theorem dX8_findFars_36 : decode cX8_findFars 36 = .ok (.istore 4, 2) := by decide +kernel
theorem dX8_findFars_38 : decode cX8_findFars 38 = .ok (.iload 4, 2) := by decide +kernel
theorem dX8_findFars_40 : decode cX8_findFars 40 = .ok (.bipush 72, 2) := by decide +kernel
theorem dX8_findFars_42 : decode cX8_findFars 42 = .ok (.if_icmp .ge 185, 3) := by decide +kernel
theorem dX8_findFars_45 : decode cX8_findFars 45 = .ok (.iload 4, 2) := by decide +kernel
theorem dX8_findFars_47 : decode cX8_findFars 47 = .ok (.bipush 9, 2) := by decide +kernel
theorem dX8_findFars_49 : decode cX8_findFars 49 = .ok (.irem, 1) := by decide +kernel
theorem dX8_findFars_50 : decode cX8_findFars 50 = .ok (.istore 5, 2) := by decide +kernel
theorem dX8_findFars_52 : decode cX8_findFars 52 = .ok (.iload_n 2, 1) := by decide +kernel
theorem dX8_findFars_53 : decode cX8_findFars 53 = .ok (.iload 5, 2) := by decide +kernel
theorem dX8_findFars_55 : decode cX8_findFars 55 = .ok (.invokestatic 130, 3) := by decide +kernel
theorem dX8_findFars_58 : decode cX8_findFars 58 = .ok (.istore 6, 2) := by decide +kernel
theorem dX8_findFars_60 : decode cX8_findFars 60 = .ok (.iload 5, 2) := by decide +kernel
theorem dX8_findFars_62 : decode cX8_findFars 62 = .ok (.aload_n 0, 1) := by decide +kernel
theorem dX8_findFars_63 : decode cX8_findFars 63 = .ok (.getfield 19, 3) := by decide +kernel
theorem dX8_findFars_66 : decode cX8_findFars 66 = .ok (.iconst 2, 1) := by decide +kernel
theorem dX8_findFars_67 : decode cX8_findFars 67 = .ok (.iaload, 1) := by decide +kernel
theorem dX8_findFars_68 : decode cX8_findFars 68 = .ok (.if_icmp .ge 153, 3) := by decide +kernel
theorem dX8_findFars_71 : decode cX8_findFars 71 = .ok (.iload 6, 2) := by decide +kernel
theorem dX8_findFars_73 : decode cX8_findFars 73 = .ok (.ifCond .ne 7, 3) := by decide +kernel
theorem dX8_findFars_76 : decode cX8_findFars 76 = .ok (.iload_n 3, 1) := by decide +kernel
theorem dX8_findFars_77 : decode cX8_findFars 77 = .ok (.ifCond .le 144, 3) := by decide +kernel
theorem dX8_findFars_80 : decode cX8_findFars 80 = .ok (.aload_n 0, 1) := by decide +kernel
theorem dX8_findFars_81 : decode cX8_findFars 81 = .ok (.getfield 19, 3) := by decide +kernel
theorem dX8_findFars_84 : decode cX8_findFars 84 = .ok (.bipush 23, 2) := by decide +kernel
theorem dX8_findFars_86 : decode cX8_findFars 86 = .ok (.iload 5, 2) := by decide +kernel
theorem dX8_findFars_88 : decode cX8_findFars 88 = .ok (.iadd, 1) := by decide +kernel
theorem dX8_findFars_89 : decode cX8_findFars 89 = .ok (.iaload, 1) := by decide +kernel
theorem dX8_findFars_90 : decode cX8_findFars 90 = .ok (.istore 7, 2) := by decide +kernel
theorem dX8_findFars_92 : decode cX8_findFars 92 = .ok (.aload_n 0, 1) := by decide +kernel
theorem dX8_findFars_93 : decode cX8_findFars 93 = .ok (.getfield 19, 3) := by decide +kernel
theorem dX8_findFars_96 : decode cX8_findFars 96 = .ok (.bipush 32, 2) := by decide +kernel
theorem dX8_findFars_98 : decode cX8_findFars 98 = .ok (.iload 5, 2) := by decide +kernel
theorem dX8_findFars_100 : decode cX8_findFars 100 = .ok (.iadd, 1) := by decide +kernel
theorem dX8_findFars_101 : decode cX8_findFars 101 = .ok (.iaload, 1) := by decide +kernel
theorem dX8_findFars_102 : decode cX8_findFars 102 = .ok (.istore 8, 2) := by decide +kernel
theorem dX8_findFars_104 : decode cX8_findFars 104 = .ok (.aload_n 0, 1) := by decide +kernel
theorem dX8_findFars_105 : decode cX8_findFars 105 = .ok (.getfield 19, 3) := by decide +kernel
theorem dX8_findFars_108 : decode cX8_findFars 108 = .ok (.bipush 41, 2) := by decide +kernel
theorem dX8_findFars_110 : decode cX8_findFars 110 = .ok (.iload 5, 2) := by decide +kernel
theorem dX8_findFars_112 : decode cX8_findFars 112 = .ok (.iadd, 1) := by decide +kernel
theorem dX8_findFars_113 : decode cX8_findFars 113 = .ok (.iaload, 1) := by decide +kernel
theorem dX8_findFars_114 : decode cX8_findFars 114 = .ok (.iload 6, 2) := by decide +kernel
theorem dX8_findFars_116 : decode cX8_findFars 116 = .ok (.ifCond .eq 7, 3) := by decide +kernel
theorem dX8_findFars_119 : decode cX8_findFars 119 = .ok (.iconst 0, 1) := by decide +kernel
theorem dX8_findFars_120 : decode cX8_findFars 120 = .ok (.goto 4, 3) := by decide +kernel
theorem dX8_findFars_123 : decode cX8_findFars 123 = .ok (.iload_n 3, 1) := by decide +kernel
theorem dX8_findFars_124 : decode cX8_findFars 124 = .ok (.iadd, 1) := by decide +kernel
theorem dX8_findFars_125 : decode cX8_findFars 125 = .ok (.istore 9, 2) := by decide +kernel
theorem dX8_findFars_127 : decode cX8_findFars 127 = .ok (.aload_n 0, 1) := by decide +kernel
theorem dX8_findFars_128 : decode cX8_findFars 128 = .ok (.getfield 34, 3) := by decide +kernel
theorem dX8_findFars_131 : decode cX8_findFars 131 = .ok (.iload 7, 2) := by decide +kernel
theorem dX8_findFars_133 : decode cX8_findFars 133 = .ok (.aload_n 0, 1) := by decide +kernel
theorem dX8_findFars_134 : decode cX8_findFars 134 = .ok (.getfield 34, 3) := by decide +kernel
theorem dX8_findFars_137 : decode cX8_findFars 137 = .ok (.iload 8, 2) := by decide +kernel
theorem dX8_findFars_139 : decode cX8_findFars 139 = .ok (.iaload, 1) := by decide +kernel
theorem dX8_findFars_140 : decode cX8_findFars 140 = .ok (.iload 9, 2) := by decide +kernel
theorem dX8_findFars_142 : decode cX8_findFars 142 = .ok (.iadd, 1) := by decide +kernel
theorem dX8_findFars_143 : decode cX8_findFars 143 = .ok (.aload_n 0, 1) := by decide +kernel
theorem dX8_findFars_144 : decode cX8_findFars 144 = .ok (.getfield 34, 3) := by decide +kernel
theorem dX8_findFars_147 : decode cX8_findFars 147 = .ok (.iload 7, 2) := by decide +kernel
theorem dX8_findFars_149 : decode cX8_findFars 149 = .ok (.iaload, 1) := by decide +kernel
theorem dX8_findFars_150 : decode cX8_findFars 150 = .ok (.if_icmp .ge 16, 3) := by decide +kernel
theorem dX8_findFars_153 : decode cX8_findFars 153 = .ok (.aload_n 0, 1) := by decide +kernel
theorem dX8_findFars_154 : decode cX8_findFars 154 = .ok (.getfield 34, 3) := by decide +kernel
theorem dX8_findFars_157 : decode cX8_findFars 157 = .ok (.iload 8, 2) := by decide +kernel
theorem dX8_findFars_159 : decode cX8_findFars 159 = .ok (.iaload, 1) := by decide +kernel
theorem dX8_findFars_160 : decode cX8_findFars 160 = .ok (.iload 9, 2) := by decide +kernel
theorem dX8_findFars_162 : decode cX8_findFars 162 = .ok (.iadd, 1) := by decide +kernel
theorem dX8_findFars_163 : decode cX8_findFars 163 = .ok (.goto 10, 3) := by decide +kernel
theorem dX8_findFars_166 : decode cX8_findFars 166 = .ok (.aload_n 0, 1) := by decide +kernel
theorem dX8_findFars_167 : decode cX8_findFars 167 = .ok (.getfield 34, 3) := by decide +kernel
theorem dX8_findFars_170 : decode cX8_findFars 170 = .ok (.iload 7, 2) := by decide +kernel
theorem dX8_findFars_172 : decode cX8_findFars 172 = .ok (.iaload, 1) := by decide +kernel
theorem dX8_findFars_173 : decode cX8_findFars 173 = .ok (.iastore, 1) := by decide +kernel
theorem dX8_findFars_174 : decode cX8_findFars 174 = .ok (.aload_n 0, 1) := by decide +kernel
theorem dX8_findFars_175 : decode cX8_findFars 175 = .ok (.getfield 34, 3) := by decide +kernel
theorem dX8_findFars_178 : decode cX8_findFars 178 = .ok (.iload 8, 2) := by decide +kernel
theorem dX8_findFars_180 : decode cX8_findFars 180 = .ok (.aload_n 0, 1) := by decide +kernel
theorem dX8_findFars_181 : decode cX8_findFars 181 = .ok (.getfield 34, 3) := by decide +kernel
theorem dX8_findFars_184 : decode cX8_findFars 184 = .ok (.iload 7, 2) := by decide +kernel
theorem dX8_findFars_186 : decode cX8_findFars 186 = .ok (.iaload, 1) := by decide +kernel
theorem dX8_findFars_187 : decode cX8_findFars 187 = .ok (.iload 9, 2) := by decide +kernel
theorem dX8_findFars_189 : decode cX8_findFars 189 = .ok (.iadd, 1) := by decide +kernel
theorem dX8_findFars_190 : decode cX8_findFars 190 = .ok (.aload_n 0, 1) := by decide +kernel
theorem dX8_findFars_191 : decode cX8_findFars 191 = .ok (.getfield 34, 3) := by decide +kernel
theorem dX8_findFars_194 : decode cX8_findFars 194 = .ok (.iload 8, 2) := by decide +kernel
theorem dX8_findFars_196 : decode cX8_findFars 196 = .ok (.iaload, 1) := by decide +kernel
theorem dX8_findFars_197 : decode cX8_findFars 197 = .ok (.if_icmp .ge 16, 3) := by decide +kernel
theorem dX8_findFars_200 : decode cX8_findFars 200 = .ok (.aload_n 0, 1) := by decide +kernel
theorem dX8_findFars_201 : decode cX8_findFars 201 = .ok (.getfield 34, 3) := by decide +kernel
theorem dX8_findFars_204 : decode cX8_findFars 204 = .ok (.iload 7, 2) := by decide +kernel
theorem dX8_findFars_206 : decode cX8_findFars 206 = .ok (.iaload, 1) := by decide +kernel
theorem dX8_findFars_207 : decode cX8_findFars 207 = .ok (.iload 9, 2) := by decide +kernel
theorem dX8_findFars_209 : decode cX8_findFars 209 = .ok (.iadd, 1) := by decide +kernel
theorem dX8_findFars_210 : decode cX8_findFars 210 = .ok (.goto 10, 3) := by decide +kernel
theorem dX8_findFars_213 : decode cX8_findFars 213 = .ok (.aload_n 0, 1) := by decide +kernel
theorem dX8_findFars_214 : decode cX8_findFars 214 = .ok (.getfield 34, 3) := by decide +kernel
theorem dX8_findFars_217 : decode cX8_findFars 217 = .ok (.iload 8, 2) := by decide +kernel
theorem dX8_findFars_219 : decode cX8_findFars 219 = .ok (.iaload, 1) := by decide +kernel
theorem dX8_findFars_220 : decode cX8_findFars 220 = .ok (.iastore, 1) := by decide +kernel
theorem dX8_findFars_221 : decode cX8_findFars 221 = .ok (.iinc 4 1, 3) := by decide +kernel
theorem dX8_findFars_224 : decode cX8_findFars 224 = .ok (.goto (-186), 3) := by decide +kernel
theorem dX8_findFars_227 : decode cX8_findFars 227 = .ok (.return_, 1) := by decide +kernel
theorem dX8_orNone_0 : decode cX8_orNone 0 = .ok (.iload_n 0, 1) := by decide +kernel
theorem dX8_orNone_1 : decode cX8_orNone 1 = .ok (.ldc 204, 2) := by decide +kernel
theorem dX8_orNone_3 : decode cX8_orNone 3 = .ok (.if_icmp .lt 8, 3) := by decide +kernel
theorem dX8_orNone_6 : decode cX8_orNone 6 = .ok (.ldc 134, 2) := by decide +kernel
theorem dX8_orNone_8 : decode cX8_orNone 8 = .ok (.goto 4, 3) := by decide +kernel
theorem dX8_orNone_11 : decode cX8_orNone 11 = .ok (.iload_n 0, 1) := by decide +kernel
theorem dX8_orNone_12 : decode cX8_orNone 12 = .ok (.ireturn, 1) := by decide +kernel
theorem dX8_way_0 : decode cX8_way 0 = .ok (.aload_n 0, 1) := by decide +kernel
theorem dX8_way_1 : decode cX8_way 1 = .ok (.iload_n 1, 1) := by decide +kernel
theorem dX8_way_2 : decode cX8_way 2 = .ok (.invokevirtual 156, 3) := by decide +kernel
theorem dX8_way_5 : decode cX8_way 5 = .ok (.ifCond .eq 11, 3) := by decide +kernel
theorem dX8_way_8 : decode cX8_way 8 = .ok (.aload_n 0, 1) := by decide +kernel
theorem dX8_way_9 : decode cX8_way 9 = .ok (.iload_n 2, 1) := by decide +kernel
theorem dX8_way_10 : decode cX8_way 10 = .ok (.invokevirtual 205, 3) := by decide +kernel
theorem dX8_way_13 : decode cX8_way 13 = .ok (.ifCond .ne 6, 3) := by decide +kernel
theorem dX8_way_16 : decode cX8_way 16 = .ok (.ldc 73, 2) := by decide +kernel
theorem dX8_way_18 : decode cX8_way 18 = .ok (.ireturn, 1) := by decide +kernel
theorem dX8_way_19 : decode cX8_way 19 = .ok (.aload_n 0, 1) := by decide +kernel
theorem dX8_way_20 : decode cX8_way 20 = .ok (.aload_n 0, 1) := by decide +kernel
theorem dX8_way_21 : decode cX8_way 21 = .ok (.getfield 19, 3) := by decide +kernel
theorem dX8_way_24 : decode cX8_way 24 = .ok (.bipush 6, 2) := by decide +kernel
theorem dX8_way_26 : decode cX8_way 26 = .ok (.iload_n 1, 1) := by decide +kernel
theorem dX8_way_27 : decode cX8_way 27 = .ok (.iadd, 1) := by decide +kernel
theorem dX8_way_28 : decode cX8_way 28 = .ok (.iaload, 1) := by decide +kernel
theorem dX8_way_29 : decode cX8_way 29 = .ok (.aload_n 0, 1) := by decide +kernel
theorem dX8_way_30 : decode cX8_way 30 = .ok (.aload_n 0, 1) := by decide +kernel
theorem dX8_way_31 : decode cX8_way 31 = .ok (.iload_n 1, 1) := by decide +kernel
theorem dX8_way_32 : decode cX8_way 32 = .ok (.invokevirtual 175, 3) := by decide +kernel
theorem dX8_way_35 : decode cX8_way 35 = .ok (.invokevirtual 195, 3) := by decide +kernel
theorem dX8_way_38 : decode cX8_way 38 = .ok (.iconst 0, 1) := by decide +kernel
theorem dX8_way_39 : decode cX8_way 39 = .ok (.invokevirtual 208, 3) := by decide +kernel
theorem dX8_way_42 : decode cX8_way 42 = .ok (.aload_n 0, 1) := by decide +kernel
theorem dX8_way_43 : decode cX8_way 43 = .ok (.getfield 34, 3) := by decide +kernel
theorem dX8_way_46 : decode cX8_way 46 = .ok (.iload_n 2, 1) := by decide +kernel
theorem dX8_way_47 : decode cX8_way 47 = .ok (.iaload, 1) := by decide +kernel
theorem dX8_way_48 : decode cX8_way 48 = .ok (.invokestatic 212, 3) := by decide +kernel
theorem dX8_way_51 : decode cX8_way 51 = .ok (.ireturn, 1) := by decide +kernel
theorem dX8_led_0 : decode cX8_led 0 = .ok (.aload_n 0, 1) := by decide +kernel
theorem dX8_led_1 : decode cX8_led 1 = .ok (.iload_n 1, 1) := by decide +kernel
theorem dX8_led_2 : decode cX8_led 2 = .ok (.iload_n 2, 1) := by decide +kernel
theorem dX8_led_3 : decode cX8_led 3 = .ok (.invokevirtual 192, 3) := by decide +kernel
theorem dX8_led_6 : decode cX8_led 6 = .ok (.ifCond .eq 11, 3) := by decide +kernel
theorem dX8_led_9 : decode cX8_led 9 = .ok (.aload_n 0, 1) := by decide +kernel
theorem dX8_led_10 : decode cX8_led 10 = .ok (.iload_n 3, 1) := by decide +kernel
theorem dX8_led_11 : decode cX8_led 11 = .ok (.invokevirtual 205, 3) := by decide +kernel
theorem dX8_led_14 : decode cX8_led 14 = .ok (.ifCond .ne 6, 3) := by decide +kernel
theorem dX8_led_17 : decode cX8_led 17 = .ok (.ldc 73, 2) := by decide +kernel
theorem dX8_led_19 : decode cX8_led 19 = .ok (.ireturn, 1) := by decide +kernel
theorem dX8_led_20 : decode cX8_led 20 = .ok (.aload_n 0, 1) := by decide +kernel
theorem dX8_led_21 : decode cX8_led 21 = .ok (.aload_n 0, 1) := by decide +kernel
theorem dX8_led_22 : decode cX8_led 22 = .ok (.getfield 19, 3) := by decide +kernel
theorem dX8_led_25 : decode cX8_led 25 = .ok (.bipush 6, 2) := by decide +kernel
theorem dX8_led_27 : decode cX8_led 27 = .ok (.iload_n 1, 1) := by decide +kernel
theorem dX8_led_28 : decode cX8_led 28 = .ok (.iadd, 1) := by decide +kernel
theorem dX8_led_29 : decode cX8_led 29 = .ok (.iaload, 1) := by decide +kernel
theorem dX8_led_30 : decode cX8_led 30 = .ok (.aload_n 0, 1) := by decide +kernel
theorem dX8_led_31 : decode cX8_led 31 = .ok (.aload_n 0, 1) := by decide +kernel
theorem dX8_led_32 : decode cX8_led 32 = .ok (.iload_n 1, 1) := by decide +kernel
theorem dX8_led_33 : decode cX8_led 33 = .ok (.invokevirtual 175, 3) := by decide +kernel
theorem dX8_led_36 : decode cX8_led 36 = .ok (.invokevirtual 195, 3) := by decide +kernel
theorem dX8_led_39 : decode cX8_led 39 = .ok (.aload_n 0, 1) := by decide +kernel
theorem dX8_led_40 : decode cX8_led 40 = .ok (.aload_n 0, 1) := by decide +kernel
theorem dX8_led_41 : decode cX8_led 41 = .ok (.iload_n 2, 1) := by decide +kernel
theorem dX8_led_42 : decode cX8_led 42 = .ok (.invokevirtual 175, 3) := by decide +kernel
theorem dX8_led_45 : decode cX8_led 45 = .ok (.invokevirtual 195, 3) := by decide +kernel
theorem dX8_led_48 : decode cX8_led 48 = .ok (.ior, 1) := by decide +kernel
theorem dX8_led_49 : decode cX8_led 49 = .ok (.iconst 0, 1) := by decide +kernel
theorem dX8_led_50 : decode cX8_led 50 = .ok (.invokevirtual 208, 3) := by decide +kernel
theorem dX8_led_53 : decode cX8_led 53 = .ok (.aload_n 0, 1) := by decide +kernel
theorem dX8_led_54 : decode cX8_led 54 = .ok (.getfield 34, 3) := by decide +kernel
theorem dX8_led_57 : decode cX8_led 57 = .ok (.iload_n 3, 1) := by decide +kernel
theorem dX8_led_58 : decode cX8_led 58 = .ok (.iaload, 1) := by decide +kernel
theorem dX8_led_59 : decode cX8_led 59 = .ok (.invokestatic 212, 3) := by decide +kernel
theorem dX8_led_62 : decode cX8_led 62 = .ok (.ireturn, 1) := by decide +kernel
theorem dX8_introduced_0 : decode cX8_introduced 0 = .ok (.aload_n 0, 1) := by decide +kernel
theorem dX8_introduced_1 : decode cX8_introduced 1 = .ok (.iload_n 1, 1) := by decide +kernel
theorem dX8_introduced_2 : decode cX8_introduced 2 = .ok (.invokevirtual 156, 3) := by decide +kernel
theorem dX8_introduced_5 : decode cX8_introduced 5 = .ok (.ifCond .eq 21, 3) := by decide +kernel
theorem dX8_introduced_8 : decode cX8_introduced 8 = .ok (.aload_n 0, 1) := by decide +kernel
theorem dX8_introduced_9 : decode cX8_introduced 9 = .ok (.iload_n 2, 1) := by decide +kernel
theorem dX8_introduced_10 : decode cX8_introduced 10 = .ok (.invokevirtual 205, 3) := by decide +kernel
theorem dX8_introduced_13 : decode cX8_introduced 13 = .ok (.ifCond .eq 13, 3) := by decide +kernel
theorem dX8_introduced_16 : decode cX8_introduced 16 = .ok (.iload_n 3, 1) := by decide +kernel
theorem dX8_introduced_17 : decode cX8_introduced 17 = .ok (.i2l, 1) := by decide +kernel
theorem dX8_introduced_18 : decode cX8_introduced 18 = .ok (.lconst 0, 1) := by decide +kernel
theorem dX8_introduced_19 : decode cX8_introduced 19 = .ok (.lconst 1, 1) := by decide +kernel
theorem dX8_introduced_20 : decode cX8_introduced 20 = .ok (.invokestatic 63, 3) := by decide +kernel
theorem dX8_introduced_23 : decode cX8_introduced 23 = .ok (.ifCond .ne 6, 3) := by decide +kernel
theorem dX8_introduced_26 : decode cX8_introduced 26 = .ok (.ldc 73, 2) := by decide +kernel
theorem dX8_introduced_28 : decode cX8_introduced 28 = .ok (.ireturn, 1) := by decide +kernel
theorem dX8_introduced_29 : decode cX8_introduced 29 = .ok (.aload_n 0, 1) := by decide +kernel
theorem dX8_introduced_30 : decode cX8_introduced 30 = .ok (.aload_n 0, 1) := by decide +kernel
theorem dX8_introduced_31 : decode cX8_introduced 31 = .ok (.getfield 19, 3) := by decide +kernel
theorem dX8_introduced_34 : decode cX8_introduced 34 = .ok (.bipush 6, 2) := by decide +kernel
theorem dX8_introduced_36 : decode cX8_introduced 36 = .ok (.iload_n 1, 1) := by decide +kernel
theorem dX8_introduced_37 : decode cX8_introduced 37 = .ok (.iadd, 1) := by decide +kernel
theorem dX8_introduced_38 : decode cX8_introduced 38 = .ok (.iaload, 1) := by decide +kernel
theorem dX8_introduced_39 : decode cX8_introduced 39 = .ok (.aload_n 0, 1) := by decide +kernel
theorem dX8_introduced_40 : decode cX8_introduced 40 = .ok (.aload_n 0, 1) := by decide +kernel
theorem dX8_introduced_41 : decode cX8_introduced 41 = .ok (.iload_n 1, 1) := by decide +kernel
theorem dX8_introduced_42 : decode cX8_introduced 42 = .ok (.invokevirtual 175, 3) := by decide +kernel
theorem dX8_introduced_45 : decode cX8_introduced 45 = .ok (.invokevirtual 195, 3) := by decide +kernel
theorem dX8_introduced_48 : decode cX8_introduced 48 = .ok (.sipush 1000, 3) := by decide +kernel
theorem dX8_introduced_51 : decode cX8_introduced 51 = .ok (.invokevirtual 208, 3) := by decide +kernel
theorem dX8_introduced_54 : decode cX8_introduced 54 = .ok (.aload_n 0, 1) := by decide +kernel
theorem dX8_introduced_55 : decode cX8_introduced 55 = .ok (.getfield 34, 3) := by decide +kernel
theorem dX8_introduced_58 : decode cX8_introduced 58 = .ok (.iload_n 2, 1) := by decide +kernel
theorem dX8_introduced_59 : decode cX8_introduced 59 = .ok (.iaload, 1) := by decide +kernel
theorem dX8_introduced_60 : decode cX8_introduced 60 = .ok (.ldc 204, 2) := by decide +kernel
theorem dX8_introduced_62 : decode cX8_introduced 62 = .ok (.if_icmp .lt 8, 3) := by decide +kernel
theorem dX8_introduced_65 : decode cX8_introduced 65 = .ok (.ldc 134, 2) := by decide +kernel
theorem dX8_introduced_67 : decode cX8_introduced 67 = .ok (.goto 30, 3) := by decide +kernel
theorem dX8_introduced_70 : decode cX8_introduced 70 = .ok (.iload_n 3, 1) := by decide +kernel
theorem dX8_introduced_71 : decode cX8_introduced 71 = .ok (.ifCond .ne 16, 3) := by decide +kernel
theorem dX8_introduced_74 : decode cX8_introduced 74 = .ok (.aload_n 0, 1) := by decide +kernel
theorem dX8_introduced_75 : decode cX8_introduced 75 = .ok (.getfield 34, 3) := by decide +kernel
theorem dX8_introduced_78 : decode cX8_introduced 78 = .ok (.iload_n 2, 1) := by decide +kernel
theorem dX8_introduced_79 : decode cX8_introduced 79 = .ok (.iaload, 1) := by decide +kernel
theorem dX8_introduced_80 : decode cX8_introduced 80 = .ok (.sipush 1000, 3) := by decide +kernel
theorem dX8_introduced_83 : decode cX8_introduced 83 = .ok (.idiv, 1) := by decide +kernel
theorem dX8_introduced_84 : decode cX8_introduced 84 = .ok (.goto 13, 3) := by decide +kernel
theorem dX8_introduced_87 : decode cX8_introduced 87 = .ok (.aload_n 0, 1) := by decide +kernel
theorem dX8_introduced_88 : decode cX8_introduced 88 = .ok (.getfield 34, 3) := by decide +kernel
theorem dX8_introduced_91 : decode cX8_introduced 91 = .ok (.iload_n 2, 1) := by decide +kernel
theorem dX8_introduced_92 : decode cX8_introduced 92 = .ok (.iaload, 1) := by decide +kernel
theorem dX8_introduced_93 : decode cX8_introduced 93 = .ok (.sipush 1000, 3) := by decide +kernel
theorem dX8_introduced_96 : decode cX8_introduced 96 = .ok (.irem, 1) := by decide +kernel
theorem dX8_introduced_97 : decode cX8_introduced 97 = .ok (.ireturn, 1) := by decide +kernel
theorem dX8_forgets_0 : decode cX8_forgets 0 = .ok (.aload_n 0, 1) := by decide +kernel
theorem dX8_forgets_1 : decode cX8_forgets 1 = .ok (.getfield 149, 3) := by decide +kernel
theorem dX8_forgets_4 : decode cX8_forgets 4 = .ok (.ifCond .ne 6, 3) := by decide +kernel
theorem dX8_forgets_7 : decode cX8_forgets 7 = .ok (.ldc 185, 2) := by decide +kernel
theorem dX8_forgets_9 : decode cX8_forgets 9 = .ok (.ireturn, 1) := by decide +kernel
theorem dX8_forgets_10 : decode cX8_forgets 10 = .ok (.ldc 204, 2) := by decide +kernel
theorem dX8_forgets_12 : decode cX8_forgets 12 = .ok (.istore_n 1, 1) := by decide +kernel
theorem dX8_forgets_13 : decode cX8_forgets 13 = .ok (.iconst 0, 1) := by decide +kernel
theorem dX8_forgets_14 : decode cX8_forgets 14 = .ok (.istore_n 2, 1) := by decide +kernel
theorem dX8_forgets_15 : decode cX8_forgets 15 = .ok (.iload_n 2, 1) := by decide +kernel
theorem dX8_forgets_16 : decode cX8_forgets 16 = .ok (.aload_n 0, 1) := by decide +kernel
theorem dX8_forgets_17 : decode cX8_forgets 17 = .ok (.getfield 19, 3) := by decide +kernel
theorem dX8_forgets_20 : decode cX8_forgets 20 = .ok (.iconst 2, 1) := by decide +kernel
theorem dX8_forgets_21 : decode cX8_forgets 21 = .ok (.iaload, 1) := by decide +kernel
theorem dX8_forgets_22 : decode cX8_forgets 22 = .ok (.aload_n 0, 1) := by decide +kernel
theorem dX8_forgets_23 : decode cX8_forgets 23 = .ok (.getfield 19, 3) := by decide +kernel
theorem dX8_forgets_26 : decode cX8_forgets 26 = .ok (.iconst 3, 1) := by decide +kernel
theorem dX8_forgets_27 : decode cX8_forgets 27 = .ok (.iaload, 1) := by decide +kernel
theorem dX8_forgets_28 : decode cX8_forgets 28 = .ok (.imul, 1) := by decide +kernel
theorem dX8_forgets_29 : decode cX8_forgets 29 = .ok (.if_icmp .ge 90, 3) := by decide +kernel
theorem dX8_forgets_32 : decode cX8_forgets 32 = .ok (.iload_n 2, 1) := by decide +kernel
theorem dX8_forgets_33 : decode cX8_forgets 33 = .ok (.aload_n 0, 1) := by decide +kernel
theorem dX8_forgets_34 : decode cX8_forgets 34 = .ok (.getfield 19, 3) := by decide +kernel
theorem dX8_forgets_37 : decode cX8_forgets 37 = .ok (.iconst 3, 1) := by decide +kernel
theorem dX8_forgets_38 : decode cX8_forgets 38 = .ok (.iaload, 1) := by decide +kernel
theorem dX8_forgets_39 : decode cX8_forgets 39 = .ok (.idiv, 1) := by decide +kernel
theorem dX8_forgets_40 : decode cX8_forgets 40 = .ok (.istore_n 3, 1) := by decide +kernel
theorem dX8_forgets_41 : decode cX8_forgets 41 = .ok (.iload_n 2, 1) := by decide +kernel
theorem dX8_forgets_42 : decode cX8_forgets 42 = .ok (.aload_n 0, 1) := by decide +kernel
theorem dX8_forgets_43 : decode cX8_forgets 43 = .ok (.getfield 19, 3) := by decide +kernel
theorem dX8_forgets_46 : decode cX8_forgets 46 = .ok (.iconst 3, 1) := by decide +kernel
theorem dX8_forgets_47 : decode cX8_forgets 47 = .ok (.iaload, 1) := by decide +kernel
theorem dX8_forgets_48 : decode cX8_forgets 48 = .ok (.irem, 1) := by decide +kernel
theorem dX8_forgets_49 : decode cX8_forgets 49 = .ok (.istore 4, 2) := by decide +kernel
theorem dX8_forgets_51 : decode cX8_forgets 51 = .ok (.aload_n 0, 1) := by decide +kernel
theorem dX8_forgets_52 : decode cX8_forgets 52 = .ok (.iload_n 3, 1) := by decide +kernel
theorem dX8_forgets_53 : decode cX8_forgets 53 = .ok (.invokevirtual 162, 3) := by decide +kernel
theorem dX8_forgets_56 : decode cX8_forgets 56 = .ok (.aload_n 0, 1) := by decide +kernel
theorem dX8_forgets_57 : decode cX8_forgets 57 = .ok (.getfield 19, 3) := by decide +kernel
theorem dX8_forgets_60 : decode cX8_forgets 60 = .ok (.iconst 4, 1) := by decide +kernel
theorem dX8_forgets_61 : decode cX8_forgets 61 = .ok (.iaload, 1) := by decide +kernel
theorem dX8_forgets_62 : decode cX8_forgets 62 = .ok (.aload_n 0, 1) := by decide +kernel
theorem dX8_forgets_63 : decode cX8_forgets 63 = .ok (.getfield 19, 3) := by decide +kernel
theorem dX8_forgets_66 : decode cX8_forgets 66 = .ok (.bipush 86, 2) := by decide +kernel
theorem dX8_forgets_68 : decode cX8_forgets 68 = .ok (.iconst 4, 1) := by decide +kernel
theorem dX8_forgets_69 : decode cX8_forgets 69 = .ok (.iload_n 3, 1) := by decide +kernel
theorem dX8_forgets_70 : decode cX8_forgets 70 = .ok (.imul, 1) := by decide +kernel
theorem dX8_forgets_71 : decode cX8_forgets 71 = .ok (.iadd, 1) := by decide +kernel
theorem dX8_forgets_72 : decode cX8_forgets 72 = .ok (.iload 4, 2) := by decide +kernel
theorem dX8_forgets_74 : decode cX8_forgets 74 = .ok (.iadd, 1) := by decide +kernel
theorem dX8_forgets_75 : decode cX8_forgets 75 = .ok (.iaload, 1) := by decide +kernel
theorem dX8_forgets_76 : decode cX8_forgets 76 = .ok (.isub, 1) := by decide +kernel
theorem dX8_forgets_77 : decode cX8_forgets 77 = .ok (.isub, 1) := by decide +kernel
theorem dX8_forgets_78 : decode cX8_forgets 78 = .ok (.iconst 1, 1) := by decide +kernel
theorem dX8_forgets_79 : decode cX8_forgets 79 = .ok (.iadd, 1) := by decide +kernel
theorem dX8_forgets_80 : decode cX8_forgets 80 = .ok (.istore 5, 2) := by decide +kernel
theorem dX8_forgets_82 : decode cX8_forgets 82 = .ok (.aload_n 0, 1) := by decide +kernel
theorem dX8_forgets_83 : decode cX8_forgets 83 = .ok (.iload_n 3, 1) := by decide +kernel
theorem dX8_forgets_84 : decode cX8_forgets 84 = .ok (.invokevirtual 159, 3) := by decide +kernel
theorem dX8_forgets_87 : decode cX8_forgets 87 = .ok (.ifCond .eq 24, 3) := by decide +kernel
theorem dX8_forgets_90 : decode cX8_forgets 90 = .ok (.aload_n 0, 1) := by decide +kernel
theorem dX8_forgets_91 : decode cX8_forgets 91 = .ok (.iload_n 3, 1) := by decide +kernel
theorem dX8_forgets_92 : decode cX8_forgets 92 = .ok (.iload 4, 2) := by decide +kernel
theorem dX8_forgets_94 : decode cX8_forgets 94 = .ok (.invokevirtual 169, 3) := by decide +kernel
theorem dX8_forgets_97 : decode cX8_forgets 97 = .ok (.ifCond .eq 14, 3) := by decide +kernel
theorem dX8_forgets_100 : decode cX8_forgets 100 = .ok (.iload 5, 2) := by decide +kernel
theorem dX8_forgets_102 : decode cX8_forgets 102 = .ok (.iload_n 1, 1) := by decide +kernel
theorem dX8_forgets_103 : decode cX8_forgets 103 = .ok (.if_icmp .ge 8, 3) := by decide +kernel
theorem dX8_forgets_106 : decode cX8_forgets 106 = .ok (.iload 5, 2) := by decide +kernel
theorem dX8_forgets_108 : decode cX8_forgets 108 = .ok (.goto 4, 3) := by decide +kernel
theorem dX8_forgets_111 : decode cX8_forgets 111 = .ok (.iload_n 1, 1) := by decide +kernel
theorem dX8_forgets_112 : decode cX8_forgets 112 = .ok (.istore_n 1, 1) := by decide +kernel
theorem dX8_forgets_113 : decode cX8_forgets 113 = .ok (.iinc 2 1, 3) := by decide +kernel
theorem dX8_forgets_116 : decode cX8_forgets 116 = .ok (.goto (-101), 3) := by decide +kernel
theorem dX8_forgets_119 : decode cX8_forgets 119 = .ok (.iload_n 1, 1) := by decide +kernel
theorem dX8_forgets_120 : decode cX8_forgets 120 = .ok (.invokestatic 212, 3) := by decide +kernel
theorem dX8_forgets_123 : decode cX8_forgets 123 = .ok (.ireturn, 1) := by decide +kernel
theorem dX8_nobody_0 : decode cX8_nobody 0 = .ok (.aload_n 0, 1) := by decide +kernel
theorem dX8_nobody_1 : decode cX8_nobody 1 = .ok (.getfield 149, 3) := by decide +kernel
theorem dX8_nobody_4 : decode cX8_nobody 4 = .ok (.ifCond .ne 6, 3) := by decide +kernel
theorem dX8_nobody_7 : decode cX8_nobody 7 = .ok (.ldc 185, 2) := by decide +kernel
theorem dX8_nobody_9 : decode cX8_nobody 9 = .ok (.ireturn, 1) := by decide +kernel
theorem dX8_nobody_10 : decode cX8_nobody 10 = .ok (.iload_n 1, 1) := by decide +kernel
theorem dX8_nobody_11 : decode cX8_nobody 11 = .ok (.i2l, 1) := by decide +kernel
theorem dX8_nobody_12 : decode cX8_nobody 12 = .ok (.lconst 0, 1) := by decide +kernel
theorem dX8_nobody_13 : decode cX8_nobody 13 = .ok (.ldc2_w 215, 3) := by decide +kernel
theorem dX8_nobody_16 : decode cX8_nobody 16 = .ok (.invokestatic 63, 3) := by decide +kernel
theorem dX8_nobody_19 : decode cX8_nobody 19 = .ok (.ifCond .ne 6, 3) := by decide +kernel
theorem dX8_nobody_22 : decode cX8_nobody 22 = .ok (.ldc 73, 2) := by decide +kernel
theorem dX8_nobody_24 : decode cX8_nobody 24 = .ok (.ireturn, 1) := by decide +kernel
theorem dX8_nobody_25 : decode cX8_nobody 25 = .ok (.iconst 0, 1) := by decide +kernel
theorem dX8_nobody_26 : decode cX8_nobody 26 = .ok (.istore_n 2, 1) := by decide +kernel
theorem dX8_nobody_27 : decode cX8_nobody 27 = .ok (.iconst 0, 1) := by decide +kernel
theorem dX8_nobody_28 : decode cX8_nobody 28 = .ok (.istore_n 3, 1) := by decide +kernel
theorem dX8_nobody_29 : decode cX8_nobody 29 = .ok (.iload_n 3, 1) := by decide +kernel
theorem dX8_nobody_30 : decode cX8_nobody 30 = .ok (.aload_n 0, 1) := by decide +kernel
theorem dX8_nobody_31 : decode cX8_nobody 31 = .ok (.getfield 19, 3) := by decide +kernel
theorem dX8_nobody_34 : decode cX8_nobody 34 = .ok (.iconst 2, 1) := by decide +kernel
theorem dX8_nobody_35 : decode cX8_nobody 35 = .ok (.iaload, 1) := by decide +kernel
theorem dX8_nobody_36 : decode cX8_nobody 36 = .ok (.if_icmp .ge 81, 3) := by decide +kernel
theorem dX8_nobody_39 : decode cX8_nobody 39 = .ok (.aload_n 0, 1) := by decide +kernel
theorem dX8_nobody_40 : decode cX8_nobody 40 = .ok (.iload_n 3, 1) := by decide +kernel
theorem dX8_nobody_41 : decode cX8_nobody 41 = .ok (.invokevirtual 159, 3) := by decide +kernel
theorem dX8_nobody_44 : decode cX8_nobody 44 = .ok (.istore 4, 2) := by decide +kernel
theorem dX8_nobody_46 : decode cX8_nobody 46 = .ok (.iconst 0, 1) := by decide +kernel
theorem dX8_nobody_47 : decode cX8_nobody 47 = .ok (.istore 5, 2) := by decide +kernel
theorem dX8_nobody_49 : decode cX8_nobody 49 = .ok (.iload 5, 2) := by decide +kernel
theorem dX8_nobody_51 : decode cX8_nobody 51 = .ok (.aload_n 0, 1) := by decide +kernel
theorem dX8_nobody_52 : decode cX8_nobody 52 = .ok (.getfield 19, 3) := by decide +kernel
theorem dX8_nobody_55 : decode cX8_nobody 55 = .ok (.iconst 3, 1) := by decide +kernel
theorem dX8_nobody_56 : decode cX8_nobody 56 = .ok (.iaload, 1) := by decide +kernel
theorem dX8_nobody_57 : decode cX8_nobody 57 = .ok (.if_icmp .ge 39, 3) := by decide +kernel
theorem dX8_nobody_60 : decode cX8_nobody 60 = .ok (.iload 4, 2) := by decide +kernel
theorem dX8_nobody_62 : decode cX8_nobody 62 = .ok (.ifCond .eq 25, 3) := by decide +kernel
theorem dX8_nobody_65 : decode cX8_nobody 65 = .ok (.aload_n 0, 1) := by decide +kernel
theorem dX8_nobody_66 : decode cX8_nobody 66 = .ok (.iload_n 3, 1) := by decide +kernel
theorem dX8_nobody_67 : decode cX8_nobody 67 = .ok (.iload 5, 2) := by decide +kernel
theorem dX8_nobody_69 : decode cX8_nobody 69 = .ok (.aload_n 0, 1) := by decide +kernel
theorem dX8_nobody_70 : decode cX8_nobody 70 = .ok (.getfield 19, 3) := by decide +kernel
theorem dX8_nobody_73 : decode cX8_nobody 73 = .ok (.iconst 4, 1) := by decide +kernel
theorem dX8_nobody_74 : decode cX8_nobody 74 = .ok (.iaload, 1) := by decide +kernel
theorem dX8_nobody_75 : decode cX8_nobody 75 = .ok (.iload_n 1, 1) := by decide +kernel
theorem dX8_nobody_76 : decode cX8_nobody 76 = .ok (.iadd, 1) := by decide +kernel
theorem dX8_nobody_77 : decode cX8_nobody 77 = .ok (.invokevirtual 165, 3) := by decide +kernel
theorem dX8_nobody_80 : decode cX8_nobody 80 = .ok (.ifCond .ne 7, 3) := by decide +kernel
theorem dX8_nobody_83 : decode cX8_nobody 83 = .ok (.iconst 1, 1) := by decide +kernel
theorem dX8_nobody_84 : decode cX8_nobody 84 = .ok (.goto 4, 3) := by decide +kernel
theorem dX8_nobody_87 : decode cX8_nobody 87 = .ok (.iconst 0, 1) := by decide +kernel
theorem dX8_nobody_88 : decode cX8_nobody 88 = .ok (.istore 4, 2) := by decide +kernel
theorem dX8_nobody_90 : decode cX8_nobody 90 = .ok (.iinc 5 1, 3) := by decide +kernel
theorem dX8_nobody_93 : decode cX8_nobody 93 = .ok (.goto (-44), 3) := by decide +kernel
theorem dX8_nobody_96 : decode cX8_nobody 96 = .ok (.iload_n 2, 1) := by decide +kernel
theorem dX8_nobody_97 : decode cX8_nobody 97 = .ok (.iload 4, 2) := by decide +kernel
theorem dX8_nobody_99 : decode cX8_nobody 99 = .ok (.ifCond .eq 9, 3) := by decide +kernel
theorem dX8_nobody_102 : decode cX8_nobody 102 = .ok (.iconst 1, 1) := by decide +kernel
theorem dX8_nobody_103 : decode cX8_nobody 103 = .ok (.iload_n 3, 1) := by decide +kernel
theorem dX8_nobody_104 : decode cX8_nobody 104 = .ok (.ishl, 1) := by decide +kernel
theorem dX8_nobody_105 : decode cX8_nobody 105 = .ok (.goto 4, 3) := by decide +kernel
theorem dX8_nobody_108 : decode cX8_nobody 108 = .ok (.iconst 0, 1) := by decide +kernel
theorem dX8_nobody_109 : decode cX8_nobody 109 = .ok (.ior, 1) := by decide +kernel
theorem dX8_nobody_110 : decode cX8_nobody 110 = .ok (.istore_n 2, 1) := by decide +kernel
theorem dX8_nobody_111 : decode cX8_nobody 111 = .ok (.iinc 3 1, 3) := by decide +kernel
theorem dX8_nobody_114 : decode cX8_nobody 114 = .ok (.goto (-85), 3) := by decide +kernel
theorem dX8_nobody_117 : decode cX8_nobody 117 = .ok (.iload_n 2, 1) := by decide +kernel
theorem dX8_nobody_118 : decode cX8_nobody 118 = .ok (.ireturn, 1) := by decide +kernel
theorem dX8_round_0 : decode cX8_round 0 = .ok (.aload_n 0, 1) := by decide +kernel
theorem dX8_round_1 : decode cX8_round 1 = .ok (.iload_n 1, 1) := by decide +kernel
theorem dX8_round_2 : decode cX8_round 2 = .ok (.invokevirtual 156, 3) := by decide +kernel
theorem dX8_round_5 : decode cX8_round 5 = .ok (.ifCond .ne 6, 3) := by decide +kernel
theorem dX8_round_8 : decode cX8_round 8 = .ok (.ldc 73, 2) := by decide +kernel
theorem dX8_round_10 : decode cX8_round 10 = .ok (.ireturn, 1) := by decide +kernel
theorem dX8_round_11 : decode cX8_round 11 = .ok (.aload_n 0, 1) := by decide +kernel
theorem dX8_round_12 : decode cX8_round 12 = .ok (.aload_n 0, 1) := by decide +kernel
theorem dX8_round_13 : decode cX8_round 13 = .ok (.iload_n 1, 1) := by decide +kernel
theorem dX8_round_14 : decode cX8_round 14 = .ok (.invokevirtual 175, 3) := by decide +kernel
theorem dX8_round_17 : decode cX8_round 17 = .ok (.invokevirtual 195, 3) := by decide +kernel
theorem dX8_round_20 : decode cX8_round 20 = .ok (.istore_n 2, 1) := by decide +kernel
theorem dX8_round_21 : decode cX8_round 21 = .ok (.iconst 0, 1) := by decide +kernel
theorem dX8_round_22 : decode cX8_round 22 = .ok (.istore_n 3, 1) := by decide +kernel
theorem dX8_round_23 : decode cX8_round 23 = .ok (.iconst 0, 1) := by decide +kernel
theorem dX8_round_24 : decode cX8_round 24 = .ok (.istore 4, 2) := by decide +kernel
theorem dX8_round_26 : decode cX8_round 26 = .ok (.iload 4, 2) := by decide +kernel
theorem dX8_round_28 : decode cX8_round 28 = .ok (.aload_n 0, 1) := by decide +kernel
theorem dX8_round_29 : decode cX8_round 29 = .ok (.getfield 19, 3) := by decide +kernel
theorem dX8_round_32 : decode cX8_round 32 = .ok (.iconst 2, 1) := by decide +kernel
theorem dX8_round_33 : decode cX8_round 33 = .ok (.iaload, 1) := by decide +kernel
theorem dX8_round_34 : decode cX8_round 34 = .ok (.if_icmp .ge 38, 3) := by decide +kernel
theorem dX8_round_37 : decode cX8_round 37 = .ok (.iload_n 3, 1) := by decide +kernel
theorem dX8_round_38 : decode cX8_round 38 = .ok (.iload_n 2, 1) := by decide +kernel
theorem dX8_round_39 : decode cX8_round 39 = .ok (.iload 4, 2) := by decide +kernel
theorem dX8_round_41 : decode cX8_round 41 = .ok (.invokestatic 130, 3) := by decide +kernel
theorem dX8_round_44 : decode cX8_round 44 = .ok (.ifCond .eq 19, 3) := by decide +kernel
theorem dX8_round_47 : decode cX8_round 47 = .ok (.aload_n 0, 1) := by decide +kernel
theorem dX8_round_48 : decode cX8_round 48 = .ok (.iload 4, 2) := by decide +kernel
theorem dX8_round_50 : decode cX8_round 50 = .ok (.invokevirtual 159, 3) := by decide +kernel
theorem dX8_round_53 : decode cX8_round 53 = .ok (.ifCond .eq 10, 3) := by decide +kernel
theorem dX8_round_56 : decode cX8_round 56 = .ok (.iconst 1, 1) := by decide +kernel
theorem dX8_round_57 : decode cX8_round 57 = .ok (.iload 4, 2) := by decide +kernel
theorem dX8_round_59 : decode cX8_round 59 = .ok (.ishl, 1) := by decide +kernel
theorem dX8_round_60 : decode cX8_round 60 = .ok (.goto 4, 3) := by decide +kernel
theorem dX8_round_63 : decode cX8_round 63 = .ok (.iconst 0, 1) := by decide +kernel
theorem dX8_round_64 : decode cX8_round 64 = .ok (.ior, 1) := by decide +kernel
theorem dX8_round_65 : decode cX8_round 65 = .ok (.istore_n 3, 1) := by decide +kernel
theorem dX8_round_66 : decode cX8_round 66 = .ok (.iinc 4 1, 3) := by decide +kernel
theorem dX8_round_69 : decode cX8_round 69 = .ok (.goto (-43), 3) := by decide +kernel
theorem dX8_round_72 : decode cX8_round 72 = .ok (.aload_n 0, 1) := by decide +kernel
theorem dX8_round_73 : decode cX8_round 73 = .ok (.getfield 19, 3) := by decide +kernel
theorem dX8_round_76 : decode cX8_round 76 = .ok (.bipush 6, 2) := by decide +kernel
theorem dX8_round_78 : decode cX8_round 78 = .ok (.iload_n 1, 1) := by decide +kernel
theorem dX8_round_79 : decode cX8_round 79 = .ok (.iadd, 1) := by decide +kernel
theorem dX8_round_80 : decode cX8_round 80 = .ok (.iaload, 1) := by decide +kernel
theorem dX8_round_81 : decode cX8_round 81 = .ok (.istore 4, 2) := by decide +kernel
theorem dX8_round_83 : decode cX8_round 83 = .ok (.iconst 0, 1) := by decide +kernel
theorem dX8_round_84 : decode cX8_round 84 = .ok (.istore 5, 2) := by decide +kernel
theorem dX8_round_86 : decode cX8_round 86 = .ok (.iload 5, 2) := by decide +kernel
theorem dX8_round_88 : decode cX8_round 88 = .ok (.sipush 4096, 3) := by decide +kernel
theorem dX8_round_91 : decode cX8_round 91 = .ok (.if_icmp .ge 33, 3) := by decide +kernel
theorem dX8_round_94 : decode cX8_round 94 = .ok (.aload_n 0, 1) := by decide +kernel
theorem dX8_round_95 : decode cX8_round 95 = .ok (.getfield 37, 3) := by decide +kernel
theorem dX8_round_98 : decode cX8_round 98 = .ok (.iload 5, 2) := by decide +kernel
theorem dX8_round_100 : decode cX8_round 100 = .ok (.iload 5, 2) := by decide +kernel
theorem dX8_round_102 : decode cX8_round 102 = .ok (.sipush 512, 3) := by decide +kernel
theorem dX8_round_105 : decode cX8_round 105 = .ok (.iload 4, 2) := by decide +kernel
theorem dX8_round_107 : decode cX8_round 107 = .ok (.imul, 1) := by decide +kernel
theorem dX8_round_108 : decode cX8_round 108 = .ok (.if_icmp .ne 7, 3) := by decide +kernel
theorem dX8_round_111 : decode cX8_round 111 = .ok (.iconst 0, 1) := by decide +kernel
theorem dX8_round_112 : decode cX8_round 112 = .ok (.goto 5, 3) := by decide +kernel
theorem dX8_round_115 : decode cX8_round 115 = .ok (.ldc 204, 2) := by decide +kernel
theorem dX8_round_117 : decode cX8_round 117 = .ok (.iastore, 1) := by decide +kernel
theorem dX8_round_118 : decode cX8_round 118 = .ok (.iinc 5 1, 3) := by decide +kernel
theorem dX8_round_121 : decode cX8_round 121 = .ok (.goto (-35), 3) := by decide +kernel
theorem dX8_round_124 : decode cX8_round 124 = .ok (.iconst 1, 1) := by decide +kernel
theorem dX8_round_125 : decode cX8_round 125 = .ok (.istore 5, 2) := by decide +kernel
theorem dX8_round_127 : decode cX8_round 127 = .ok (.iload 5, 2) := by decide +kernel
theorem dX8_round_129 : decode cX8_round 129 = .ok (.ifCond .eq 196, 3) := by decide +kernel
theorem dX8_round_132 : decode cX8_round 132 = .ok (.iconst 0, 1) := by decide +kernel
theorem dX8_round_133 : decode cX8_round 133 = .ok (.istore 5, 2) := by decide +kernel
theorem dX8_round_135 : decode cX8_round 135 = .ok (.iconst 0, 1) := by decide +kernel
theorem dX8_round_136 : decode cX8_round 136 = .ok (.istore 6, 2) := by decide +kernel
theorem dX8_round_138 : decode cX8_round 138 = .ok (.iload 6, 2) := by decide +kernel
theorem dX8_round_140 : decode cX8_round 140 = .ok (.sipush 4096, 3) := by decide +kernel
theorem dX8_round_143 : decode cX8_round 143 = .ok (.aload_n 0, 1) := by decide +kernel
theorem dX8_round_144 : decode cX8_round 144 = .ok (.getfield 19, 3) := by decide +kernel
theorem dX8_round_147 : decode cX8_round 147 = .ok (.iconst 2, 1) := by decide +kernel
theorem dX8_round_148 : decode cX8_round 148 = .ok (.iaload, 1) := by decide +kernel
theorem dX8_round_149 : decode cX8_round 149 = .ok (.imul, 1) := by decide +kernel
theorem dX8_round_150 : decode cX8_round 150 = .ok (.if_icmp .ge 172, 3) := by decide +kernel
theorem dX8_round_153 : decode cX8_round 153 = .ok (.iload 6, 2) := by decide +kernel
theorem dX8_round_155 : decode cX8_round 155 = .ok (.aload_n 0, 1) := by decide +kernel
theorem dX8_round_156 : decode cX8_round 156 = .ok (.getfield 19, 3) := by decide +kernel
theorem dX8_round_159 : decode cX8_round 159 = .ok (.iconst 2, 1) := by decide +kernel
theorem dX8_round_160 : decode cX8_round 160 = .ok (.iaload, 1) := by decide +kernel
theorem dX8_round_161 : decode cX8_round 161 = .ok (.irem, 1) := by decide +kernel
theorem dX8_round_162 : decode cX8_round 162 = .ok (.istore 7, 2) := by decide +kernel
theorem dX8_round_164 : decode cX8_round 164 = .ok (.iload 6, 2) := by decide +kernel
theorem dX8_round_166 : decode cX8_round 166 = .ok (.aload_n 0, 1) := by decide +kernel
theorem dX8_round_167 : decode cX8_round 167 = .ok (.getfield 19, 3) := by decide +kernel
theorem dX8_round_170 : decode cX8_round 170 = .ok (.iconst 2, 1) := by decide +kernel
theorem dX8_round_171 : decode cX8_round 171 = .ok (.iaload, 1) := by decide +kernel
theorem dX8_round_172 : decode cX8_round 172 = .ok (.idiv, 1) := by decide +kernel
theorem dX8_round_173 : decode cX8_round 173 = .ok (.istore 8, 2) := by decide +kernel
theorem dX8_round_175 : decode cX8_round 175 = .ok (.iload_n 2, 1) := by decide +kernel
theorem dX8_round_176 : decode cX8_round 176 = .ok (.iload 7, 2) := by decide +kernel
theorem dX8_round_178 : decode cX8_round 178 = .ok (.invokestatic 130, 3) := by decide +kernel
theorem dX8_round_181 : decode cX8_round 181 = .ok (.ifCond .eq 18, 3) := by decide +kernel
theorem dX8_round_184 : decode cX8_round 184 = .ok (.aload_n 0, 1) := by decide +kernel
theorem dX8_round_185 : decode cX8_round 185 = .ok (.iload 7, 2) := by decide +kernel
theorem dX8_round_187 : decode cX8_round 187 = .ok (.iload 8, 2) := by decide +kernel
theorem dX8_round_189 : decode cX8_round 189 = .ok (.sipush 512, 3) := by decide +kernel
theorem dX8_round_192 : decode cX8_round 192 = .ok (.idiv, 1) := by decide +kernel
theorem dX8_round_193 : decode cX8_round 193 = .ok (.invokevirtual 172, 3) := by decide +kernel
theorem dX8_round_196 : decode cX8_round 196 = .ok (.goto 4, 3) := by decide +kernel
theorem dX8_round_199 : decode cX8_round 199 = .ok (.iconst (-1), 1) := by decide +kernel
theorem dX8_round_200 : decode cX8_round 200 = .ok (.istore 9, 2) := by decide +kernel
theorem dX8_round_202 : decode cX8_round 202 = .ok (.iload 9, 2) := by decide +kernel
theorem dX8_round_204 : decode cX8_round 204 = .ok (.ifCond .lt 112, 3) := by decide +kernel
theorem dX8_round_207 : decode cX8_round 207 = .ok (.aload_n 0, 1) := by decide +kernel
theorem dX8_round_208 : decode cX8_round 208 = .ok (.getfield 37, 3) := by decide +kernel
theorem dX8_round_211 : decode cX8_round 211 = .ok (.iload 8, 2) := by decide +kernel
theorem dX8_round_213 : decode cX8_round 213 = .ok (.iaload, 1) := by decide +kernel
theorem dX8_round_214 : decode cX8_round 214 = .ok (.ldc 204, 2) := by decide +kernel
theorem dX8_round_216 : decode cX8_round 216 = .ok (.if_icmp .ge 100, 3) := by decide +kernel
theorem dX8_round_219 : decode cX8_round 219 = .ok (.sipush 512, 3) := by decide +kernel
theorem dX8_round_222 : decode cX8_round 222 = .ok (.iload 9, 2) := by decide +kernel
theorem dX8_round_224 : decode cX8_round 224 = .ok (.imul, 1) := by decide +kernel
theorem dX8_round_225 : decode cX8_round 225 = .ok (.iload 8, 2) := by decide +kernel
theorem dX8_round_227 : decode cX8_round 227 = .ok (.sipush 512, 3) := by decide +kernel
theorem dX8_round_230 : decode cX8_round 230 = .ok (.irem, 1) := by decide +kernel
theorem dX8_round_231 : decode cX8_round 231 = .ok (.iconst 1, 1) := by decide +kernel
theorem dX8_round_232 : decode cX8_round 232 = .ok (.iload 7, 2) := by decide +kernel
theorem dX8_round_234 : decode cX8_round 234 = .ok (.ishl, 1) := by decide +kernel
theorem dX8_round_235 : decode cX8_round 235 = .ok (.iload_n 3, 1) := by decide +kernel
theorem dX8_round_236 : decode cX8_round 236 = .ok (.iand, 1) := by decide +kernel
theorem dX8_round_237 : decode cX8_round 237 = .ok (.ior, 1) := by decide +kernel
theorem dX8_round_238 : decode cX8_round 238 = .ok (.iadd, 1) := by decide +kernel
theorem dX8_round_239 : decode cX8_round 239 = .ok (.istore 10, 2) := by decide +kernel
theorem dX8_round_241 : decode cX8_round 241 = .ok (.aload_n 0, 1) := by decide +kernel
theorem dX8_round_242 : decode cX8_round 242 = .ok (.getfield 37, 3) := by decide +kernel
theorem dX8_round_245 : decode cX8_round 245 = .ok (.iload 8, 2) := by decide +kernel
theorem dX8_round_247 : decode cX8_round 247 = .ok (.iaload, 1) := by decide +kernel
theorem dX8_round_248 : decode cX8_round 248 = .ok (.aload_n 0, 1) := by decide +kernel
theorem dX8_round_249 : decode cX8_round 249 = .ok (.getfield 19, 3) := by decide +kernel
theorem dX8_round_252 : decode cX8_round 252 = .ok (.bipush 41, 2) := by decide +kernel
theorem dX8_round_254 : decode cX8_round 254 = .ok (.iload 7, 2) := by decide +kernel
theorem dX8_round_256 : decode cX8_round 256 = .ok (.iadd, 1) := by decide +kernel
theorem dX8_round_257 : decode cX8_round 257 = .ok (.iaload, 1) := by decide +kernel
theorem dX8_round_258 : decode cX8_round 258 = .ok (.iadd, 1) := by decide +kernel
theorem dX8_round_259 : decode cX8_round 259 = .ok (.istore 11, 2) := by decide +kernel
theorem dX8_round_261 : decode cX8_round 261 = .ok (.iload 5, 2) := by decide +kernel
theorem dX8_round_263 : decode cX8_round 263 = .ok (.ifCond .ne 15, 3) := by decide +kernel
theorem dX8_round_266 : decode cX8_round 266 = .ok (.iload 11, 2) := by decide +kernel
theorem dX8_round_268 : decode cX8_round 268 = .ok (.aload_n 0, 1) := by decide +kernel
theorem dX8_round_269 : decode cX8_round 269 = .ok (.getfield 37, 3) := by decide +kernel
theorem dX8_round_272 : decode cX8_round 272 = .ok (.iload 10, 2) := by decide +kernel
theorem dX8_round_274 : decode cX8_round 274 = .ok (.iaload, 1) := by decide +kernel
theorem dX8_round_275 : decode cX8_round 275 = .ok (.if_icmp .ge 7, 3) := by decide +kernel
theorem dX8_round_278 : decode cX8_round 278 = .ok (.iconst 1, 1) := by decide +kernel
theorem dX8_round_279 : decode cX8_round 279 = .ok (.goto 4, 3) := by decide +kernel
theorem dX8_round_282 : decode cX8_round 282 = .ok (.iconst 0, 1) := by decide +kernel
theorem dX8_round_283 : decode cX8_round 283 = .ok (.istore 5, 2) := by decide +kernel
theorem dX8_round_285 : decode cX8_round 285 = .ok (.aload_n 0, 1) := by decide +kernel
theorem dX8_round_286 : decode cX8_round 286 = .ok (.getfield 37, 3) := by decide +kernel
theorem dX8_round_289 : decode cX8_round 289 = .ok (.iload 10, 2) := by decide +kernel
theorem dX8_round_291 : decode cX8_round 291 = .ok (.iload 11, 2) := by decide +kernel
theorem dX8_round_293 : decode cX8_round 293 = .ok (.aload_n 0, 1) := by decide +kernel
theorem dX8_round_294 : decode cX8_round 294 = .ok (.getfield 37, 3) := by decide +kernel
theorem dX8_round_297 : decode cX8_round 297 = .ok (.iload 10, 2) := by decide +kernel
theorem dX8_round_299 : decode cX8_round 299 = .ok (.iaload, 1) := by decide +kernel
theorem dX8_round_300 : decode cX8_round 300 = .ok (.if_icmp .ge 8, 3) := by decide +kernel
theorem dX8_round_303 : decode cX8_round 303 = .ok (.iload 11, 2) := by decide +kernel
theorem dX8_round_305 : decode cX8_round 305 = .ok (.goto 10, 3) := by decide +kernel
theorem dX8_round_308 : decode cX8_round 308 = .ok (.aload_n 0, 1) := by decide +kernel
theorem dX8_round_309 : decode cX8_round 309 = .ok (.getfield 37, 3) := by decide +kernel
theorem dX8_round_312 : decode cX8_round 312 = .ok (.iload 10, 2) := by decide +kernel
theorem dX8_round_314 : decode cX8_round 314 = .ok (.iaload, 1) := by decide +kernel
theorem dX8_round_315 : decode cX8_round 315 = .ok (.iastore, 1) := by decide +kernel
theorem dX8_round_316 : decode cX8_round 316 = .ok (.iinc 6 1, 3) := by decide +kernel
theorem dX8_round_319 : decode cX8_round 319 = .ok (.goto (-181), 3) := by decide +kernel
theorem dX8_round_322 : decode cX8_round 322 = .ok (.goto (-195), 3) := by decide +kernel
theorem dX8_round_325 : decode cX8_round 325 = .ok (.aload_n 0, 1) := by decide +kernel
theorem dX8_round_326 : decode cX8_round 326 = .ok (.getfield 37, 3) := by decide +kernel
theorem dX8_round_329 : decode cX8_round 329 = .ok (.sipush 512, 3) := by decide +kernel
theorem dX8_round_332 : decode cX8_round 332 = .ok (.iload 4, 2) := by decide +kernel
theorem dX8_round_334 : decode cX8_round 334 = .ok (.imul, 1) := by decide +kernel
theorem dX8_round_335 : decode cX8_round 335 = .ok (.iload_n 3, 1) := by decide +kernel
theorem dX8_round_336 : decode cX8_round 336 = .ok (.iadd, 1) := by decide +kernel
theorem dX8_round_337 : decode cX8_round 337 = .ok (.iaload, 1) := by decide +kernel
theorem dX8_round_338 : decode cX8_round 338 = .ok (.invokestatic 212, 3) := by decide +kernel
theorem dX8_round_341 : decode cX8_round 341 = .ok (.ireturn, 1) := by decide +kernel
theorem dX8_bars_0 : decode cX8_bars 0 = .ok (.aload_n 0, 1) := by decide +kernel
theorem dX8_bars_1 : decode cX8_bars 1 = .ok (.iload_n 1, 1) := by decide +kernel
theorem dX8_bars_2 : decode cX8_bars 2 = .ok (.invokevirtual 156, 3) := by decide +kernel
theorem dX8_bars_5 : decode cX8_bars 5 = .ok (.ifCond .eq 21, 3) := by decide +kernel
theorem dX8_bars_8 : decode cX8_bars 8 = .ok (.aload_n 0, 1) := by decide +kernel
theorem dX8_bars_9 : decode cX8_bars 9 = .ok (.iload_n 2, 1) := by decide +kernel
theorem dX8_bars_10 : decode cX8_bars 10 = .ok (.invokevirtual 205, 3) := by decide +kernel
theorem dX8_bars_13 : decode cX8_bars 13 = .ok (.ifCond .eq 13, 3) := by decide +kernel
theorem dX8_bars_16 : decode cX8_bars 16 = .ok (.iload_n 3, 1) := by decide +kernel
theorem dX8_bars_17 : decode cX8_bars 17 = .ok (.i2l, 1) := by decide +kernel
theorem dX8_bars_18 : decode cX8_bars 18 = .ok (.lconst 0, 1) := by decide +kernel
theorem dX8_bars_19 : decode cX8_bars 19 = .ok (.lconst 1, 1) := by decide +kernel
theorem dX8_bars_20 : decode cX8_bars 20 = .ok (.invokestatic 63, 3) := by decide +kernel
theorem dX8_bars_23 : decode cX8_bars 23 = .ok (.ifCond .ne 6, 3) := by decide +kernel
theorem dX8_bars_26 : decode cX8_bars 26 = .ok (.ldc 73, 2) := by decide +kernel
theorem dX8_bars_28 : decode cX8_bars 28 = .ok (.ireturn, 1) := by decide +kernel
theorem dX8_bars_29 : decode cX8_bars 29 = .ok (.aload_n 0, 1) := by decide +kernel
theorem dX8_bars_30 : decode cX8_bars 30 = .ok (.getfield 19, 3) := by decide +kernel
theorem dX8_bars_33 : decode cX8_bars 33 = .ok (.bipush 6, 2) := by decide +kernel
theorem dX8_bars_35 : decode cX8_bars 35 = .ok (.iload_n 1, 1) := by decide +kernel
theorem dX8_bars_36 : decode cX8_bars 36 = .ok (.iadd, 1) := by decide +kernel
theorem dX8_bars_37 : decode cX8_bars 37 = .ok (.iaload, 1) := by decide +kernel
theorem dX8_bars_38 : decode cX8_bars 38 = .ok (.iload_n 2, 1) := by decide +kernel
theorem dX8_bars_39 : decode cX8_bars 39 = .ok (.if_icmp .ne 6, 3) := by decide +kernel
theorem dX8_bars_42 : decode cX8_bars 42 = .ok (.ldc 134, 2) := by decide +kernel
theorem dX8_bars_44 : decode cX8_bars 44 = .ok (.ireturn, 1) := by decide +kernel
theorem dX8_bars_45 : decode cX8_bars 45 = .ok (.aload_n 0, 1) := by decide +kernel
theorem dX8_bars_46 : decode cX8_bars 46 = .ok (.aload_n 0, 1) := by decide +kernel
theorem dX8_bars_47 : decode cX8_bars 47 = .ok (.iload_n 1, 1) := by decide +kernel
theorem dX8_bars_48 : decode cX8_bars 48 = .ok (.invokevirtual 175, 3) := by decide +kernel
theorem dX8_bars_51 : decode cX8_bars 51 = .ok (.invokevirtual 195, 3) := by decide +kernel
theorem dX8_bars_54 : decode cX8_bars 54 = .ok (.istore 4, 2) := by decide +kernel
theorem dX8_bars_56 : decode cX8_bars 56 = .ok (.iconst (-1), 1) := by decide +kernel
theorem dX8_bars_57 : decode cX8_bars 57 = .ok (.istore 5, 2) := by decide +kernel
theorem dX8_bars_59 : decode cX8_bars 59 = .ok (.iconst 0, 1) := by decide +kernel
theorem dX8_bars_60 : decode cX8_bars 60 = .ok (.istore 6, 2) := by decide +kernel
theorem dX8_bars_62 : decode cX8_bars 62 = .ok (.iload 6, 2) := by decide +kernel
theorem dX8_bars_64 : decode cX8_bars 64 = .ok (.iconst 1, 1) := by decide +kernel
theorem dX8_bars_65 : decode cX8_bars 65 = .ok (.aload_n 0, 1) := by decide +kernel
theorem dX8_bars_66 : decode cX8_bars 66 = .ok (.getfield 19, 3) := by decide +kernel
theorem dX8_bars_69 : decode cX8_bars 69 = .ok (.iconst 2, 1) := by decide +kernel
theorem dX8_bars_70 : decode cX8_bars 70 = .ok (.iaload, 1) := by decide +kernel
theorem dX8_bars_71 : decode cX8_bars 71 = .ok (.ishl, 1) := by decide +kernel
theorem dX8_bars_72 : decode cX8_bars 72 = .ok (.if_icmp .ge 70, 3) := by decide +kernel
theorem dX8_bars_75 : decode cX8_bars 75 = .ok (.iload 5, 2) := by decide +kernel
theorem dX8_bars_77 : decode cX8_bars 77 = .ok (.ifCond .lt 16, 3) := by decide +kernel
theorem dX8_bars_80 : decode cX8_bars 80 = .ok (.iload 6, 2) := by decide +kernel
theorem dX8_bars_82 : decode cX8_bars 82 = .ok (.invokestatic 217, 3) := by decide +kernel
theorem dX8_bars_85 : decode cX8_bars 85 = .ok (.iload 5, 2) := by decide +kernel
theorem dX8_bars_87 : decode cX8_bars 87 = .ok (.invokestatic 217, 3) := by decide +kernel
theorem dX8_bars_90 : decode cX8_bars 90 = .ok (.if_icmp .ge 7, 3) := by decide +kernel
theorem dX8_bars_93 : decode cX8_bars 93 = .ok (.iconst 1, 1) := by decide +kernel
theorem dX8_bars_94 : decode cX8_bars 94 = .ok (.goto 4, 3) := by decide +kernel
theorem dX8_bars_97 : decode cX8_bars 97 = .ok (.iconst 0, 1) := by decide +kernel
theorem dX8_bars_98 : decode cX8_bars 98 = .ok (.istore 7, 2) := by decide +kernel
theorem dX8_bars_100 : decode cX8_bars 100 = .ok (.iload 7, 2) := by decide +kernel
theorem dX8_bars_102 : decode cX8_bars 102 = .ok (.ifCond .eq 34, 3) := by decide +kernel
theorem dX8_bars_105 : decode cX8_bars 105 = .ok (.aload_n 0, 1) := by decide +kernel
theorem dX8_bars_106 : decode cX8_bars 106 = .ok (.aload_n 0, 1) := by decide +kernel
theorem dX8_bars_107 : decode cX8_bars 107 = .ok (.getfield 19, 3) := by decide +kernel
theorem dX8_bars_110 : decode cX8_bars 110 = .ok (.bipush 6, 2) := by decide +kernel
theorem dX8_bars_112 : decode cX8_bars 112 = .ok (.iload_n 1, 1) := by decide +kernel
theorem dX8_bars_113 : decode cX8_bars 113 = .ok (.iadd, 1) := by decide +kernel
theorem dX8_bars_114 : decode cX8_bars 114 = .ok (.iaload, 1) := by decide +kernel
theorem dX8_bars_115 : decode cX8_bars 115 = .ok (.iload 4, 2) := by decide +kernel
theorem dX8_bars_117 : decode cX8_bars 117 = .ok (.iload 6, 2) := by decide +kernel
theorem dX8_bars_119 : decode cX8_bars 119 = .ok (.iconst (-1), 1) := by decide +kernel
theorem dX8_bars_120 : decode cX8_bars 120 = .ok (.ixor, 1) := by decide +kernel
theorem dX8_bars_121 : decode cX8_bars 121 = .ok (.iand, 1) := by decide +kernel
theorem dX8_bars_122 : decode cX8_bars 122 = .ok (.invokevirtual 201, 3) := by decide +kernel
theorem dX8_bars_125 : decode cX8_bars 125 = .ok (.iload_n 2, 1) := by decide +kernel
theorem dX8_bars_126 : decode cX8_bars 126 = .ok (.invokestatic 130, 3) := by decide +kernel
theorem dX8_bars_129 : decode cX8_bars 129 = .ok (.ifCond .ne 7, 3) := by decide +kernel
theorem dX8_bars_132 : decode cX8_bars 132 = .ok (.iload 6, 2) := by decide +kernel
theorem dX8_bars_134 : decode cX8_bars 134 = .ok (.istore 5, 2) := by decide +kernel
theorem dX8_bars_136 : decode cX8_bars 136 = .ok (.iinc 6 1, 3) := by decide +kernel
theorem dX8_bars_139 : decode cX8_bars 139 = .ok (.goto (-77), 3) := by decide +kernel
theorem dX8_bars_142 : decode cX8_bars 142 = .ok (.iload_n 3, 1) := by decide +kernel
theorem dX8_bars_143 : decode cX8_bars 143 = .ok (.ifCond .ne 11, 3) := by decide +kernel
theorem dX8_bars_146 : decode cX8_bars 146 = .ok (.iload 5, 2) := by decide +kernel
theorem dX8_bars_148 : decode cX8_bars 148 = .ok (.invokestatic 217, 3) := by decide +kernel
theorem dX8_bars_151 : decode cX8_bars 151 = .ok (.goto 5, 3) := by decide +kernel
theorem dX8_bars_154 : decode cX8_bars 154 = .ok (.iload 5, 2) := by decide +kernel
theorem dX8_bars_156 : decode cX8_bars 156 = .ok (.ireturn, 1) := by decide +kernel
theorem dX8_meet_0 : decode cX8_meet 0 = .ok (.aload_n 0, 1) := by decide +kernel
theorem dX8_meet_1 : decode cX8_meet 1 = .ok (.iload_n 1, 1) := by decide +kernel
theorem dX8_meet_2 : decode cX8_meet 2 = .ok (.iload_n 2, 1) := by decide +kernel
theorem dX8_meet_3 : decode cX8_meet 3 = .ok (.invokevirtual 192, 3) := by decide +kernel
theorem dX8_meet_6 : decode cX8_meet 6 = .ok (.ifCond .eq 13, 3) := by decide +kernel
theorem dX8_meet_9 : decode cX8_meet 9 = .ok (.iload_n 3, 1) := by decide +kernel
theorem dX8_meet_10 : decode cX8_meet 10 = .ok (.i2l, 1) := by decide +kernel
theorem dX8_meet_11 : decode cX8_meet 11 = .ok (.lconst 0, 1) := by decide +kernel
theorem dX8_meet_12 : decode cX8_meet 12 = .ok (.lconst 1, 1) := by decide +kernel
theorem dX8_meet_13 : decode cX8_meet 13 = .ok (.invokestatic 63, 3) := by decide +kernel
theorem dX8_meet_16 : decode cX8_meet 16 = .ok (.ifCond .ne 6, 3) := by decide +kernel
theorem dX8_meet_19 : decode cX8_meet 19 = .ok (.ldc 73, 2) := by decide +kernel
theorem dX8_meet_21 : decode cX8_meet 21 = .ok (.ireturn, 1) := by decide +kernel
theorem dX8_meet_22 : decode cX8_meet 22 = .ok (.aload_n 0, 1) := by decide +kernel
theorem dX8_meet_23 : decode cX8_meet 23 = .ok (.aload_n 0, 1) := by decide +kernel
theorem dX8_meet_24 : decode cX8_meet 24 = .ok (.getfield 19, 3) := by decide +kernel
theorem dX8_meet_27 : decode cX8_meet 27 = .ok (.bipush 6, 2) := by decide +kernel
theorem dX8_meet_29 : decode cX8_meet 29 = .ok (.iload_n 1, 1) := by decide +kernel
theorem dX8_meet_30 : decode cX8_meet 30 = .ok (.iadd, 1) := by decide +kernel
theorem dX8_meet_31 : decode cX8_meet 31 = .ok (.iaload, 1) := by decide +kernel
theorem dX8_meet_32 : decode cX8_meet 32 = .ok (.aload_n 0, 1) := by decide +kernel
theorem dX8_meet_33 : decode cX8_meet 33 = .ok (.aload_n 0, 1) := by decide +kernel
theorem dX8_meet_34 : decode cX8_meet 34 = .ok (.iload_n 1, 1) := by decide +kernel
theorem dX8_meet_35 : decode cX8_meet 35 = .ok (.invokevirtual 175, 3) := by decide +kernel
theorem dX8_meet_38 : decode cX8_meet 38 = .ok (.invokevirtual 195, 3) := by decide +kernel
theorem dX8_meet_41 : decode cX8_meet 41 = .ok (.iconst 0, 1) := by decide +kernel
theorem dX8_meet_42 : decode cX8_meet 42 = .ok (.invokevirtual 208, 3) := by decide +kernel
theorem dX8_meet_45 : decode cX8_meet 45 = .ok (.iconst 0, 1) := by decide +kernel
theorem dX8_meet_46 : decode cX8_meet 46 = .ok (.istore 4, 2) := by decide +kernel
theorem dX8_meet_48 : decode cX8_meet 48 = .ok (.iload 4, 2) := by decide +kernel
theorem dX8_meet_50 : decode cX8_meet 50 = .ok (.bipush 8, 2) := by decide +kernel
theorem dX8_meet_52 : decode cX8_meet 52 = .ok (.if_icmp .ge 23, 3) := by decide +kernel
theorem dX8_meet_55 : decode cX8_meet 55 = .ok (.aload_n 0, 1) := by decide +kernel
theorem dX8_meet_56 : decode cX8_meet 56 = .ok (.getfield 40, 3) := by decide +kernel
theorem dX8_meet_59 : decode cX8_meet 59 = .ok (.iload 4, 2) := by decide +kernel
theorem dX8_meet_61 : decode cX8_meet 61 = .ok (.aload_n 0, 1) := by decide +kernel
theorem dX8_meet_62 : decode cX8_meet 62 = .ok (.getfield 34, 3) := by decide +kernel
theorem dX8_meet_65 : decode cX8_meet 65 = .ok (.iload 4, 2) := by decide +kernel
theorem dX8_meet_67 : decode cX8_meet 67 = .ok (.iaload, 1) := by decide +kernel
theorem dX8_meet_68 : decode cX8_meet 68 = .ok (.iastore, 1) := by decide +kernel
theorem dX8_meet_69 : decode cX8_meet 69 = .ok (.iinc 4 1, 3) := by decide +kernel
theorem dX8_meet_72 : decode cX8_meet 72 = .ok (.goto (-24), 3) := by decide +kernel
theorem dX8_meet_75 : decode cX8_meet 75 = .ok (.aload_n 0, 1) := by decide +kernel
theorem dX8_meet_76 : decode cX8_meet 76 = .ok (.aload_n 0, 1) := by decide +kernel
theorem dX8_meet_77 : decode cX8_meet 77 = .ok (.getfield 19, 3) := by decide +kernel
theorem dX8_meet_80 : decode cX8_meet 80 = .ok (.bipush 6, 2) := by decide +kernel
theorem dX8_meet_82 : decode cX8_meet 82 = .ok (.iload_n 2, 1) := by decide +kernel
theorem dX8_meet_83 : decode cX8_meet 83 = .ok (.iadd, 1) := by decide +kernel
theorem dX8_meet_84 : decode cX8_meet 84 = .ok (.iaload, 1) := by decide +kernel
theorem dX8_meet_85 : decode cX8_meet 85 = .ok (.aload_n 0, 1) := by decide +kernel
theorem dX8_meet_86 : decode cX8_meet 86 = .ok (.aload_n 0, 1) := by decide +kernel
theorem dX8_meet_87 : decode cX8_meet 87 = .ok (.iload_n 2, 1) := by decide +kernel
theorem dX8_meet_88 : decode cX8_meet 88 = .ok (.invokevirtual 175, 3) := by decide +kernel
theorem dX8_meet_91 : decode cX8_meet 91 = .ok (.invokevirtual 195, 3) := by decide +kernel
theorem dX8_meet_94 : decode cX8_meet 94 = .ok (.iconst 0, 1) := by decide +kernel
theorem dX8_meet_95 : decode cX8_meet 95 = .ok (.invokevirtual 208, 3) := by decide +kernel
theorem dX8_meet_98 : decode cX8_meet 98 = .ok (.ldc 134, 2) := by decide +kernel
theorem dX8_meet_100 : decode cX8_meet 100 = .ok (.istore 4, 2) := by decide +kernel
theorem dX8_meet_102 : decode cX8_meet 102 = .ok (.ldc 204, 2) := by decide +kernel
theorem dX8_meet_104 : decode cX8_meet 104 = .ok (.istore 5, 2) := by decide +kernel
theorem dX8_meet_106 : decode cX8_meet 106 = .ok (.iconst 0, 1) := by decide +kernel
theorem dX8_meet_107 : decode cX8_meet 107 = .ok (.istore 6, 2) := by decide +kernel
theorem dX8_meet_109 : decode cX8_meet 109 = .ok (.iload 6, 2) := by decide +kernel
theorem dX8_meet_111 : decode cX8_meet 111 = .ok (.aload_n 0, 1) := by decide +kernel
theorem dX8_meet_112 : decode cX8_meet 112 = .ok (.getfield 19, 3) := by decide +kernel
theorem dX8_meet_115 : decode cX8_meet 115 = .ok (.iconst 1, 1) := by decide +kernel
theorem dX8_meet_116 : decode cX8_meet 116 = .ok (.iaload, 1) := by decide +kernel
theorem dX8_meet_117 : decode cX8_meet 117 = .ok (.if_icmp .ge 50, 3) := by decide +kernel
theorem dX8_meet_120 : decode cX8_meet 120 = .ok (.aload_n 0, 1) := by decide +kernel
theorem dX8_meet_121 : decode cX8_meet 121 = .ok (.getfield 40, 3) := by decide +kernel
theorem dX8_meet_124 : decode cX8_meet 124 = .ok (.iload 6, 2) := by decide +kernel
theorem dX8_meet_126 : decode cX8_meet 126 = .ok (.iaload, 1) := by decide +kernel
theorem dX8_meet_127 : decode cX8_meet 127 = .ok (.aload_n 0, 1) := by decide +kernel
theorem dX8_meet_128 : decode cX8_meet 128 = .ok (.getfield 34, 3) := by decide +kernel
theorem dX8_meet_131 : decode cX8_meet 131 = .ok (.iload 6, 2) := by decide +kernel
theorem dX8_meet_133 : decode cX8_meet 133 = .ok (.iaload, 1) := by decide +kernel
theorem dX8_meet_134 : decode cX8_meet 134 = .ok (.iadd, 1) := by decide +kernel
theorem dX8_meet_135 : decode cX8_meet 135 = .ok (.iload 5, 2) := by decide +kernel
theorem dX8_meet_137 : decode cX8_meet 137 = .ok (.if_icmp .ge 24, 3) := by decide +kernel
theorem dX8_meet_140 : decode cX8_meet 140 = .ok (.iload 6, 2) := by decide +kernel
theorem dX8_meet_142 : decode cX8_meet 142 = .ok (.istore 4, 2) := by decide +kernel
theorem dX8_meet_144 : decode cX8_meet 144 = .ok (.aload_n 0, 1) := by decide +kernel
theorem dX8_meet_145 : decode cX8_meet 145 = .ok (.getfield 40, 3) := by decide +kernel
theorem dX8_meet_148 : decode cX8_meet 148 = .ok (.iload 6, 2) := by decide +kernel
theorem dX8_meet_150 : decode cX8_meet 150 = .ok (.iaload, 1) := by decide +kernel
theorem dX8_meet_151 : decode cX8_meet 151 = .ok (.aload_n 0, 1) := by decide +kernel
theorem dX8_meet_152 : decode cX8_meet 152 = .ok (.getfield 34, 3) := by decide +kernel
theorem dX8_meet_155 : decode cX8_meet 155 = .ok (.iload 6, 2) := by decide +kernel
theorem dX8_meet_157 : decode cX8_meet 157 = .ok (.iaload, 1) := by decide +kernel
theorem dX8_meet_158 : decode cX8_meet 158 = .ok (.iadd, 1) := by decide +kernel
theorem dX8_meet_159 : decode cX8_meet 159 = .ok (.istore 5, 2) := by decide +kernel
theorem dX8_meet_161 : decode cX8_meet 161 = .ok (.iinc 6 1, 3) := by decide +kernel
theorem dX8_meet_164 : decode cX8_meet 164 = .ok (.goto (-55), 3) := by decide +kernel
theorem dX8_meet_167 : decode cX8_meet 167 = .ok (.iload_n 3, 1) := by decide +kernel
theorem dX8_meet_168 : decode cX8_meet 168 = .ok (.ifCond .ne 8, 3) := by decide +kernel
theorem dX8_meet_171 : decode cX8_meet 171 = .ok (.iload 4, 2) := by decide +kernel
theorem dX8_meet_173 : decode cX8_meet 173 = .ok (.goto 8, 3) := by decide +kernel
theorem dX8_meet_176 : decode cX8_meet 176 = .ok (.iload 5, 2) := by decide +kernel
theorem dX8_meet_178 : decode cX8_meet 178 = .ok (.invokestatic 212, 3) := by decide +kernel
theorem dX8_meet_181 : decode cX8_meet 181 = .ok (.ireturn, 1) := by decide +kernel
theorem dX8_canGo_0 : decode cX8_canGo 0 = .ok (.iconst 0, 1) := by decide +kernel
theorem dX8_canGo_1 : decode cX8_canGo 1 = .ok (.istore 4, 2) := by decide +kernel
theorem dX8_canGo_3 : decode cX8_canGo 3 = .ok (.iload 4, 2) := by decide +kernel
theorem dX8_canGo_5 : decode cX8_canGo 5 = .ok (.bipush 122, 2) := by decide +kernel
theorem dX8_canGo_7 : decode cX8_canGo 7 = .ok (.if_icmp .ge 23, 3) := by decide +kernel
theorem dX8_canGo_10 : decode cX8_canGo 10 = .ok (.aload_n 0, 1) := by decide +kernel
theorem dX8_canGo_11 : decode cX8_canGo 11 = .ok (.getfield 43, 3) := by decide +kernel
theorem dX8_canGo_14 : decode cX8_canGo 14 = .ok (.iload 4, 2) := by decide +kernel
theorem dX8_canGo_16 : decode cX8_canGo 16 = .ok (.aload_n 0, 1) := by decide +kernel
theorem dX8_canGo_17 : decode cX8_canGo 17 = .ok (.getfield 19, 3) := by decide +kernel
theorem dX8_canGo_20 : decode cX8_canGo 20 = .ok (.iload 4, 2) := by decide +kernel
theorem dX8_canGo_22 : decode cX8_canGo 22 = .ok (.iaload, 1) := by decide +kernel
theorem dX8_canGo_23 : decode cX8_canGo 23 = .ok (.iastore, 1) := by decide +kernel
theorem dX8_canGo_24 : decode cX8_canGo 24 = .ok (.iinc 4 1, 3) := by decide +kernel
theorem dX8_canGo_27 : decode cX8_canGo 27 = .ok (.goto (-24), 3) := by decide +kernel
theorem dX8_canGo_30 : decode cX8_canGo 30 = .ok (.iconst 1, 1) := by decide +kernel
theorem dX8_canGo_31 : decode cX8_canGo 31 = .ok (.istore 4, 2) := by decide +kernel
theorem dX8_canGo_33 : decode cX8_canGo 33 = .ok (.iconst 0, 1) := by decide +kernel
theorem dX8_canGo_34 : decode cX8_canGo 34 = .ok (.istore 5, 2) := by decide +kernel
theorem dX8_canGo_36 : decode cX8_canGo 36 = .ok (.iload 5, 2) := by decide +kernel
theorem dX8_canGo_38 : decode cX8_canGo 38 = .ok (.iload_n 3, 1) := by decide +kernel
theorem dX8_canGo_39 : decode cX8_canGo 39 = .ok (.if_icmp .ge 41, 3) := by decide +kernel
theorem dX8_canGo_42 : decode cX8_canGo 42 = .ok (.iload 4, 2) := by decide +kernel
theorem dX8_canGo_44 : decode cX8_canGo 44 = .ok (.ifCond .eq 36, 3) := by decide +kernel
theorem dX8_canGo_47 : decode cX8_canGo 47 = .ok (.aload_n 0, 1) := by decide +kernel
theorem dX8_canGo_48 : decode cX8_canGo 48 = .ok (.getfield 16, 3) := by decide +kernel
theorem dX8_canGo_51 : decode cX8_canGo 51 = .ok (.iload_n 2, 1) := by decide +kernel
theorem dX8_canGo_52 : decode cX8_canGo 52 = .ok (.iload 5, 2) := by decide +kernel
theorem dX8_canGo_54 : decode cX8_canGo 54 = .ok (.iadd, 1) := by decide +kernel
theorem dX8_canGo_55 : decode cX8_canGo 55 = .ok (.iaload, 1) := by decide +kernel
theorem dX8_canGo_56 : decode cX8_canGo 56 = .ok (.istore 6, 2) := by decide +kernel
theorem dX8_canGo_58 : decode cX8_canGo 58 = .ok (.aload_n 0, 1) := by decide +kernel
theorem dX8_canGo_59 : decode cX8_canGo 59 = .ok (.iload 6, 2) := by decide +kernel
theorem dX8_canGo_61 : decode cX8_canGo 61 = .ok (.iload_n 1, 1) := by decide +kernel
theorem dX8_canGo_62 : decode cX8_canGo 62 = .ok (.invokevirtual 169, 3) := by decide +kernel
theorem dX8_canGo_65 : decode cX8_canGo 65 = .ok (.istore 4, 2) := by decide +kernel
theorem dX8_canGo_67 : decode cX8_canGo 67 = .ok (.aload_n 0, 1) := by decide +kernel
theorem dX8_canGo_68 : decode cX8_canGo 68 = .ok (.iload 6, 2) := by decide +kernel
theorem dX8_canGo_70 : decode cX8_canGo 70 = .ok (.iload_n 1, 1) := by decide +kernel
theorem dX8_canGo_71 : decode cX8_canGo 71 = .ok (.invokevirtual 178, 3) := by decide +kernel
theorem dX8_canGo_74 : decode cX8_canGo 74 = .ok (.iinc 5 1, 3) := by decide +kernel
theorem dX8_canGo_77 : decode cX8_canGo 77 = .ok (.goto (-41), 3) := by decide +kernel
theorem dX8_canGo_80 : decode cX8_canGo 80 = .ok (.iconst 0, 1) := by decide +kernel
theorem dX8_canGo_81 : decode cX8_canGo 81 = .ok (.istore 5, 2) := by decide +kernel
theorem dX8_canGo_83 : decode cX8_canGo 83 = .ok (.iload 5, 2) := by decide +kernel
theorem dX8_canGo_85 : decode cX8_canGo 85 = .ok (.bipush 122, 2) := by decide +kernel
theorem dX8_canGo_87 : decode cX8_canGo 87 = .ok (.if_icmp .ge 23, 3) := by decide +kernel
theorem dX8_canGo_90 : decode cX8_canGo 90 = .ok (.aload_n 0, 1) := by decide +kernel
theorem dX8_canGo_91 : decode cX8_canGo 91 = .ok (.getfield 19, 3) := by decide +kernel
theorem dX8_canGo_94 : decode cX8_canGo 94 = .ok (.iload 5, 2) := by decide +kernel
theorem dX8_canGo_96 : decode cX8_canGo 96 = .ok (.aload_n 0, 1) := by decide +kernel
theorem dX8_canGo_97 : decode cX8_canGo 97 = .ok (.getfield 43, 3) := by decide +kernel
theorem dX8_canGo_100 : decode cX8_canGo 100 = .ok (.iload 5, 2) := by decide +kernel
theorem dX8_canGo_102 : decode cX8_canGo 102 = .ok (.iaload, 1) := by decide +kernel
theorem dX8_canGo_103 : decode cX8_canGo 103 = .ok (.iastore, 1) := by decide +kernel
theorem dX8_canGo_104 : decode cX8_canGo 104 = .ok (.iinc 5 1, 3) := by decide +kernel
theorem dX8_canGo_107 : decode cX8_canGo 107 = .ok (.goto (-24), 3) := by decide +kernel
theorem dX8_canGo_110 : decode cX8_canGo 110 = .ok (.iload 4, 2) := by decide +kernel
theorem dX8_canGo_112 : decode cX8_canGo 112 = .ok (.ireturn, 1) := by decide +kernel
theorem dX8_whose_0 : decode cX8_whose 0 = .ok (.aload_n 0, 1) := by decide +kernel
theorem dX8_whose_1 : decode cX8_whose 1 = .ok (.getfield 149, 3) := by decide +kernel
theorem dX8_whose_4 : decode cX8_whose 4 = .ok (.ifCond .ne 6, 3) := by decide +kernel
theorem dX8_whose_7 : decode cX8_whose 7 = .ok (.ldc 185, 2) := by decide +kernel
theorem dX8_whose_9 : decode cX8_whose 9 = .ok (.ireturn, 1) := by decide +kernel
theorem dX8_whose_10 : decode cX8_whose 10 = .ok (.iload_n 1, 1) := by decide +kernel
theorem dX8_whose_11 : decode cX8_whose 11 = .ok (.invokestatic 67, 3) := by decide +kernel
theorem dX8_whose_14 : decode cX8_whose 14 = .ok (.ifCond .eq 24, 3) := by decide +kernel
theorem dX8_whose_17 : decode cX8_whose 17 = .ok (.iload_n 3, 1) := by decide +kernel
theorem dX8_whose_18 : decode cX8_whose 18 = .ok (.i2l, 1) := by decide +kernel
theorem dX8_whose_19 : decode cX8_whose 19 = .ok (.lconst 0, 1) := by decide +kernel
theorem dX8_whose_20 : decode cX8_whose 20 = .ok (.ldc2_w 220, 3) := by decide +kernel
theorem dX8_whose_23 : decode cX8_whose 23 = .ok (.invokestatic 63, 3) := by decide +kernel
theorem dX8_whose_26 : decode cX8_whose 26 = .ok (.ifCond .eq 12, 3) := by decide +kernel
theorem dX8_whose_29 : decode cX8_whose 29 = .ok (.aload_n 0, 1) := by decide +kernel
theorem dX8_whose_30 : decode cX8_whose 30 = .ok (.iload 4, 2) := by decide +kernel
theorem dX8_whose_32 : decode cX8_whose 32 = .ok (.invokevirtual 205, 3) := by decide +kernel
theorem dX8_whose_35 : decode cX8_whose 35 = .ok (.ifCond .ne 6, 3) := by decide +kernel
theorem dX8_whose_38 : decode cX8_whose 38 = .ok (.ldc 73, 2) := by decide +kernel
theorem dX8_whose_40 : decode cX8_whose 40 = .ok (.ireturn, 1) := by decide +kernel
theorem dX8_whose_41 : decode cX8_whose 41 = .ok (.aload_n 0, 1) := by decide +kernel
theorem dX8_whose_42 : decode cX8_whose 42 = .ok (.getfield 13, 3) := by decide +kernel
theorem dX8_whose_45 : decode cX8_whose 45 = .ok (.iload_n 1, 1) := by decide +kernel
theorem dX8_whose_46 : decode cX8_whose 46 = .ok (.iaload, 1) := by decide +kernel
theorem dX8_whose_47 : decode cX8_whose 47 = .ok (.ifCond .ge 9, 3) := by decide +kernel
theorem dX8_whose_50 : decode cX8_whose 50 = .ok (.aload_n 0, 1) := by decide +kernel
theorem dX8_whose_51 : decode cX8_whose 51 = .ok (.iconst 1, 1) := by decide +kernel
theorem dX8_whose_52 : decode cX8_whose 52 = .ok (.invokevirtual 74, 3) := by decide +kernel
theorem dX8_whose_55 : decode cX8_whose 55 = .ok (.ireturn, 1) := by decide +kernel
theorem dX8_whose_56 : decode cX8_whose 56 = .ok (.iload_n 2, 1) := by decide +kernel
theorem dX8_whose_57 : decode cX8_whose 57 = .ok (.i2l, 1) := by decide +kernel
theorem dX8_whose_58 : decode cX8_whose 58 = .ok (.lconst 0, 1) := by decide +kernel
theorem dX8_whose_59 : decode cX8_whose 59 = .ok (.aload_n 0, 1) := by decide +kernel
theorem dX8_whose_60 : decode cX8_whose 60 = .ok (.getfield 13, 3) := by decide +kernel
theorem dX8_whose_63 : decode cX8_whose 63 = .ok (.iload_n 1, 1) := by decide +kernel
theorem dX8_whose_64 : decode cX8_whose 64 = .ok (.iaload, 1) := by decide +kernel
theorem dX8_whose_65 : decode cX8_whose 65 = .ok (.iload_n 3, 1) := by decide +kernel
theorem dX8_whose_66 : decode cX8_whose 66 = .ok (.isub, 1) := by decide +kernel
theorem dX8_whose_67 : decode cX8_whose 67 = .ok (.i2l, 1) := by decide +kernel
theorem dX8_whose_68 : decode cX8_whose 68 = .ok (.invokestatic 63, 3) := by decide +kernel
theorem dX8_whose_71 : decode cX8_whose 71 = .ok (.ifCond .ne 9, 3) := by decide +kernel
theorem dX8_whose_74 : decode cX8_whose 74 = .ok (.aload_n 0, 1) := by decide +kernel
theorem dX8_whose_75 : decode cX8_whose 75 = .ok (.iconst 2, 1) := by decide +kernel
theorem dX8_whose_76 : decode cX8_whose 76 = .ok (.invokevirtual 74, 3) := by decide +kernel
theorem dX8_whose_79 : decode cX8_whose 79 = .ok (.ireturn, 1) := by decide +kernel
theorem dX8_whose_80 : decode cX8_whose 80 = .ok (.iload 4, 2) := by decide +kernel
theorem dX8_whose_82 : decode cX8_whose 82 = .ok (.istore 5, 2) := by decide +kernel
theorem dX8_whose_84 : decode cX8_whose 84 = .ok (.iconst 0, 1) := by decide +kernel
theorem dX8_whose_85 : decode cX8_whose 85 = .ok (.istore 6, 2) := by decide +kernel
theorem dX8_whose_87 : decode cX8_whose 87 = .ok (.iload 6, 2) := by decide +kernel
theorem dX8_whose_89 : decode cX8_whose 89 = .ok (.iload_n 3, 1) := by decide +kernel
theorem dX8_whose_90 : decode cX8_whose 90 = .ok (.if_icmp .ge 56, 3) := by decide +kernel
theorem dX8_whose_93 : decode cX8_whose 93 = .ok (.aload_n 0, 1) := by decide +kernel
theorem dX8_whose_94 : decode cX8_whose 94 = .ok (.getfield 16, 3) := by decide +kernel
theorem dX8_whose_97 : decode cX8_whose 97 = .ok (.bipush 40, 2) := by decide +kernel
theorem dX8_whose_99 : decode cX8_whose 99 = .ok (.iload_n 1, 1) := by decide +kernel
theorem dX8_whose_100 : decode cX8_whose 100 = .ok (.imul, 1) := by decide +kernel
theorem dX8_whose_101 : decode cX8_whose 101 = .ok (.iload_n 2, 1) := by decide +kernel
theorem dX8_whose_102 : decode cX8_whose 102 = .ok (.iadd, 1) := by decide +kernel
theorem dX8_whose_103 : decode cX8_whose 103 = .ok (.iload 6, 2) := by decide +kernel
theorem dX8_whose_105 : decode cX8_whose 105 = .ok (.iadd, 1) := by decide +kernel
theorem dX8_whose_106 : decode cX8_whose 106 = .ok (.iaload, 1) := by decide +kernel
theorem dX8_whose_107 : decode cX8_whose 107 = .ok (.istore 7, 2) := by decide +kernel
theorem dX8_whose_109 : decode cX8_whose 109 = .ok (.aload_n 0, 1) := by decide +kernel
theorem dX8_whose_110 : decode cX8_whose 110 = .ok (.iload 7, 2) := by decide +kernel
theorem dX8_whose_112 : decode cX8_whose 112 = .ok (.invokevirtual 182, 3) := by decide +kernel
theorem dX8_whose_115 : decode cX8_whose 115 = .ok (.ifCond .eq 14, 3) := by decide +kernel
theorem dX8_whose_118 : decode cX8_whose 118 = .ok (.aload_n 0, 1) := by decide +kernel
theorem dX8_whose_119 : decode cX8_whose 119 = .ok (.iload 7, 2) := by decide +kernel
theorem dX8_whose_121 : decode cX8_whose 121 = .ok (.iload 5, 2) := by decide +kernel
theorem dX8_whose_123 : decode cX8_whose 123 = .ok (.invokevirtual 172, 3) := by decide +kernel
theorem dX8_whose_126 : decode cX8_whose 126 = .ok (.goto 4, 3) := by decide +kernel
theorem dX8_whose_129 : decode cX8_whose 129 = .ok (.iconst (-1), 1) := by decide +kernel
theorem dX8_whose_130 : decode cX8_whose 130 = .ok (.istore 5, 2) := by decide +kernel
theorem dX8_whose_132 : decode cX8_whose 132 = .ok (.iload 5, 2) := by decide +kernel
theorem dX8_whose_134 : decode cX8_whose 134 = .ok (.ifCond .ge 6, 3) := by decide +kernel
theorem dX8_whose_137 : decode cX8_whose 137 = .ok (.ldc 73, 2) := by decide +kernel
theorem dX8_whose_139 : decode cX8_whose 139 = .ok (.ireturn, 1) := by decide +kernel
theorem dX8_whose_140 : decode cX8_whose 140 = .ok (.iinc 6 1, 3) := by decide +kernel
theorem dX8_whose_143 : decode cX8_whose 143 = .ok (.goto (-56), 3) := by decide +kernel
theorem dX8_whose_146 : decode cX8_whose 146 = .ok (.iconst 0, 1) := by decide +kernel
theorem dX8_whose_147 : decode cX8_whose 147 = .ok (.istore 6, 2) := by decide +kernel
theorem dX8_whose_149 : decode cX8_whose 149 = .ok (.iconst 0, 1) := by decide +kernel
theorem dX8_whose_150 : decode cX8_whose 150 = .ok (.istore 7, 2) := by decide +kernel
theorem dX8_whose_152 : decode cX8_whose 152 = .ok (.iload 7, 2) := by decide +kernel
theorem dX8_whose_154 : decode cX8_whose 154 = .ok (.aload_n 0, 1) := by decide +kernel
theorem dX8_whose_155 : decode cX8_whose 155 = .ok (.getfield 19, 3) := by decide +kernel
theorem dX8_whose_158 : decode cX8_whose 158 = .ok (.iconst 3, 1) := by decide +kernel
theorem dX8_whose_159 : decode cX8_whose 159 = .ok (.iaload, 1) := by decide +kernel
theorem dX8_whose_160 : decode cX8_whose 160 = .ok (.if_icmp .ge 38, 3) := by decide +kernel
theorem dX8_whose_163 : decode cX8_whose 163 = .ok (.iload 6, 2) := by decide +kernel
theorem dX8_whose_165 : decode cX8_whose 165 = .ok (.aload_n 0, 1) := by decide +kernel
theorem dX8_whose_166 : decode cX8_whose 166 = .ok (.iload 7, 2) := by decide +kernel
theorem dX8_whose_168 : decode cX8_whose 168 = .ok (.bipush 40, 2) := by decide +kernel
theorem dX8_whose_170 : decode cX8_whose 170 = .ok (.iload_n 1, 1) := by decide +kernel
theorem dX8_whose_171 : decode cX8_whose 171 = .ok (.imul, 1) := by decide +kernel
theorem dX8_whose_172 : decode cX8_whose 172 = .ok (.iload_n 2, 1) := by decide +kernel
theorem dX8_whose_173 : decode cX8_whose 173 = .ok (.iadd, 1) := by decide +kernel
theorem dX8_whose_174 : decode cX8_whose 174 = .ok (.iload_n 3, 1) := by decide +kernel
theorem dX8_whose_175 : decode cX8_whose 175 = .ok (.invokevirtual 222, 3) := by decide +kernel
theorem dX8_whose_178 : decode cX8_whose 178 = .ok (.ifCond .eq 10, 3) := by decide +kernel
theorem dX8_whose_181 : decode cX8_whose 181 = .ok (.iconst 1, 1) := by decide +kernel
theorem dX8_whose_182 : decode cX8_whose 182 = .ok (.iload 7, 2) := by decide +kernel
theorem dX8_whose_184 : decode cX8_whose 184 = .ok (.ishl, 1) := by decide +kernel
theorem dX8_whose_185 : decode cX8_whose 185 = .ok (.goto 4, 3) := by decide +kernel
theorem dX8_whose_188 : decode cX8_whose 188 = .ok (.iconst 0, 1) := by decide +kernel
theorem dX8_whose_189 : decode cX8_whose 189 = .ok (.ior, 1) := by decide +kernel
theorem dX8_whose_190 : decode cX8_whose 190 = .ok (.istore 6, 2) := by decide +kernel
theorem dX8_whose_192 : decode cX8_whose 192 = .ok (.iinc 7 1, 3) := by decide +kernel
theorem dX8_whose_195 : decode cX8_whose 195 = .ok (.goto (-43), 3) := by decide +kernel
theorem dX8_whose_198 : decode cX8_whose 198 = .ok (.aload_n 0, 1) := by decide +kernel
theorem dX8_whose_199 : decode cX8_whose 199 = .ok (.iload 6, 2) := by decide +kernel
theorem dX8_whose_201 : decode cX8_whose 201 = .ok (.invokevirtual 78, 3) := by decide +kernel
theorem dX8_whose_204 : decode cX8_whose 204 = .ok (.ireturn, 1) := by decide +kernel
theorem dX8_snow_0 : decode cX8_snow 0 = .ok (.aload_n 0, 1) := by decide +kernel
theorem dX8_snow_1 : decode cX8_snow 1 = .ok (.iload_n 1, 1) := by decide +kernel
theorem dX8_snow_2 : decode cX8_snow 2 = .ok (.invokevirtual 156, 3) := by decide +kernel
theorem dX8_snow_5 : decode cX8_snow 5 = .ok (.ifCond .eq 34, 3) := by decide +kernel
theorem dX8_snow_8 : decode cX8_snow 8 = .ok (.aload_n 0, 1) := by decide +kernel
theorem dX8_snow_9 : decode cX8_snow 9 = .ok (.iload_n 2, 1) := by decide +kernel
theorem dX8_snow_10 : decode cX8_snow 10 = .ok (.invokevirtual 205, 3) := by decide +kernel
theorem dX8_snow_13 : decode cX8_snow 13 = .ok (.ifCond .eq 26, 3) := by decide +kernel
theorem dX8_snow_16 : decode cX8_snow 16 = .ok (.iload_n 3, 1) := by decide +kernel
theorem dX8_snow_17 : decode cX8_snow 17 = .ok (.i2l, 1) := by decide +kernel
theorem dX8_snow_18 : decode cX8_snow 18 = .ok (.lconst 0, 1) := by decide +kernel
theorem dX8_snow_19 : decode cX8_snow 19 = .ok (.ldc2_w 225, 3) := by decide +kernel
theorem dX8_snow_22 : decode cX8_snow 22 = .ok (.invokestatic 63, 3) := by decide +kernel
theorem dX8_snow_25 : decode cX8_snow 25 = .ok (.ifCond .eq 14, 3) := by decide +kernel
theorem dX8_snow_28 : decode cX8_snow 28 = .ok (.iload 4, 2) := by decide +kernel
theorem dX8_snow_30 : decode cX8_snow 30 = .ok (.i2l, 1) := by decide +kernel
theorem dX8_snow_31 : decode cX8_snow 31 = .ok (.lconst 0, 1) := by decide +kernel
theorem dX8_snow_32 : decode cX8_snow 32 = .ok (.lconst 1, 1) := by decide +kernel
theorem dX8_snow_33 : decode cX8_snow 33 = .ok (.invokestatic 63, 3) := by decide +kernel
theorem dX8_snow_36 : decode cX8_snow 36 = .ok (.ifCond .ne 7, 3) := by decide +kernel
theorem dX8_snow_39 : decode cX8_snow 39 = .ok (.ldc2_w 227, 3) := by decide +kernel
theorem dX8_snow_42 : decode cX8_snow 42 = .ok (.lreturn, 1) := by decide +kernel
theorem dX8_snow_43 : decode cX8_snow 43 = .ok (.aload_n 0, 1) := by decide +kernel
theorem dX8_snow_44 : decode cX8_snow 44 = .ok (.aload_n 0, 1) := by decide +kernel
theorem dX8_snow_45 : decode cX8_snow 45 = .ok (.iload_n 1, 1) := by decide +kernel
theorem dX8_snow_46 : decode cX8_snow 46 = .ok (.invokevirtual 175, 3) := by decide +kernel
theorem dX8_snow_49 : decode cX8_snow 49 = .ok (.invokevirtual 195, 3) := by decide +kernel
theorem dX8_snow_52 : decode cX8_snow 52 = .ok (.istore 5, 2) := by decide +kernel
theorem dX8_snow_54 : decode cX8_snow 54 = .ok (.lconst 0, 1) := by decide +kernel
theorem dX8_snow_55 : decode cX8_snow 55 = .ok (.lstore 6, 2) := by decide +kernel
theorem dX8_snow_57 : decode cX8_snow 57 = .ok (.lconst 1, 1) := by decide +kernel
theorem dX8_snow_58 : decode cX8_snow 58 = .ok (.lstore 8, 2) := by decide +kernel
theorem dX8_snow_60 : decode cX8_snow 60 = .ok (.iconst 0, 1) := by decide +kernel
theorem dX8_snow_61 : decode cX8_snow 61 = .ok (.istore 10, 2) := by decide +kernel
theorem dX8_snow_63 : decode cX8_snow 63 = .ok (.iload 10, 2) := by decide +kernel
theorem dX8_snow_65 : decode cX8_snow 65 = .ok (.aload_n 0, 1) := by decide +kernel
theorem dX8_snow_66 : decode cX8_snow 66 = .ok (.getfield 19, 3) := by decide +kernel
theorem dX8_snow_69 : decode cX8_snow 69 = .ok (.iconst 2, 1) := by decide +kernel
theorem dX8_snow_70 : decode cX8_snow 70 = .ok (.iaload, 1) := by decide +kernel
theorem dX8_snow_71 : decode cX8_snow 71 = .ok (.if_icmp .ge 17, 3) := by decide +kernel
theorem dX8_snow_74 : decode cX8_snow 74 = .ok (.lload 8, 2) := by decide +kernel
theorem dX8_snow_76 : decode cX8_snow 76 = .ok (.ldc2_w 225, 3) := by decide +kernel
theorem dX8_snow_79 : decode cX8_snow 79 = .ok (.lmul, 1) := by decide +kernel
theorem dX8_snow_80 : decode cX8_snow 80 = .ok (.lstore 8, 2) := by decide +kernel
theorem dX8_snow_82 : decode cX8_snow 82 = .ok (.iinc 10 1, 3) := by decide +kernel
theorem dX8_snow_85 : decode cX8_snow 85 = .ok (.goto (-22), 3) := by decide +kernel
theorem dX8_snow_88 : decode cX8_snow 88 = .ok (.iconst 0, 1) := by decide +kernel
theorem dX8_snow_89 : decode cX8_snow 89 = .ok (.istore 10, 2) := by decide +kernel
theorem dX8_snow_91 : decode cX8_snow 91 = .ok (.iload 10, 2) := by decide +kernel
theorem dX8_snow_93 : decode cX8_snow 93 = .ok (.iconst 1, 1) := by decide +kernel
theorem dX8_snow_94 : decode cX8_snow 94 = .ok (.aload_n 0, 1) := by decide +kernel
theorem dX8_snow_95 : decode cX8_snow 95 = .ok (.getfield 19, 3) := by decide +kernel
theorem dX8_snow_98 : decode cX8_snow 98 = .ok (.iconst 2, 1) := by decide +kernel
theorem dX8_snow_99 : decode cX8_snow 99 = .ok (.iaload, 1) := by decide +kernel
theorem dX8_snow_100 : decode cX8_snow 100 = .ok (.ishl, 1) := by decide +kernel
theorem dX8_snow_101 : decode cX8_snow 101 = .ok (.if_icmp .ge 100, 3) := by decide +kernel
theorem dX8_snow_104 : decode cX8_snow 104 = .ok (.lconst 1, 1) := by decide +kernel
theorem dX8_snow_105 : decode cX8_snow 105 = .ok (.lstore 11, 2) := by decide +kernel
theorem dX8_snow_107 : decode cX8_snow 107 = .ok (.iconst 0, 1) := by decide +kernel
theorem dX8_snow_108 : decode cX8_snow 108 = .ok (.istore 13, 2) := by decide +kernel
theorem dX8_snow_110 : decode cX8_snow 110 = .ok (.iload 13, 2) := by decide +kernel
theorem dX8_snow_112 : decode cX8_snow 112 = .ok (.aload_n 0, 1) := by decide +kernel
theorem dX8_snow_113 : decode cX8_snow 113 = .ok (.getfield 19, 3) := by decide +kernel
theorem dX8_snow_116 : decode cX8_snow 116 = .ok (.iconst 2, 1) := by decide +kernel
theorem dX8_snow_117 : decode cX8_snow 117 = .ok (.iaload, 1) := by decide +kernel
theorem dX8_snow_118 : decode cX8_snow 118 = .ok (.if_icmp .ge 34, 3) := by decide +kernel
theorem dX8_snow_121 : decode cX8_snow 121 = .ok (.lload 11, 2) := by decide +kernel
theorem dX8_snow_123 : decode cX8_snow 123 = .ok (.iload 10, 2) := by decide +kernel
theorem dX8_snow_125 : decode cX8_snow 125 = .ok (.iload 13, 2) := by decide +kernel
theorem dX8_snow_127 : decode cX8_snow 127 = .ok (.invokestatic 130, 3) := by decide +kernel
theorem dX8_snow_130 : decode cX8_snow 130 = .ok (.ifCond .eq 11, 3) := by decide +kernel
theorem dX8_snow_133 : decode cX8_snow 133 = .ok (.bipush 10, 2) := by decide +kernel
theorem dX8_snow_135 : decode cX8_snow 135 = .ok (.iload_n 3, 1) := by decide +kernel
theorem dX8_snow_136 : decode cX8_snow 136 = .ok (.isub, 1) := by decide +kernel
theorem dX8_snow_137 : decode cX8_snow 137 = .ok (.i2l, 1) := by decide +kernel
theorem dX8_snow_138 : decode cX8_snow 138 = .ok (.goto 5, 3) := by decide +kernel
theorem dX8_snow_141 : decode cX8_snow 141 = .ok (.iload_n 3, 1) := by decide +kernel
theorem dX8_snow_142 : decode cX8_snow 142 = .ok (.i2l, 1) := by decide +kernel
theorem dX8_snow_143 : decode cX8_snow 143 = .ok (.lmul, 1) := by decide +kernel
theorem dX8_snow_144 : decode cX8_snow 144 = .ok (.lstore 11, 2) := by decide +kernel
theorem dX8_snow_146 : decode cX8_snow 146 = .ok (.iinc 13 1, 3) := by decide +kernel
theorem dX8_snow_149 : decode cX8_snow 149 = .ok (.goto (-39), 3) := by decide +kernel
theorem dX8_snow_152 : decode cX8_snow 152 = .ok (.lload 6, 2) := by decide +kernel
theorem dX8_snow_154 : decode cX8_snow 154 = .ok (.lload 11, 2) := by decide +kernel
theorem dX8_snow_156 : decode cX8_snow 156 = .ok (.lconst 0, 1) := by decide +kernel
theorem dX8_snow_157 : decode cX8_snow 157 = .ok (.lcmp, 1) := by decide +kernel
theorem dX8_snow_158 : decode cX8_snow 158 = .ok (.ifCond .le 33, 3) := by decide +kernel
theorem dX8_snow_161 : decode cX8_snow 161 = .ok (.aload_n 0, 1) := by decide +kernel
theorem dX8_snow_162 : decode cX8_snow 162 = .ok (.aload_n 0, 1) := by decide +kernel
theorem dX8_snow_163 : decode cX8_snow 163 = .ok (.getfield 19, 3) := by decide +kernel
theorem dX8_snow_166 : decode cX8_snow 166 = .ok (.bipush 6, 2) := by decide +kernel
theorem dX8_snow_168 : decode cX8_snow 168 = .ok (.iload_n 1, 1) := by decide +kernel
theorem dX8_snow_169 : decode cX8_snow 169 = .ok (.iadd, 1) := by decide +kernel
theorem dX8_snow_170 : decode cX8_snow 170 = .ok (.iaload, 1) := by decide +kernel
theorem dX8_snow_171 : decode cX8_snow 171 = .ok (.iload 5, 2) := by decide +kernel
theorem dX8_snow_173 : decode cX8_snow 173 = .ok (.iload 10, 2) := by decide +kernel
theorem dX8_snow_175 : decode cX8_snow 175 = .ok (.iand, 1) := by decide +kernel
theorem dX8_snow_176 : decode cX8_snow 176 = .ok (.invokevirtual 201, 3) := by decide +kernel
theorem dX8_snow_179 : decode cX8_snow 179 = .ok (.iload_n 2, 1) := by decide +kernel
theorem dX8_snow_180 : decode cX8_snow 180 = .ok (.invokestatic 130, 3) := by decide +kernel
theorem dX8_snow_183 : decode cX8_snow 183 = .ok (.ifCond .eq 8, 3) := by decide +kernel
theorem dX8_snow_186 : decode cX8_snow 186 = .ok (.lload 11, 2) := by decide +kernel
theorem dX8_snow_188 : decode cX8_snow 188 = .ok (.goto 4, 3) := by decide +kernel
theorem dX8_snow_191 : decode cX8_snow 191 = .ok (.lconst 0, 1) := by decide +kernel
theorem dX8_snow_192 : decode cX8_snow 192 = .ok (.ladd, 1) := by decide +kernel
theorem dX8_snow_193 : decode cX8_snow 193 = .ok (.lstore 6, 2) := by decide +kernel
theorem dX8_snow_195 : decode cX8_snow 195 = .ok (.iinc 10 1, 3) := by decide +kernel
theorem dX8_snow_198 : decode cX8_snow 198 = .ok (.goto (-107), 3) := by decide +kernel
theorem dX8_snow_201 : decode cX8_snow 201 = .ok (.lload 6, 2) := by decide +kernel
theorem dX8_snow_203 : decode cX8_snow 203 = .ok (.lstore 10, 2) := by decide +kernel
theorem dX8_snow_205 : decode cX8_snow 205 = .ok (.lload 8, 2) := by decide +kernel
theorem dX8_snow_207 : decode cX8_snow 207 = .ok (.lstore 12, 2) := by decide +kernel
theorem dX8_snow_209 : decode cX8_snow 209 = .ok (.lload 12, 2) := by decide +kernel
theorem dX8_snow_211 : decode cX8_snow 211 = .ok (.lconst 0, 1) := by decide +kernel
theorem dX8_snow_212 : decode cX8_snow 212 = .ok (.lcmp, 1) := by decide +kernel
theorem dX8_snow_213 : decode cX8_snow 213 = .ok (.ifCond .eq 21, 3) := by decide +kernel
theorem dX8_snow_216 : decode cX8_snow 216 = .ok (.lload 10, 2) := by decide +kernel
theorem dX8_snow_218 : decode cX8_snow 218 = .ok (.lload 12, 2) := by decide +kernel
theorem dX8_snow_220 : decode cX8_snow 220 = .ok (.lrem, 1) := by decide +kernel
theorem dX8_snow_221 : decode cX8_snow 221 = .ok (.lstore 14, 2) := by decide +kernel
theorem dX8_snow_223 : decode cX8_snow 223 = .ok (.lload 12, 2) := by decide +kernel
theorem dX8_snow_225 : decode cX8_snow 225 = .ok (.lstore 10, 2) := by decide +kernel
theorem dX8_snow_227 : decode cX8_snow 227 = .ok (.lload 14, 2) := by decide +kernel
theorem dX8_snow_229 : decode cX8_snow 229 = .ok (.lstore 12, 2) := by decide +kernel
theorem dX8_snow_231 : decode cX8_snow 231 = .ok (.goto (-22), 3) := by decide +kernel
theorem dX8_snow_234 : decode cX8_snow 234 = .ok (.iload 4, 2) := by decide +kernel
theorem dX8_snow_236 : decode cX8_snow 236 = .ok (.ifCond .ne 11, 3) := by decide +kernel
theorem dX8_snow_239 : decode cX8_snow 239 = .ok (.lload 6, 2) := by decide +kernel
theorem dX8_snow_241 : decode cX8_snow 241 = .ok (.lload 10, 2) := by decide +kernel
theorem dX8_snow_243 : decode cX8_snow 243 = .ok (.ldiv, 1) := by decide +kernel
theorem dX8_snow_244 : decode cX8_snow 244 = .ok (.goto 8, 3) := by decide +kernel
theorem dX8_snow_247 : decode cX8_snow 247 = .ok (.lload 8, 2) := by decide +kernel
theorem dX8_snow_249 : decode cX8_snow 249 = .ok (.lload 10, 2) := by decide +kernel
theorem dX8_snow_251 : decode cX8_snow 251 = .ok (.ldiv, 1) := by decide +kernel
theorem dX8_snow_252 : decode cX8_snow 252 = .ok (.lreturn, 1) := by decide +kernel
theorem dX8_image_0 : decode cX8_image 0 = .ok (.iload_n 1, 1) := by decide +kernel
theorem dX8_image_1 : decode cX8_image 1 = .ok (.i2l, 1) := by decide +kernel
theorem dX8_image_2 : decode cX8_image 2 = .ok (.lconst 0, 1) := by decide +kernel
theorem dX8_image_3 : decode cX8_image 3 = .ok (.lconst 1, 1) := by decide +kernel
theorem dX8_image_4 : decode cX8_image 4 = .ok (.invokestatic 63, 3) := by decide +kernel
theorem dX8_image_7 : decode cX8_image 7 = .ok (.ifCond .ne 6, 3) := by decide +kernel
theorem dX8_image_10 : decode cX8_image 10 = .ok (.ldc 73, 2) := by decide +kernel
theorem dX8_image_12 : decode cX8_image 12 = .ok (.ireturn, 1) := by decide +kernel
theorem dX8_image_13 : decode cX8_image 13 = .ok (.aload_n 0, 1) := by decide +kernel
theorem dX8_image_14 : decode cX8_image 14 = .ok (.getfield 149, 3) := by decide +kernel
theorem dX8_image_17 : decode cX8_image 17 = .ok (.ifCond .ne 6, 3) := by decide +kernel
theorem dX8_image_20 : decode cX8_image 20 = .ok (.ldc 185, 2) := by decide +kernel
theorem dX8_image_22 : decode cX8_image 22 = .ok (.ireturn, 1) := by decide +kernel
theorem dX8_image_23 : decode cX8_image 23 = .ok (.iconst 0, 1) := by decide +kernel
theorem dX8_image_24 : decode cX8_image 24 = .ok (.istore_n 2, 1) := by decide +kernel
theorem dX8_image_25 : decode cX8_image 25 = .ok (.iload_n 2, 1) := by decide +kernel
theorem dX8_image_26 : decode cX8_image 26 = .ok (.bipush 122, 2) := by decide +kernel
theorem dX8_image_28 : decode cX8_image 28 = .ok (.if_icmp .ge 26, 3) := by decide +kernel
theorem dX8_image_31 : decode cX8_image 31 = .ok (.aload_n 0, 1) := by decide +kernel
theorem dX8_image_32 : decode cX8_image 32 = .ok (.getfield 50, 3) := by decide +kernel
theorem dX8_image_35 : decode cX8_image 35 = .ok (.bipush 122, 2) := by decide +kernel
theorem dX8_image_37 : decode cX8_image 37 = .ok (.iload_n 1, 1) := by decide +kernel
theorem dX8_image_38 : decode cX8_image 38 = .ok (.imul, 1) := by decide +kernel
theorem dX8_image_39 : decode cX8_image 39 = .ok (.iload_n 2, 1) := by decide +kernel
theorem dX8_image_40 : decode cX8_image 40 = .ok (.iadd, 1) := by decide +kernel
theorem dX8_image_41 : decode cX8_image 41 = .ok (.aload_n 0, 1) := by decide +kernel
theorem dX8_image_42 : decode cX8_image 42 = .ok (.getfield 19, 3) := by decide +kernel
theorem dX8_image_45 : decode cX8_image 45 = .ok (.iload_n 2, 1) := by decide +kernel
theorem dX8_image_46 : decode cX8_image 46 = .ok (.iaload, 1) := by decide +kernel
theorem dX8_image_47 : decode cX8_image 47 = .ok (.iastore, 1) := by decide +kernel
theorem dX8_image_48 : decode cX8_image 48 = .ok (.iinc 2 1, 3) := by decide +kernel
theorem dX8_image_51 : decode cX8_image 51 = .ok (.goto (-26), 3) := by decide +kernel
theorem dX8_image_54 : decode cX8_image 54 = .ok (.aload_n 0, 1) := by decide +kernel
theorem dX8_image_55 : decode cX8_image 55 = .ok (.getfield 46, 3) := by decide +kernel
theorem dX8_image_58 : decode cX8_image 58 = .ok (.iload_n 1, 1) := by decide +kernel
theorem dX8_image_59 : decode cX8_image 59 = .ok (.iconst 1, 1) := by decide +kernel
theorem dX8_image_60 : decode cX8_image 60 = .ok (.bastore, 1) := by decide +kernel
theorem dX8_image_61 : decode cX8_image 61 = .ok (.iconst 1, 1) := by decide +kernel
theorem dX8_image_62 : decode cX8_image 62 = .ok (.ireturn, 1) := by decide +kernel
theorem dX8_restore_0 : decode cX8_restore 0 = .ok (.iload_n 1, 1) := by decide +kernel
theorem dX8_restore_1 : decode cX8_restore 1 = .ok (.i2l, 1) := by decide +kernel
theorem dX8_restore_2 : decode cX8_restore 2 = .ok (.lconst 0, 1) := by decide +kernel
theorem dX8_restore_3 : decode cX8_restore 3 = .ok (.lconst 1, 1) := by decide +kernel
theorem dX8_restore_4 : decode cX8_restore 4 = .ok (.invokestatic 63, 3) := by decide +kernel
theorem dX8_restore_7 : decode cX8_restore 7 = .ok (.ifCond .ne 6, 3) := by decide +kernel
theorem dX8_restore_10 : decode cX8_restore 10 = .ok (.ldc 73, 2) := by decide +kernel
theorem dX8_restore_12 : decode cX8_restore 12 = .ok (.ireturn, 1) := by decide +kernel
theorem dX8_restore_13 : decode cX8_restore 13 = .ok (.aload_n 0, 1) := by decide +kernel
theorem dX8_restore_14 : decode cX8_restore 14 = .ok (.getfield 46, 3) := by decide +kernel
theorem dX8_restore_17 : decode cX8_restore 17 = .ok (.iload_n 1, 1) := by decide +kernel
theorem dX8_restore_18 : decode cX8_restore 18 = .ok (.baload, 1) := by decide +kernel
theorem dX8_restore_19 : decode cX8_restore 19 = .ok (.ifCond .ne 6, 3) := by decide +kernel
theorem dX8_restore_22 : decode cX8_restore 22 = .ok (.ldc 185, 2) := by decide +kernel
theorem dX8_restore_24 : decode cX8_restore 24 = .ok (.ireturn, 1) := by decide +kernel
theorem dX8_restore_25 : decode cX8_restore 25 = .ok (.iconst 0, 1) := by decide +kernel
theorem dX8_restore_26 : decode cX8_restore 26 = .ok (.istore_n 2, 1) := by decide +kernel
theorem dX8_restore_27 : decode cX8_restore 27 = .ok (.iload_n 2, 1) := by decide +kernel
theorem dX8_restore_28 : decode cX8_restore 28 = .ok (.bipush 122, 2) := by decide +kernel
theorem dX8_restore_30 : decode cX8_restore 30 = .ok (.if_icmp .ge 26, 3) := by decide +kernel
theorem dX8_restore_33 : decode cX8_restore 33 = .ok (.aload_n 0, 1) := by decide +kernel
theorem dX8_restore_34 : decode cX8_restore 34 = .ok (.getfield 19, 3) := by decide +kernel
theorem dX8_restore_37 : decode cX8_restore 37 = .ok (.iload_n 2, 1) := by decide +kernel
theorem dX8_restore_38 : decode cX8_restore 38 = .ok (.aload_n 0, 1) := by decide +kernel
theorem dX8_restore_39 : decode cX8_restore 39 = .ok (.getfield 50, 3) := by decide +kernel
theorem dX8_restore_42 : decode cX8_restore 42 = .ok (.bipush 122, 2) := by decide +kernel
theorem dX8_restore_44 : decode cX8_restore 44 = .ok (.iload_n 1, 1) := by decide +kernel
theorem dX8_restore_45 : decode cX8_restore 45 = .ok (.imul, 1) := by decide +kernel
theorem dX8_restore_46 : decode cX8_restore 46 = .ok (.iload_n 2, 1) := by decide +kernel
theorem dX8_restore_47 : decode cX8_restore 47 = .ok (.iadd, 1) := by decide +kernel
theorem dX8_restore_48 : decode cX8_restore 48 = .ok (.iaload, 1) := by decide +kernel
theorem dX8_restore_49 : decode cX8_restore 49 = .ok (.iastore, 1) := by decide +kernel
theorem dX8_restore_50 : decode cX8_restore 50 = .ok (.iinc 2 1, 3) := by decide +kernel
theorem dX8_restore_53 : decode cX8_restore 53 = .ok (.goto (-26), 3) := by decide +kernel
theorem dX8_restore_56 : decode cX8_restore 56 = .ok (.aload_n 0, 1) := by decide +kernel
theorem dX8_restore_57 : decode cX8_restore 57 = .ok (.iconst 0, 1) := by decide +kernel
theorem dX8_restore_58 : decode cX8_restore 58 = .ok (.putfield 153, 3) := by decide +kernel
theorem dX8_restore_61 : decode cX8_restore 61 = .ok (.iconst 1, 1) := by decide +kernel
theorem dX8_restore_62 : decode cX8_restore 62 = .ok (.ireturn, 1) := by decide +kernel
theorem dX8_kind_0 : decode cX8_kind 0 = .ok (.aload_n 0, 1) := by decide +kernel
theorem dX8_kind_1 : decode cX8_kind 1 = .ok (.iload_n 1, 1) := by decide +kernel
theorem dX8_kind_2 : decode cX8_kind 2 = .ok (.invokevirtual 182, 3) := by decide +kernel
theorem dX8_kind_5 : decode cX8_kind 5 = .ok (.ifCond .eq 15, 3) := by decide +kernel
theorem dX8_kind_8 : decode cX8_kind 8 = .ok (.aload_n 0, 1) := by decide +kernel
theorem dX8_kind_9 : decode cX8_kind 9 = .ok (.getfield 19, 3) := by decide +kernel
theorem dX8_kind_12 : decode cX8_kind 12 = .ok (.bipush 14, 2) := by decide +kernel
theorem dX8_kind_14 : decode cX8_kind 14 = .ok (.iload_n 1, 1) := by decide +kernel
theorem dX8_kind_15 : decode cX8_kind 15 = .ok (.iadd, 1) := by decide +kernel
theorem dX8_kind_16 : decode cX8_kind 16 = .ok (.iaload, 1) := by decide +kernel
theorem dX8_kind_17 : decode cX8_kind 17 = .ok (.goto 5, 3) := by decide +kernel
theorem dX8_kind_20 : decode cX8_kind 20 = .ok (.ldc 73, 2) := by decide +kernel
theorem dX8_kind_22 : decode cX8_kind 22 = .ok (.ireturn, 1) := by decide +kernel
theorem dX8_isKind_0 : decode cX8_isKind 0 = .ok (.iload_n 1, 1) := by decide +kernel
theorem dX8_isKind_1 : decode cX8_isKind 1 = .ok (.ifCond .eq 28, 3) := by decide +kernel
theorem dX8_isKind_4 : decode cX8_isKind 4 = .ok (.iload_n 0, 1) := by decide +kernel
theorem dX8_isKind_5 : decode cX8_isKind 5 = .ok (.iload_n 1, 1) := by decide +kernel
theorem dX8_isKind_6 : decode cX8_isKind 6 = .ok (.if_icmp .eq 23, 3) := by decide +kernel
theorem dX8_isKind_9 : decode cX8_isKind 9 = .ok (.iload_n 1, 1) := by decide +kernel
theorem dX8_isKind_10 : decode cX8_isKind 10 = .ok (.iconst 1, 1) := by decide +kernel
theorem dX8_isKind_11 : decode cX8_isKind 11 = .ok (.if_icmp .ne 8, 3) := by decide +kernel
theorem dX8_isKind_14 : decode cX8_isKind 14 = .ok (.iload_n 0, 1) := by decide +kernel
theorem dX8_isKind_15 : decode cX8_isKind 15 = .ok (.iconst 4, 1) := by decide +kernel
theorem dX8_isKind_16 : decode cX8_isKind 16 = .ok (.if_icmp .lt 13, 3) := by decide +kernel
theorem dX8_isKind_19 : decode cX8_isKind 19 = .ok (.iload_n 1, 1) := by decide +kernel
theorem dX8_isKind_20 : decode cX8_isKind 20 = .ok (.iconst 4, 1) := by decide +kernel
theorem dX8_isKind_21 : decode cX8_isKind 21 = .ok (.if_icmp .ne 12, 3) := by decide +kernel
theorem dX8_isKind_24 : decode cX8_isKind 24 = .ok (.iload_n 0, 1) := by decide +kernel
theorem dX8_isKind_25 : decode cX8_isKind 25 = .ok (.iconst 5, 1) := by decide +kernel
theorem dX8_isKind_26 : decode cX8_isKind 26 = .ok (.if_icmp .ne 7, 3) := by decide +kernel
theorem dX8_isKind_29 : decode cX8_isKind 29 = .ok (.iconst 1, 1) := by decide +kernel
theorem dX8_isKind_30 : decode cX8_isKind 30 = .ok (.goto 4, 3) := by decide +kernel
theorem dX8_isKind_33 : decode cX8_isKind 33 = .ok (.iconst 0, 1) := by decide +kernel
theorem dX8_isKind_34 : decode cX8_isKind 34 = .ok (.ireturn, 1) := by decide +kernel
theorem dX8_as_0 : decode cX8_as 0 = .ok (.aload_n 0, 1) := by decide +kernel
theorem dX8_as_1 : decode cX8_as 1 = .ok (.iload_n 1, 1) := by decide +kernel
theorem dX8_as_2 : decode cX8_as 2 = .ok (.invokevirtual 182, 3) := by decide +kernel
theorem dX8_as_5 : decode cX8_as 5 = .ok (.ifCond .eq 15, 3) := by decide +kernel
theorem dX8_as_8 : decode cX8_as 8 = .ok (.iload_n 2, 1) := by decide +kernel
theorem dX8_as_9 : decode cX8_as 9 = .ok (.i2l, 1) := by decide +kernel
theorem dX8_as_10 : decode cX8_as 10 = .ok (.lconst 0, 1) := by decide +kernel
theorem dX8_as_11 : decode cX8_as 11 = .ok (.ldc2_w 229, 3) := by decide +kernel
theorem dX8_as_14 : decode cX8_as 14 = .ok (.invokestatic 63, 3) := by decide +kernel
theorem dX8_as_17 : decode cX8_as 17 = .ok (.ifCond .ne 6, 3) := by decide +kernel
theorem dX8_as_20 : decode cX8_as 20 = .ok (.ldc 73, 2) := by decide +kernel
theorem dX8_as_22 : decode cX8_as 22 = .ok (.ireturn, 1) := by decide +kernel
theorem dX8_as_23 : decode cX8_as 23 = .ok (.aload_n 0, 1) := by decide +kernel
theorem dX8_as_24 : decode cX8_as 24 = .ok (.getfield 19, 3) := by decide +kernel
theorem dX8_as_27 : decode cX8_as 27 = .ok (.bipush 14, 2) := by decide +kernel
theorem dX8_as_29 : decode cX8_as 29 = .ok (.iload_n 1, 1) := by decide +kernel
theorem dX8_as_30 : decode cX8_as 30 = .ok (.iadd, 1) := by decide +kernel
theorem dX8_as_31 : decode cX8_as 31 = .ok (.iaload, 1) := by decide +kernel
theorem dX8_as_32 : decode cX8_as 32 = .ok (.iload_n 2, 1) := by decide +kernel
theorem dX8_as_33 : decode cX8_as 33 = .ok (.invokestatic 231, 3) := by decide +kernel
theorem dX8_as_36 : decode cX8_as 36 = .ok (.ifCond .eq 11, 3) := by decide +kernel
theorem dX8_as_39 : decode cX8_as 39 = .ok (.aload_n 0, 1) := by decide +kernel
theorem dX8_as_40 : decode cX8_as 40 = .ok (.iload_n 1, 1) := by decide +kernel
theorem dX8_as_41 : decode cX8_as 41 = .ok (.invokevirtual 78, 3) := by decide +kernel
theorem dX8_as_44 : decode cX8_as 44 = .ok (.goto 8, 3) := by decide +kernel
theorem dX8_as_47 : decode cX8_as 47 = .ok (.aload_n 0, 1) := by decide +kernel
theorem dX8_as_48 : decode cX8_as 48 = .ok (.iconst 3, 1) := by decide +kernel
theorem dX8_as_49 : decode cX8_as 49 = .ok (.invokevirtual 74, 3) := by decide +kernel
theorem dX8_as_52 : decode cX8_as 52 = .ok (.ireturn, 1) := by decide +kernel
theorem dX8_begin_0 : decode cX8_begin 0 = .ok (.aload_n 0, 1) := by decide +kernel
theorem dX8_begin_1 : decode cX8_begin 1 = .ok (.getfield 234, 3) := by decide +kernel
theorem dX8_begin_4 : decode cX8_begin 4 = .ok (.bipush 16, 2) := by decide +kernel
theorem dX8_begin_6 : decode cX8_begin 6 = .ok (.if_icmp .ge 23, 3) := by decide +kernel
theorem dX8_begin_9 : decode cX8_begin 9 = .ok (.aload_n 0, 1) := by decide +kernel
theorem dX8_begin_10 : decode cX8_begin 10 = .ok (.getfield 53, 3) := by decide +kernel
theorem dX8_begin_13 : decode cX8_begin 13 = .ok (.aload_n 0, 1) := by decide +kernel
theorem dX8_begin_14 : decode cX8_begin 14 = .ok (.getfield 234, 3) := by decide +kernel
theorem dX8_begin_17 : decode cX8_begin 17 = .ok (.iload_n 1, 1) := by decide +kernel
theorem dX8_begin_18 : decode cX8_begin 18 = .ok (.iastore, 1) := by decide +kernel
theorem dX8_begin_19 : decode cX8_begin 19 = .ok (.aload_n 0, 1) := by decide +kernel
theorem dX8_begin_20 : decode cX8_begin 20 = .ok (.dup, 1) := by decide +kernel
theorem dX8_begin_21 : decode cX8_begin 21 = .ok (.getfield 234, 3) := by decide +kernel
theorem dX8_begin_24 : decode cX8_begin 24 = .ok (.iconst 1, 1) := by decide +kernel
theorem dX8_begin_25 : decode cX8_begin 25 = .ok (.iadd, 1) := by decide +kernel
theorem dX8_begin_26 : decode cX8_begin 26 = .ok (.putfield 234, 3) := by decide +kernel
theorem dX8_begin_29 : decode cX8_begin 29 = .ok (.return_, 1) := by decide +kernel
theorem dX8_lent_0 : decode cX8_lent 0 = .ok (.aload_n 0, 1) := by decide +kernel
theorem dX8_lent_1 : decode cX8_lent 1 = .ok (.iload_n 2, 1) := by decide +kernel
theorem dX8_lent_2 : decode cX8_lent 2 = .ok (.invokevirtual 237, 3) := by decide +kernel
theorem dX8_lent_5 : decode cX8_lent 5 = .ok (.iload_n 2, 1) := by decide +kernel
theorem dX8_lent_6 : decode cX8_lent 6 = .ok (.bipush 10, 2) := by decide +kernel
theorem dX8_lent_8 : decode cX8_lent 8 = .ok (.if_icmp .ne 15, 3) := by decide +kernel
theorem dX8_lent_11 : decode cX8_lent 11 = .ok (.aload_n 0, 1) := by decide +kernel
theorem dX8_lent_12 : decode cX8_lent 12 = .ok (.getfield 19, 3) := by decide +kernel
theorem dX8_lent_15 : decode cX8_lent 15 = .ok (.bipush 41, 2) := by decide +kernel
theorem dX8_lent_17 : decode cX8_lent 17 = .ok (.iload_n 1, 1) := by decide +kernel
theorem dX8_lent_18 : decode cX8_lent 18 = .ok (.iadd, 1) := by decide +kernel
theorem dX8_lent_19 : decode cX8_lent 19 = .ok (.iaload, 1) := by decide +kernel
theorem dX8_lent_20 : decode cX8_lent 20 = .ok (.goto 4, 3) := by decide +kernel
theorem dX8_lent_23 : decode cX8_lent 23 = .ok (.iload_n 1, 1) := by decide +kernel
theorem dX8_lent_24 : decode cX8_lent 24 = .ok (.ireturn, 1) := by decide +kernel
theorem dX8_laneMark_0 : decode cX8_laneMark 0 = .ok (.aload_n 0, 1) := by decide +kernel
theorem dX8_laneMark_1 : decode cX8_laneMark 1 = .ok (.bipush 21, 2) := by decide +kernel
theorem dX8_laneMark_3 : decode cX8_laneMark 3 = .ok (.invokevirtual 237, 3) := by decide +kernel
theorem dX8_laneMark_6 : decode cX8_laneMark 6 = .ok (.aload_n 0, 1) := by decide +kernel
theorem dX8_laneMark_7 : decode cX8_laneMark 7 = .ok (.iload_n 1, 1) := by decide +kernel
theorem dX8_laneMark_8 : decode cX8_laneMark 8 = .ok (.bipush 20, 2) := by decide +kernel
theorem dX8_laneMark_10 : decode cX8_laneMark 10 = .ok (.invokevirtual 241, 3) := by decide +kernel
theorem dX8_laneMark_13 : decode cX8_laneMark 13 = .ok (.aload_n 0, 1) := by decide +kernel
theorem dX8_laneMark_14 : decode cX8_laneMark 14 = .ok (.iload_n 1, 1) := by decide +kernel
theorem dX8_laneMark_15 : decode cX8_laneMark 15 = .ok (.invokevirtual 198, 3) := by decide +kernel
theorem dX8_laneMark_18 : decode cX8_laneMark 18 = .ok (.invokestatic 217, 3) := by decide +kernel
theorem dX8_laneMark_21 : decode cX8_laneMark 21 = .ok (.iadd, 1) := by decide +kernel
theorem dX8_laneMark_22 : decode cX8_laneMark 22 = .ok (.ireturn, 1) := by decide +kernel
theorem dX8_highSize_0 : decode cX8_highSize 0 = .ok (.aload_n 0, 1) := by decide +kernel
theorem dX8_highSize_1 : decode cX8_highSize 1 = .ok (.bipush 13, 2) := by decide +kernel
theorem dX8_highSize_3 : decode cX8_highSize 3 = .ok (.invokevirtual 237, 3) := by decide +kernel
theorem dX8_highSize_6 : decode cX8_highSize 6 = .ok (.aload_n 0, 1) := by decide +kernel
theorem dX8_highSize_7 : decode cX8_highSize 7 = .ok (.iload_n 1, 1) := by decide +kernel
theorem dX8_highSize_8 : decode cX8_highSize 8 = .ok (.bipush 10, 2) := by decide +kernel
theorem dX8_highSize_10 : decode cX8_highSize 10 = .ok (.invokevirtual 241, 3) := by decide +kernel
theorem dX8_highSize_13 : decode cX8_highSize 13 = .ok (.bipush 100, 2) := by decide +kernel
theorem dX8_highSize_15 : decode cX8_highSize 15 = .ok (.isub, 1) := by decide +kernel
theorem dX8_highSize_16 : decode cX8_highSize 16 = .ok (.ireturn, 1) := by decide +kernel
theorem dX8_sizeOfHigh_0 : decode cX8_sizeOfHigh 0 = .ok (.aload_n 0, 1) := by decide +kernel
theorem dX8_sizeOfHigh_1 : decode cX8_sizeOfHigh 1 = .ok (.getfield 19, 3) := by decide +kernel
theorem dX8_sizeOfHigh_4 : decode cX8_sizeOfHigh 4 = .ok (.bipush 14, 2) := by decide +kernel
theorem dX8_sizeOfHigh_6 : decode cX8_sizeOfHigh 6 = .ok (.iload_n 1, 1) := by decide +kernel
theorem dX8_sizeOfHigh_7 : decode cX8_sizeOfHigh 7 = .ok (.iadd, 1) := by decide +kernel
theorem dX8_sizeOfHigh_8 : decode cX8_sizeOfHigh 8 = .ok (.iaload, 1) := by decide +kernel
theorem dX8_sizeOfHigh_9 : decode cX8_sizeOfHigh 9 = .ok (.iconst 5, 1) := by decide +kernel
theorem dX8_sizeOfHigh_10 : decode cX8_sizeOfHigh 10 = .ok (.if_icmp .ne 17, 3) := by decide +kernel
theorem dX8_sizeOfHigh_13 : decode cX8_sizeOfHigh 13 = .ok (.aload_n 0, 1) := by decide +kernel
theorem dX8_sizeOfHigh_14 : decode cX8_sizeOfHigh 14 = .ok (.bipush 14, 2) := by decide +kernel
theorem dX8_sizeOfHigh_16 : decode cX8_sizeOfHigh 16 = .ok (.invokevirtual 237, 3) := by decide +kernel
theorem dX8_sizeOfHigh_19 : decode cX8_sizeOfHigh 19 = .ok (.iconst 2, 1) := by decide +kernel
theorem dX8_sizeOfHigh_20 : decode cX8_sizeOfHigh 20 = .ok (.aload_n 0, 1) := by decide +kernel
theorem dX8_sizeOfHigh_21 : decode cX8_sizeOfHigh 21 = .ok (.iload_n 1, 1) := by decide +kernel
theorem dX8_sizeOfHigh_22 : decode cX8_sizeOfHigh 22 = .ok (.invokevirtual 244, 3) := by decide +kernel
theorem dX8_sizeOfHigh_25 : decode cX8_sizeOfHigh 25 = .ok (.imul, 1) := by decide +kernel
theorem dX8_sizeOfHigh_26 : decode cX8_sizeOfHigh 26 = .ok (.ireturn, 1) := by decide +kernel
theorem dX8_sizeOfHigh_27 : decode cX8_sizeOfHigh 27 = .ok (.aload_n 0, 1) := by decide +kernel
theorem dX8_sizeOfHigh_28 : decode cX8_sizeOfHigh 28 = .ok (.iload_n 1, 1) := by decide +kernel
theorem dX8_sizeOfHigh_29 : decode cX8_sizeOfHigh 29 = .ok (.invokevirtual 244, 3) := by decide +kernel
theorem dX8_sizeOfHigh_32 : decode cX8_sizeOfHigh 32 = .ok (.ireturn, 1) := by decide +kernel
theorem dX8_markOf_0 : decode cX8_markOf 0 = .ok (.aload_n 0, 1) := by decide +kernel
theorem dX8_markOf_1 : decode cX8_markOf 1 = .ok (.getfield 19, 3) := by decide +kernel
theorem dX8_markOf_4 : decode cX8_markOf 4 = .ok (.bipush 14, 2) := by decide +kernel
theorem dX8_markOf_6 : decode cX8_markOf 6 = .ok (.iload_n 1, 1) := by decide +kernel
theorem dX8_markOf_7 : decode cX8_markOf 7 = .ok (.iadd, 1) := by decide +kernel
theorem dX8_markOf_8 : decode cX8_markOf 8 = .ok (.iaload, 1) := by decide +kernel
theorem dX8_markOf_9 : decode cX8_markOf 9 = .ok (.istore_n 2, 1) := by decide +kernel
theorem dX8_markOf_10 : decode cX8_markOf 10 = .ok (.iload_n 2, 1) := by decide +kernel
theorem dX8_markOf_11 : decode cX8_markOf 11 = .ok (.iconst 2, 1) := by decide +kernel
theorem dX8_markOf_12 : decode cX8_markOf 12 = .ok (.if_icmp .ne 17, 3) := by decide +kernel
theorem dX8_markOf_15 : decode cX8_markOf 15 = .ok (.aload_n 0, 1) := by decide +kernel
theorem dX8_markOf_16 : decode cX8_markOf 16 = .ok (.bipush 24, 2) := by decide +kernel
theorem dX8_markOf_18 : decode cX8_markOf 18 = .ok (.invokevirtual 237, 3) := by decide +kernel
theorem dX8_markOf_21 : decode cX8_markOf 21 = .ok (.iconst 2, 1) := by decide +kernel
theorem dX8_markOf_22 : decode cX8_markOf 22 = .ok (.aload_n 0, 1) := by decide +kernel
theorem dX8_markOf_23 : decode cX8_markOf 23 = .ok (.iload_n 1, 1) := by decide +kernel
theorem dX8_markOf_24 : decode cX8_markOf 24 = .ok (.invokevirtual 247, 3) := by decide +kernel
theorem dX8_markOf_27 : decode cX8_markOf 27 = .ok (.imul, 1) := by decide +kernel
theorem dX8_markOf_28 : decode cX8_markOf 28 = .ok (.ireturn, 1) := by decide +kernel
theorem dX8_markOf_29 : decode cX8_markOf 29 = .ok (.iload_n 2, 1) := by decide +kernel
theorem dX8_markOf_30 : decode cX8_markOf 30 = .ok (.iconst 3, 1) := by decide +kernel
theorem dX8_markOf_31 : decode cX8_markOf 31 = .ok (.if_icmp .ne 19, 3) := by decide +kernel
theorem dX8_markOf_34 : decode cX8_markOf 34 = .ok (.aload_n 0, 1) := by decide +kernel
theorem dX8_markOf_35 : decode cX8_markOf 35 = .ok (.bipush 22, 2) := by decide +kernel
theorem dX8_markOf_37 : decode cX8_markOf 37 = .ok (.invokevirtual 237, 3) := by decide +kernel
theorem dX8_markOf_40 : decode cX8_markOf 40 = .ok (.aload_n 0, 1) := by decide +kernel
theorem dX8_markOf_41 : decode cX8_markOf 41 = .ok (.iload_n 1, 1) := by decide +kernel
theorem dX8_markOf_42 : decode cX8_markOf 42 = .ok (.invokevirtual 247, 3) := by decide +kernel
theorem dX8_markOf_45 : decode cX8_markOf 45 = .ok (.sipush 1000, 3) := by decide +kernel
theorem dX8_markOf_48 : decode cX8_markOf 48 = .ok (.isub, 1) := by decide +kernel
theorem dX8_markOf_49 : decode cX8_markOf 49 = .ok (.ireturn, 1) := by decide +kernel
theorem dX8_markOf_50 : decode cX8_markOf 50 = .ok (.iload_n 2, 1) := by decide +kernel
theorem dX8_markOf_51 : decode cX8_markOf 51 = .ok (.iconst 1, 1) := by decide +kernel
theorem dX8_markOf_52 : decode cX8_markOf 52 = .ok (.if_icmp .ne 9, 3) := by decide +kernel
theorem dX8_markOf_55 : decode cX8_markOf 55 = .ok (.aload_n 0, 1) := by decide +kernel
theorem dX8_markOf_56 : decode cX8_markOf 56 = .ok (.iload_n 1, 1) := by decide +kernel
theorem dX8_markOf_57 : decode cX8_markOf 57 = .ok (.invokevirtual 247, 3) := by decide +kernel
theorem dX8_markOf_60 : decode cX8_markOf 60 = .ok (.ireturn, 1) := by decide +kernel
theorem dX8_markOf_61 : decode cX8_markOf 61 = .ok (.aload_n 0, 1) := by decide +kernel
theorem dX8_markOf_62 : decode cX8_markOf 62 = .ok (.bipush 23, 2) := by decide +kernel
theorem dX8_markOf_64 : decode cX8_markOf 64 = .ok (.invokevirtual 237, 3) := by decide +kernel
theorem dX8_markOf_67 : decode cX8_markOf 67 = .ok (.aload_n 0, 1) := by decide +kernel
theorem dX8_markOf_68 : decode cX8_markOf 68 = .ok (.iload_n 1, 1) := by decide +kernel
theorem dX8_markOf_69 : decode cX8_markOf 69 = .ok (.bipush 20, 2) := by decide +kernel
theorem dX8_markOf_71 : decode cX8_markOf 71 = .ok (.invokevirtual 241, 3) := by decide +kernel
theorem dX8_markOf_74 : decode cX8_markOf 74 = .ok (.istore_n 3, 1) := by decide +kernel
theorem dX8_markOf_75 : decode cX8_markOf 75 = .ok (.iload_n 3, 1) := by decide +kernel
theorem dX8_markOf_76 : decode cX8_markOf 76 = .ok (.aload_n 0, 1) := by decide +kernel
theorem dX8_markOf_77 : decode cX8_markOf 77 = .ok (.iload_n 1, 1) := by decide +kernel
theorem dX8_markOf_78 : decode cX8_markOf 78 = .ok (.invokevirtual 250, 3) := by decide +kernel
theorem dX8_markOf_81 : decode cX8_markOf 81 = .ok (.isub, 1) := by decide +kernel
theorem dX8_markOf_82 : decode cX8_markOf 82 = .ok (.ireturn, 1) := by decide +kernel
theorem dX8_laneSize_0 : decode cX8_laneSize 0 = .ok (.aload_n 0, 1) := by decide +kernel
theorem dX8_laneSize_1 : decode cX8_laneSize 1 = .ok (.bipush 11, 2) := by decide +kernel
theorem dX8_laneSize_3 : decode cX8_laneSize 3 = .ok (.invokevirtual 237, 3) := by decide +kernel
theorem dX8_laneSize_6 : decode cX8_laneSize 6 = .ok (.aload_n 0, 1) := by decide +kernel
theorem dX8_laneSize_7 : decode cX8_laneSize 7 = .ok (.iload_n 1, 1) := by decide +kernel
theorem dX8_laneSize_8 : decode cX8_laneSize 8 = .ok (.bipush 10, 2) := by decide +kernel
theorem dX8_laneSize_10 : decode cX8_laneSize 10 = .ok (.invokevirtual 241, 3) := by decide +kernel
theorem dX8_laneSize_13 : decode cX8_laneSize 13 = .ok (.istore_n 2, 1) := by decide +kernel
theorem dX8_laneSize_14 : decode cX8_laneSize 14 = .ok (.iload_n 2, 1) := by decide +kernel
theorem dX8_laneSize_15 : decode cX8_laneSize 15 = .ok (.aload_n 0, 1) := by decide +kernel
theorem dX8_laneSize_16 : decode cX8_laneSize 16 = .ok (.iload_n 1, 1) := by decide +kernel
theorem dX8_laneSize_17 : decode cX8_laneSize 17 = .ok (.invokevirtual 253, 3) := by decide +kernel
theorem dX8_laneSize_20 : decode cX8_laneSize 20 = .ok (.iadd, 1) := by decide +kernel
theorem dX8_laneSize_21 : decode cX8_laneSize 21 = .ok (.ireturn, 1) := by decide +kernel
theorem dX8_sizeOf_0 : decode cX8_sizeOf 0 = .ok (.aload_n 0, 1) := by decide +kernel
theorem dX8_sizeOf_1 : decode cX8_sizeOf 1 = .ok (.getfield 19, 3) := by decide +kernel
theorem dX8_sizeOf_4 : decode cX8_sizeOf 4 = .ok (.bipush 14, 2) := by decide +kernel
theorem dX8_sizeOf_6 : decode cX8_sizeOf 6 = .ok (.iload_n 1, 1) := by decide +kernel
theorem dX8_sizeOf_7 : decode cX8_sizeOf 7 = .ok (.iadd, 1) := by decide +kernel
theorem dX8_sizeOf_8 : decode cX8_sizeOf 8 = .ok (.iaload, 1) := by decide +kernel
theorem dX8_sizeOf_9 : decode cX8_sizeOf 9 = .ok (.istore_n 2, 1) := by decide +kernel
theorem dX8_sizeOf_10 : decode cX8_sizeOf 10 = .ok (.iload_n 2, 1) := by decide +kernel
theorem dX8_sizeOf_11 : decode cX8_sizeOf 11 = .ok (.iconst 2, 1) := by decide +kernel
theorem dX8_sizeOf_12 : decode cX8_sizeOf 12 = .ok (.if_icmp .ne 16, 3) := by decide +kernel
theorem dX8_sizeOf_15 : decode cX8_sizeOf 15 = .ok (.aload_n 0, 1) := by decide +kernel
theorem dX8_sizeOf_16 : decode cX8_sizeOf 16 = .ok (.bipush 12, 2) := by decide +kernel
theorem dX8_sizeOf_18 : decode cX8_sizeOf 18 = .ok (.invokevirtual 237, 3) := by decide +kernel
theorem dX8_sizeOf_21 : decode cX8_sizeOf 21 = .ok (.aload_n 0, 1) := by decide +kernel
theorem dX8_sizeOf_22 : decode cX8_sizeOf 22 = .ok (.iload_n 1, 1) := by decide +kernel
theorem dX8_sizeOf_23 : decode cX8_sizeOf 23 = .ok (.invokevirtual 256, 3) := by decide +kernel
theorem dX8_sizeOf_26 : decode cX8_sizeOf 26 = .ok (.ineg, 1) := by decide +kernel
theorem dX8_sizeOf_27 : decode cX8_sizeOf 27 = .ok (.ireturn, 1) := by decide +kernel
theorem dX8_sizeOf_28 : decode cX8_sizeOf 28 = .ok (.iload_n 2, 1) := by decide +kernel
theorem dX8_sizeOf_29 : decode cX8_sizeOf 29 = .ok (.iconst 4, 1) := by decide +kernel
theorem dX8_sizeOf_30 : decode cX8_sizeOf 30 = .ok (.if_icmp .lt 11, 3) := by decide +kernel
theorem dX8_sizeOf_33 : decode cX8_sizeOf 33 = .ok (.aload_n 0, 1) := by decide +kernel
theorem dX8_sizeOf_34 : decode cX8_sizeOf 34 = .ok (.iload_n 1, 1) := by decide +kernel
theorem dX8_sizeOf_35 : decode cX8_sizeOf 35 = .ok (.invokevirtual 250, 3) := by decide +kernel
theorem dX8_sizeOf_38 : decode cX8_sizeOf 38 = .ok (.goto 8, 3) := by decide +kernel
theorem dX8_sizeOf_41 : decode cX8_sizeOf 41 = .ok (.aload_n 0, 1) := by decide +kernel
theorem dX8_sizeOf_42 : decode cX8_sizeOf 42 = .ok (.iload_n 1, 1) := by decide +kernel
theorem dX8_sizeOf_43 : decode cX8_sizeOf 43 = .ok (.invokevirtual 256, 3) := by decide +kernel
theorem dX8_sizeOf_46 : decode cX8_sizeOf 46 = .ok (.ireturn, 1) := by decide +kernel
theorem dX8_ask_0 : decode cX8_ask 0 = .ok (.aload_n 0, 1) := by decide +kernel
theorem dX8_ask_1 : decode cX8_ask 1 = .ok (.iload_n 1, 1) := by decide +kernel
theorem dX8_ask_2 : decode cX8_ask 2 = .ok (.invokevirtual 182, 3) := by decide +kernel
theorem dX8_ask_5 : decode cX8_ask 5 = .ok (.ifCond .eq 13, 3) := by decide +kernel
theorem dX8_ask_8 : decode cX8_ask 8 = .ok (.iload_n 2, 1) := by decide +kernel
theorem dX8_ask_9 : decode cX8_ask 9 = .ok (.i2l, 1) := by decide +kernel
theorem dX8_ask_10 : decode cX8_ask 10 = .ok (.lconst 0, 1) := by decide +kernel
theorem dX8_ask_11 : decode cX8_ask 11 = .ok (.lconst 1, 1) := by decide +kernel
theorem dX8_ask_12 : decode cX8_ask 12 = .ok (.invokestatic 63, 3) := by decide +kernel
theorem dX8_ask_15 : decode cX8_ask 15 = .ok (.ifCond .ne 6, 3) := by decide +kernel
theorem dX8_ask_18 : decode cX8_ask 18 = .ok (.ldc 73, 2) := by decide +kernel
theorem dX8_ask_20 : decode cX8_ask 20 = .ok (.ireturn, 1) := by decide +kernel
theorem dX8_ask_21 : decode cX8_ask 21 = .ok (.aload_n 0, 1) := by decide +kernel
theorem dX8_ask_22 : decode cX8_ask 22 = .ok (.iconst 0, 1) := by decide +kernel
theorem dX8_ask_23 : decode cX8_ask 23 = .ok (.putfield 234, 3) := by decide +kernel
theorem dX8_ask_26 : decode cX8_ask 26 = .ok (.iload_n 2, 1) := by decide +kernel
theorem dX8_ask_27 : decode cX8_ask 27 = .ok (.ifCond .ne 11, 3) := by decide +kernel
theorem dX8_ask_30 : decode cX8_ask 30 = .ok (.aload_n 0, 1) := by decide +kernel
theorem dX8_ask_31 : decode cX8_ask 31 = .ok (.iload_n 1, 1) := by decide +kernel
theorem dX8_ask_32 : decode cX8_ask 32 = .ok (.invokevirtual 259, 3) := by decide +kernel
theorem dX8_ask_35 : decode cX8_ask 35 = .ok (.goto 8, 3) := by decide +kernel
theorem dX8_ask_38 : decode cX8_ask 38 = .ok (.aload_n 0, 1) := by decide +kernel
theorem dX8_ask_39 : decode cX8_ask 39 = .ok (.iload_n 1, 1) := by decide +kernel
theorem dX8_ask_40 : decode cX8_ask 40 = .ok (.invokevirtual 253, 3) := by decide +kernel
theorem dX8_ask_43 : decode cX8_ask 43 = .ok (.ireturn, 1) := by decide +kernel
theorem dX8_trace_0 : decode cX8_trace 0 = .ok (.iload_n 1, 1) := by decide +kernel
theorem dX8_trace_1 : decode cX8_trace 1 = .ok (.i2l, 1) := by decide +kernel
theorem dX8_trace_2 : decode cX8_trace 2 = .ok (.lconst 0, 1) := by decide +kernel
theorem dX8_trace_3 : decode cX8_trace 3 = .ok (.aload_n 0, 1) := by decide +kernel
theorem dX8_trace_4 : decode cX8_trace 4 = .ok (.getfield 234, 3) := by decide +kernel
theorem dX8_trace_7 : decode cX8_trace 7 = .ok (.iconst 1, 1) := by decide +kernel
theorem dX8_trace_8 : decode cX8_trace 8 = .ok (.isub, 1) := by decide +kernel
theorem dX8_trace_9 : decode cX8_trace 9 = .ok (.i2l, 1) := by decide +kernel
theorem dX8_trace_10 : decode cX8_trace 10 = .ok (.invokestatic 63, 3) := by decide +kernel
theorem dX8_trace_13 : decode cX8_trace 13 = .ok (.ifCond .eq 12, 3) := by decide +kernel
theorem dX8_trace_16 : decode cX8_trace 16 = .ok (.aload_n 0, 1) := by decide +kernel
theorem dX8_trace_17 : decode cX8_trace 17 = .ok (.getfield 53, 3) := by decide +kernel
theorem dX8_trace_20 : decode cX8_trace 20 = .ok (.iload_n 1, 1) := by decide +kernel
theorem dX8_trace_21 : decode cX8_trace 21 = .ok (.iaload, 1) := by decide +kernel
theorem dX8_trace_22 : decode cX8_trace 22 = .ok (.goto 5, 3) := by decide +kernel
theorem dX8_trace_25 : decode cX8_trace 25 = .ok (.ldc 134, 2) := by decide +kernel
theorem dX8_trace_27 : decode cX8_trace 27 = .ok (.ireturn, 1) := by decide +kernel
theorem dX8_count_0 : decode cX8_count 0 = .ok (.iconst 0, 1) := by decide +kernel
theorem dX8_count_1 : decode cX8_count 1 = .ok (.istore_n 2, 1) := by decide +kernel
theorem dX8_count_2 : decode cX8_count 2 = .ok (.iconst 0, 1) := by decide +kernel
theorem dX8_count_3 : decode cX8_count 3 = .ok (.istore_n 3, 1) := by decide +kernel
theorem dX8_count_4 : decode cX8_count 4 = .ok (.iload_n 3, 1) := by decide +kernel
theorem dX8_count_5 : decode cX8_count 5 = .ok (.bipush 8, 2) := by decide +kernel
theorem dX8_count_7 : decode cX8_count 7 = .ok (.if_icmp .ge 26, 3) := by decide +kernel
theorem dX8_count_10 : decode cX8_count 10 = .ok (.iload_n 2, 1) := by decide +kernel
theorem dX8_count_11 : decode cX8_count 11 = .ok (.aload_n 0, 1) := by decide +kernel
theorem dX8_count_12 : decode cX8_count 12 = .ok (.getfield 13, 3) := by decide +kernel
theorem dX8_count_15 : decode cX8_count 15 = .ok (.iload_n 3, 1) := by decide +kernel
theorem dX8_count_16 : decode cX8_count 16 = .ok (.iaload, 1) := by decide +kernel
theorem dX8_count_17 : decode cX8_count 17 = .ok (.ifCond .lt 7, 3) := by decide +kernel
theorem dX8_count_20 : decode cX8_count 20 = .ok (.iconst 1, 1) := by decide +kernel
theorem dX8_count_21 : decode cX8_count 21 = .ok (.goto 4, 3) := by decide +kernel
theorem dX8_count_24 : decode cX8_count 24 = .ok (.iconst 0, 1) := by decide +kernel
theorem dX8_count_25 : decode cX8_count 25 = .ok (.iadd, 1) := by decide +kernel
theorem dX8_count_26 : decode cX8_count 26 = .ok (.istore_n 2, 1) := by decide +kernel
theorem dX8_count_27 : decode cX8_count 27 = .ok (.iinc 3 1, 3) := by decide +kernel
theorem dX8_count_30 : decode cX8_count 30 = .ok (.goto (-26), 3) := by decide +kernel
theorem dX8_count_33 : decode cX8_count 33 = .ok (.iload_n 1, 1) := by decide +kernel
theorem dX8_count_34 : decode cX8_count 34 = .ok (.tableswitch 104 0 8 #[50, 52, 59, 66, 73, 80, 87, 94, 99], 50) := by decide +kernel
theorem dX8_count_84 : decode cX8_count 84 = .ok (.iload_n 2, 1) := by decide +kernel
theorem dX8_count_85 : decode cX8_count 85 = .ok (.ireturn, 1) := by decide +kernel
theorem dX8_count_86 : decode cX8_count 86 = .ok (.aload_n 0, 1) := by decide +kernel
theorem dX8_count_87 : decode cX8_count 87 = .ok (.getfield 19, 3) := by decide +kernel
theorem dX8_count_90 : decode cX8_count 90 = .ok (.iconst 2, 1) := by decide +kernel
theorem dX8_count_91 : decode cX8_count 91 = .ok (.iaload, 1) := by decide +kernel
theorem dX8_count_92 : decode cX8_count 92 = .ok (.ireturn, 1) := by decide +kernel
theorem dX8_count_93 : decode cX8_count 93 = .ok (.aload_n 0, 1) := by decide +kernel
theorem dX8_count_94 : decode cX8_count 94 = .ok (.getfield 19, 3) := by decide +kernel
theorem dX8_count_97 : decode cX8_count 97 = .ok (.iconst 3, 1) := by decide +kernel
theorem dX8_count_98 : decode cX8_count 98 = .ok (.iaload, 1) := by decide +kernel
theorem dX8_count_99 : decode cX8_count 99 = .ok (.ireturn, 1) := by decide +kernel
theorem dX8_count_100 : decode cX8_count 100 = .ok (.aload_n 0, 1) := by decide +kernel
theorem dX8_count_101 : decode cX8_count 101 = .ok (.getfield 19, 3) := by decide +kernel
theorem dX8_count_104 : decode cX8_count 104 = .ok (.iconst 1, 1) := by decide +kernel
theorem dX8_count_105 : decode cX8_count 105 = .ok (.iaload, 1) := by decide +kernel
theorem dX8_count_106 : decode cX8_count 106 = .ok (.ireturn, 1) := by decide +kernel
theorem dX8_count_107 : decode cX8_count 107 = .ok (.aload_n 0, 1) := by decide +kernel
theorem dX8_count_108 : decode cX8_count 108 = .ok (.getfield 19, 3) := by decide +kernel
theorem dX8_count_111 : decode cX8_count 111 = .ok (.iconst 0, 1) := by decide +kernel
theorem dX8_count_112 : decode cX8_count 112 = .ok (.iaload, 1) := by decide +kernel
theorem dX8_count_113 : decode cX8_count 113 = .ok (.ireturn, 1) := by decide +kernel
theorem dX8_count_114 : decode cX8_count 114 = .ok (.aload_n 0, 1) := by decide +kernel
theorem dX8_count_115 : decode cX8_count 115 = .ok (.getfield 19, 3) := by decide +kernel
theorem dX8_count_118 : decode cX8_count 118 = .ok (.iconst 4, 1) := by decide +kernel
theorem dX8_count_119 : decode cX8_count 119 = .ok (.iaload, 1) := by decide +kernel
theorem dX8_count_120 : decode cX8_count 120 = .ok (.ireturn, 1) := by decide +kernel
theorem dX8_count_121 : decode cX8_count 121 = .ok (.aload_n 0, 1) := by decide +kernel
theorem dX8_count_122 : decode cX8_count 122 = .ok (.getfield 19, 3) := by decide +kernel
theorem dX8_count_125 : decode cX8_count 125 = .ok (.iconst 5, 1) := by decide +kernel
theorem dX8_count_126 : decode cX8_count 126 = .ok (.iaload, 1) := by decide +kernel
theorem dX8_count_127 : decode cX8_count 127 = .ok (.ireturn, 1) := by decide +kernel
theorem dX8_count_128 : decode cX8_count 128 = .ok (.aload_n 0, 1) := by decide +kernel
theorem dX8_count_129 : decode cX8_count 129 = .ok (.getfield 153, 3) := by decide +kernel
theorem dX8_count_132 : decode cX8_count 132 = .ok (.ireturn, 1) := by decide +kernel
theorem dX8_count_133 : decode cX8_count 133 = .ok (.aload_n 0, 1) := by decide +kernel
theorem dX8_count_134 : decode cX8_count 134 = .ok (.getfield 87, 3) := by decide +kernel
theorem dX8_count_137 : decode cX8_count 137 = .ok (.ireturn, 1) := by decide +kernel
theorem dX8_count_138 : decode cX8_count 138 = .ok (.ldc 73, 2) := by decide +kernel
theorem dX8_count_140 : decode cX8_count 140 = .ok (.ireturn, 1) := by decide +kernel
theorem dX8_status_0 : decode cX8_status 0 = .ok (.aload_n 0, 1) := by decide +kernel
theorem dX8_status_1 : decode cX8_status 1 = .ok (.getfield 56, 3) := by decide +kernel
theorem dX8_status_4 : decode cX8_status 4 = .ok (.ireturn, 1) := by decide +kernel
theorem dJ6_bitCount_0f7a4_0 : decode cJ6_bitCount_0f7a4 0 = .ok (.iload_n 0, 1) := by decide +kernel
theorem dJ6_bitCount_0f7a4_1 : decode cJ6_bitCount_0f7a4 1 = .ok (.iload_n 0, 1) := by decide +kernel
theorem dJ6_bitCount_0f7a4_2 : decode cJ6_bitCount_0f7a4 2 = .ok (.iconst 1, 1) := by decide +kernel
theorem dJ6_bitCount_0f7a4_3 : decode cJ6_bitCount_0f7a4 3 = .ok (.iushr, 1) := by decide +kernel
theorem dJ6_bitCount_0f7a4_4 : decode cJ6_bitCount_0f7a4 4 = .ok (.ldc_w 265, 3) := by decide +kernel
theorem dJ6_bitCount_0f7a4_7 : decode cJ6_bitCount_0f7a4 7 = .ok (.iand, 1) := by decide +kernel
theorem dJ6_bitCount_0f7a4_8 : decode cJ6_bitCount_0f7a4 8 = .ok (.isub, 1) := by decide +kernel
theorem dJ6_bitCount_0f7a4_9 : decode cJ6_bitCount_0f7a4 9 = .ok (.istore_n 0, 1) := by decide +kernel
theorem dJ6_bitCount_0f7a4_10 : decode cJ6_bitCount_0f7a4 10 = .ok (.iload_n 0, 1) := by decide +kernel
theorem dJ6_bitCount_0f7a4_11 : decode cJ6_bitCount_0f7a4 11 = .ok (.ldc_w 266, 3) := by decide +kernel
theorem dJ6_bitCount_0f7a4_14 : decode cJ6_bitCount_0f7a4 14 = .ok (.iand, 1) := by decide +kernel
theorem dJ6_bitCount_0f7a4_15 : decode cJ6_bitCount_0f7a4 15 = .ok (.iload_n 0, 1) := by decide +kernel
theorem dJ6_bitCount_0f7a4_16 : decode cJ6_bitCount_0f7a4 16 = .ok (.iconst 2, 1) := by decide +kernel
theorem dJ6_bitCount_0f7a4_17 : decode cJ6_bitCount_0f7a4 17 = .ok (.iushr, 1) := by decide +kernel
theorem dJ6_bitCount_0f7a4_18 : decode cJ6_bitCount_0f7a4 18 = .ok (.ldc_w 266, 3) := by decide +kernel
theorem dJ6_bitCount_0f7a4_21 : decode cJ6_bitCount_0f7a4 21 = .ok (.iand, 1) := by decide +kernel
theorem dJ6_bitCount_0f7a4_22 : decode cJ6_bitCount_0f7a4 22 = .ok (.iadd, 1) := by decide +kernel
theorem dJ6_bitCount_0f7a4_23 : decode cJ6_bitCount_0f7a4 23 = .ok (.istore_n 0, 1) := by decide +kernel
theorem dJ6_bitCount_0f7a4_24 : decode cJ6_bitCount_0f7a4 24 = .ok (.iload_n 0, 1) := by decide +kernel
theorem dJ6_bitCount_0f7a4_25 : decode cJ6_bitCount_0f7a4 25 = .ok (.iload_n 0, 1) := by decide +kernel
theorem dJ6_bitCount_0f7a4_26 : decode cJ6_bitCount_0f7a4 26 = .ok (.iconst 4, 1) := by decide +kernel
theorem dJ6_bitCount_0f7a4_27 : decode cJ6_bitCount_0f7a4 27 = .ok (.iushr, 1) := by decide +kernel
theorem dJ6_bitCount_0f7a4_28 : decode cJ6_bitCount_0f7a4 28 = .ok (.iadd, 1) := by decide +kernel
theorem dJ6_bitCount_0f7a4_29 : decode cJ6_bitCount_0f7a4 29 = .ok (.ldc_w 267, 3) := by decide +kernel
theorem dJ6_bitCount_0f7a4_32 : decode cJ6_bitCount_0f7a4 32 = .ok (.iand, 1) := by decide +kernel
theorem dJ6_bitCount_0f7a4_33 : decode cJ6_bitCount_0f7a4 33 = .ok (.istore_n 0, 1) := by decide +kernel
theorem dJ6_bitCount_0f7a4_34 : decode cJ6_bitCount_0f7a4 34 = .ok (.iload_n 0, 1) := by decide +kernel
theorem dJ6_bitCount_0f7a4_35 : decode cJ6_bitCount_0f7a4 35 = .ok (.iload_n 0, 1) := by decide +kernel
theorem dJ6_bitCount_0f7a4_36 : decode cJ6_bitCount_0f7a4 36 = .ok (.bipush 8, 2) := by decide +kernel
theorem dJ6_bitCount_0f7a4_38 : decode cJ6_bitCount_0f7a4 38 = .ok (.iushr, 1) := by decide +kernel
theorem dJ6_bitCount_0f7a4_39 : decode cJ6_bitCount_0f7a4 39 = .ok (.iadd, 1) := by decide +kernel
theorem dJ6_bitCount_0f7a4_40 : decode cJ6_bitCount_0f7a4 40 = .ok (.istore_n 0, 1) := by decide +kernel
theorem dJ6_bitCount_0f7a4_41 : decode cJ6_bitCount_0f7a4 41 = .ok (.iload_n 0, 1) := by decide +kernel
theorem dJ6_bitCount_0f7a4_42 : decode cJ6_bitCount_0f7a4 42 = .ok (.iload_n 0, 1) := by decide +kernel
theorem dJ6_bitCount_0f7a4_43 : decode cJ6_bitCount_0f7a4 43 = .ok (.bipush 16, 2) := by decide +kernel
theorem dJ6_bitCount_0f7a4_45 : decode cJ6_bitCount_0f7a4 45 = .ok (.iushr, 1) := by decide +kernel
theorem dJ6_bitCount_0f7a4_46 : decode cJ6_bitCount_0f7a4 46 = .ok (.iadd, 1) := by decide +kernel
theorem dJ6_bitCount_0f7a4_47 : decode cJ6_bitCount_0f7a4 47 = .ok (.istore_n 0, 1) := by decide +kernel
theorem dJ6_bitCount_0f7a4_48 : decode cJ6_bitCount_0f7a4 48 = .ok (.iload_n 0, 1) := by decide +kernel
theorem dJ6_bitCount_0f7a4_49 : decode cJ6_bitCount_0f7a4 49 = .ok (.bipush 63, 2) := by decide +kernel
theorem dJ6_bitCount_0f7a4_51 : decode cJ6_bitCount_0f7a4 51 = .ok (.iand, 1) := by decide +kernel
theorem dJ6_bitCount_0f7a4_52 : decode cJ6_bitCount_0f7a4 52 = .ok (.ireturn, 1) := by decide +kernel
theorem dJ9_min_7cf53_0 : decode cJ9_min_7cf53 0 = .ok (.iload_n 0, 1) := by decide +kernel
theorem dJ9_min_7cf53_1 : decode cJ9_min_7cf53 1 = .ok (.iload_n 1, 1) := by decide +kernel
theorem dJ9_min_7cf53_2 : decode cJ9_min_7cf53 2 = .ok (.if_icmp .gt 7, 3) := by decide +kernel
theorem dJ9_min_7cf53_5 : decode cJ9_min_7cf53 5 = .ok (.iload_n 0, 1) := by decide +kernel
theorem dJ9_min_7cf53_6 : decode cJ9_min_7cf53 6 = .ok (.goto 4, 3) := by decide +kernel
theorem dJ9_min_7cf53_9 : decode cJ9_min_7cf53 9 = .ok (.iload_n 1, 1) := by decide +kernel
theorem dJ9_min_7cf53_10 : decode cJ9_min_7cf53 10 = .ok (.ireturn, 1) := by decide +kernel
theorem dJ7_fill_53178_0 : decode cJ7_fill_53178 0 = .ok (.iconst 0, 1) := by decide +kernel
theorem dJ7_fill_53178_1 : decode cJ7_fill_53178 1 = .ok (.istore_n 2, 1) := by decide +kernel
theorem dJ7_fill_53178_2 : decode cJ7_fill_53178 2 = .ok (.aload_n 0, 1) := by decide +kernel
theorem dJ7_fill_53178_3 : decode cJ7_fill_53178 3 = .ok (.arraylength, 1) := by decide +kernel
theorem dJ7_fill_53178_4 : decode cJ7_fill_53178 4 = .ok (.istore_n 3, 1) := by decide +kernel
theorem dJ7_fill_53178_5 : decode cJ7_fill_53178 5 = .ok (.iload_n 2, 1) := by decide +kernel
theorem dJ7_fill_53178_6 : decode cJ7_fill_53178 6 = .ok (.iload_n 3, 1) := by decide +kernel
theorem dJ7_fill_53178_7 : decode cJ7_fill_53178 7 = .ok (.if_icmp .ge 13, 3) := by decide +kernel
theorem dJ7_fill_53178_10 : decode cJ7_fill_53178 10 = .ok (.aload_n 0, 1) := by decide +kernel
theorem dJ7_fill_53178_11 : decode cJ7_fill_53178 11 = .ok (.iload_n 2, 1) := by decide +kernel
theorem dJ7_fill_53178_12 : decode cJ7_fill_53178 12 = .ok (.iload_n 1, 1) := by decide +kernel
theorem dJ7_fill_53178_13 : decode cJ7_fill_53178 13 = .ok (.iastore, 1) := by decide +kernel
theorem dJ7_fill_53178_14 : decode cJ7_fill_53178 14 = .ok (.iinc 2 1, 3) := by decide +kernel
theorem dJ7_fill_53178_17 : decode cJ7_fill_53178 17 = .ok (.goto (-12), 3) := by decide +kernel
theorem dJ7_fill_53178_20 : decode cJ7_fill_53178 20 = .ok (.return_, 1) := by decide +kernel
theorem dL_law_0 : decode cL_law 0 = .ok (.new 7, 3) := by decide +kernel
theorem dL_law_3 : decode cL_law 3 = .ok (.dup, 1) := by decide +kernel
theorem dL_law_4 : decode cL_law 4 = .ok (.invokespecial 9, 3) := by decide +kernel
theorem dL_law_7 : decode cL_law 7 = .ok (.astore_n 1, 1) := by decide +kernel
theorem dL_law_8 : decode cL_law 8 = .ok (.new 10, 3) := by decide +kernel
theorem dL_law_11 : decode cL_law 11 = .ok (.dup, 1) := by decide +kernel
theorem dL_law_12 : decode cL_law 12 = .ok (.invokespecial 12, 3) := by decide +kernel
theorem dL_law_15 : decode cL_law 15 = .ok (.astore_n 2, 1) := by decide +kernel
theorem dL_law_16 : decode cL_law 16 = .ok (.iconst 0, 1) := by decide +kernel
theorem dL_law_17 : decode cL_law 17 = .ok (.istore_n 3, 1) := by decide +kernel
theorem dL_law_18 : decode cL_law 18 = .ok (.iload_n 3, 1) := by decide +kernel
theorem dL_law_19 : decode cL_law 19 = .ok (.aload_n 0, 1) := by decide +kernel
theorem dL_law_20 : decode cL_law 20 = .ok (.arraylength, 1) := by decide +kernel
theorem dL_law_21 : decode cL_law 21 = .ok (.bipush 6, 2) := by decide +kernel
theorem dL_law_23 : decode cL_law 23 = .ok (.isub, 1) := by decide +kernel
theorem dL_law_24 : decode cL_law 24 = .ok (.if_icmp .gt 1246, 3) := by decide +kernel
theorem dL_law_27 : decode cL_law 27 = .ok (.aload_n 0, 1) := by decide +kernel
theorem dL_law_28 : decode cL_law 28 = .ok (.iload_n 3, 1) := by decide +kernel
theorem dL_law_29 : decode cL_law 29 = .ok (.iaload, 1) := by decide +kernel
theorem dL_law_30 : decode cL_law 30 = .ok (.bipush 63, 2) := by decide +kernel
theorem dL_law_32 : decode cL_law 32 = .ok (.iand, 1) := by decide +kernel
theorem dL_law_33 : decode cL_law 33 = .ok (.tableswitch 1231 0 34 #[155, 198, 241, 304, 327, 350, 363, 376, 409, 452, 485, 508, 521, 534, 567, 600, 643, 666, 699, 742, 785, 798, 821, 844, 887, 930, 983, 1037, 1060, 1083, 1106, 1139, 1172, 1195, 1218], 155) := by decide +kernel
theorem dL_law_188 : decode cL_law 188 = .ok (.aload_n 1, 1) := by decide +kernel
theorem dL_law_189 : decode cL_law 189 = .ok (.aload_n 0, 1) := by decide +kernel
theorem dL_law_190 : decode cL_law 190 = .ok (.iload_n 3, 1) := by decide +kernel
theorem dL_law_191 : decode cL_law 191 = .ok (.iconst 1, 1) := by decide +kernel
theorem dL_law_192 : decode cL_law 192 = .ok (.iadd, 1) := by decide +kernel
theorem dL_law_193 : decode cL_law 193 = .ok (.iaload, 1) := by decide +kernel
theorem dL_law_194 : decode cL_law 194 = .ok (.aload_n 0, 1) := by decide +kernel
theorem dL_law_195 : decode cL_law 195 = .ok (.iload_n 3, 1) := by decide +kernel
theorem dL_law_196 : decode cL_law 196 = .ok (.iconst 2, 1) := by decide +kernel
theorem dL_law_197 : decode cL_law 197 = .ok (.iadd, 1) := by decide +kernel
theorem dL_law_198 : decode cL_law 198 = .ok (.iaload, 1) := by decide +kernel
theorem dL_law_199 : decode cL_law 199 = .ok (.aload_n 0, 1) := by decide +kernel
theorem dL_law_200 : decode cL_law 200 = .ok (.iload_n 3, 1) := by decide +kernel
theorem dL_law_201 : decode cL_law 201 = .ok (.iconst 3, 1) := by decide +kernel
theorem dL_law_202 : decode cL_law 202 = .ok (.iadd, 1) := by decide +kernel
theorem dL_law_203 : decode cL_law 203 = .ok (.iaload, 1) := by decide +kernel
theorem dL_law_204 : decode cL_law 204 = .ok (.invokevirtual 13, 3) := by decide +kernel
theorem dL_law_207 : decode cL_law 207 = .ok (.aload_n 2, 1) := by decide +kernel
theorem dL_law_208 : decode cL_law 208 = .ok (.aload_n 0, 1) := by decide +kernel
theorem dL_law_209 : decode cL_law 209 = .ok (.iload_n 3, 1) := by decide +kernel
theorem dL_law_210 : decode cL_law 210 = .ok (.iconst 1, 1) := by decide +kernel
theorem dL_law_211 : decode cL_law 211 = .ok (.iadd, 1) := by decide +kernel
theorem dL_law_212 : decode cL_law 212 = .ok (.iaload, 1) := by decide +kernel
theorem dL_law_213 : decode cL_law 213 = .ok (.aload_n 0, 1) := by decide +kernel
theorem dL_law_214 : decode cL_law 214 = .ok (.iload_n 3, 1) := by decide +kernel
theorem dL_law_215 : decode cL_law 215 = .ok (.iconst 2, 1) := by decide +kernel
theorem dL_law_216 : decode cL_law 216 = .ok (.iadd, 1) := by decide +kernel
theorem dL_law_217 : decode cL_law 217 = .ok (.iaload, 1) := by decide +kernel
theorem dL_law_218 : decode cL_law 218 = .ok (.aload_n 0, 1) := by decide +kernel
theorem dL_law_219 : decode cL_law 219 = .ok (.iload_n 3, 1) := by decide +kernel
theorem dL_law_220 : decode cL_law 220 = .ok (.iconst 3, 1) := by decide +kernel
theorem dL_law_221 : decode cL_law 221 = .ok (.iadd, 1) := by decide +kernel
theorem dL_law_222 : decode cL_law 222 = .ok (.iaload, 1) := by decide +kernel
theorem dL_law_223 : decode cL_law 223 = .ok (.invokevirtual 17, 3) := by decide +kernel
theorem dL_law_226 : decode cL_law 226 = .ok (.if_icmp .eq 1038, 3) := by decide +kernel
theorem dL_law_229 : decode cL_law 229 = .ok (.iconst 0, 1) := by decide +kernel
theorem dL_law_230 : decode cL_law 230 = .ok (.ireturn, 1) := by decide +kernel
theorem dL_law_231 : decode cL_law 231 = .ok (.aload_n 1, 1) := by decide +kernel
theorem dL_law_232 : decode cL_law 232 = .ok (.aload_n 0, 1) := by decide +kernel
theorem dL_law_233 : decode cL_law 233 = .ok (.iload_n 3, 1) := by decide +kernel
theorem dL_law_234 : decode cL_law 234 = .ok (.iconst 1, 1) := by decide +kernel
theorem dL_law_235 : decode cL_law 235 = .ok (.iadd, 1) := by decide +kernel
theorem dL_law_236 : decode cL_law 236 = .ok (.iaload, 1) := by decide +kernel
theorem dL_law_237 : decode cL_law 237 = .ok (.aload_n 0, 1) := by decide +kernel
theorem dL_law_238 : decode cL_law 238 = .ok (.iload_n 3, 1) := by decide +kernel
theorem dL_law_239 : decode cL_law 239 = .ok (.iconst 2, 1) := by decide +kernel
theorem dL_law_240 : decode cL_law 240 = .ok (.iadd, 1) := by decide +kernel
theorem dL_law_241 : decode cL_law 241 = .ok (.iaload, 1) := by decide +kernel
theorem dL_law_242 : decode cL_law 242 = .ok (.aload_n 0, 1) := by decide +kernel
theorem dL_law_243 : decode cL_law 243 = .ok (.iload_n 3, 1) := by decide +kernel
theorem dL_law_244 : decode cL_law 244 = .ok (.iconst 3, 1) := by decide +kernel
theorem dL_law_245 : decode cL_law 245 = .ok (.iadd, 1) := by decide +kernel
theorem dL_law_246 : decode cL_law 246 = .ok (.iaload, 1) := by decide +kernel
theorem dL_law_247 : decode cL_law 247 = .ok (.invokevirtual 18, 3) := by decide +kernel
theorem dL_law_250 : decode cL_law 250 = .ok (.aload_n 2, 1) := by decide +kernel
theorem dL_law_251 : decode cL_law 251 = .ok (.aload_n 0, 1) := by decide +kernel
theorem dL_law_252 : decode cL_law 252 = .ok (.iload_n 3, 1) := by decide +kernel
theorem dL_law_253 : decode cL_law 253 = .ok (.iconst 1, 1) := by decide +kernel
theorem dL_law_254 : decode cL_law 254 = .ok (.iadd, 1) := by decide +kernel
theorem dL_law_255 : decode cL_law 255 = .ok (.iaload, 1) := by decide +kernel
theorem dL_law_256 : decode cL_law 256 = .ok (.aload_n 0, 1) := by decide +kernel
theorem dL_law_257 : decode cL_law 257 = .ok (.iload_n 3, 1) := by decide +kernel
theorem dL_law_258 : decode cL_law 258 = .ok (.iconst 2, 1) := by decide +kernel
theorem dL_law_259 : decode cL_law 259 = .ok (.iadd, 1) := by decide +kernel
theorem dL_law_260 : decode cL_law 260 = .ok (.iaload, 1) := by decide +kernel
theorem dL_law_261 : decode cL_law 261 = .ok (.aload_n 0, 1) := by decide +kernel
theorem dL_law_262 : decode cL_law 262 = .ok (.iload_n 3, 1) := by decide +kernel
theorem dL_law_263 : decode cL_law 263 = .ok (.iconst 3, 1) := by decide +kernel
theorem dL_law_264 : decode cL_law 264 = .ok (.iadd, 1) := by decide +kernel
theorem dL_law_265 : decode cL_law 265 = .ok (.iaload, 1) := by decide +kernel
theorem dL_law_266 : decode cL_law 266 = .ok (.invokevirtual 21, 3) := by decide +kernel
theorem dL_law_269 : decode cL_law 269 = .ok (.if_icmp .eq 995, 3) := by decide +kernel
theorem dL_law_272 : decode cL_law 272 = .ok (.iconst 0, 1) := by decide +kernel
theorem dL_law_273 : decode cL_law 273 = .ok (.ireturn, 1) := by decide +kernel
theorem dL_law_274 : decode cL_law 274 = .ok (.aload_n 1, 1) := by decide +kernel
theorem dL_law_275 : decode cL_law 275 = .ok (.aload_n 0, 1) := by decide +kernel
theorem dL_law_276 : decode cL_law 276 = .ok (.iload_n 3, 1) := by decide +kernel
theorem dL_law_277 : decode cL_law 277 = .ok (.iconst 1, 1) := by decide +kernel
theorem dL_law_278 : decode cL_law 278 = .ok (.iadd, 1) := by decide +kernel
theorem dL_law_279 : decode cL_law 279 = .ok (.iaload, 1) := by decide +kernel
theorem dL_law_280 : decode cL_law 280 = .ok (.aload_n 0, 1) := by decide +kernel
theorem dL_law_281 : decode cL_law 281 = .ok (.iload_n 3, 1) := by decide +kernel
theorem dL_law_282 : decode cL_law 282 = .ok (.iconst 2, 1) := by decide +kernel
theorem dL_law_283 : decode cL_law 283 = .ok (.iadd, 1) := by decide +kernel
theorem dL_law_284 : decode cL_law 284 = .ok (.iaload, 1) := by decide +kernel
theorem dL_law_285 : decode cL_law 285 = .ok (.aload_n 0, 1) := by decide +kernel
theorem dL_law_286 : decode cL_law 286 = .ok (.iload_n 3, 1) := by decide +kernel
theorem dL_law_287 : decode cL_law 287 = .ok (.iconst 3, 1) := by decide +kernel
theorem dL_law_288 : decode cL_law 288 = .ok (.iadd, 1) := by decide +kernel
theorem dL_law_289 : decode cL_law 289 = .ok (.iaload, 1) := by decide +kernel
theorem dL_law_290 : decode cL_law 290 = .ok (.aload_n 0, 1) := by decide +kernel
theorem dL_law_291 : decode cL_law 291 = .ok (.iload_n 3, 1) := by decide +kernel
theorem dL_law_292 : decode cL_law 292 = .ok (.iconst 4, 1) := by decide +kernel
theorem dL_law_293 : decode cL_law 293 = .ok (.iadd, 1) := by decide +kernel
theorem dL_law_294 : decode cL_law 294 = .ok (.iaload, 1) := by decide +kernel
theorem dL_law_295 : decode cL_law 295 = .ok (.aload_n 0, 1) := by decide +kernel
theorem dL_law_296 : decode cL_law 296 = .ok (.iload_n 3, 1) := by decide +kernel
theorem dL_law_297 : decode cL_law 297 = .ok (.iconst 5, 1) := by decide +kernel
theorem dL_law_298 : decode cL_law 298 = .ok (.iadd, 1) := by decide +kernel
theorem dL_law_299 : decode cL_law 299 = .ok (.iaload, 1) := by decide +kernel
theorem dL_law_300 : decode cL_law 300 = .ok (.invokevirtual 22, 3) := by decide +kernel
theorem dL_law_303 : decode cL_law 303 = .ok (.aload_n 2, 1) := by decide +kernel
theorem dL_law_304 : decode cL_law 304 = .ok (.aload_n 0, 1) := by decide +kernel
theorem dL_law_305 : decode cL_law 305 = .ok (.iload_n 3, 1) := by decide +kernel
theorem dL_law_306 : decode cL_law 306 = .ok (.iconst 1, 1) := by decide +kernel
theorem dL_law_307 : decode cL_law 307 = .ok (.iadd, 1) := by decide +kernel
theorem dL_law_308 : decode cL_law 308 = .ok (.iaload, 1) := by decide +kernel
theorem dL_law_309 : decode cL_law 309 = .ok (.aload_n 0, 1) := by decide +kernel
theorem dL_law_310 : decode cL_law 310 = .ok (.iload_n 3, 1) := by decide +kernel
theorem dL_law_311 : decode cL_law 311 = .ok (.iconst 2, 1) := by decide +kernel
theorem dL_law_312 : decode cL_law 312 = .ok (.iadd, 1) := by decide +kernel
theorem dL_law_313 : decode cL_law 313 = .ok (.iaload, 1) := by decide +kernel
theorem dL_law_314 : decode cL_law 314 = .ok (.aload_n 0, 1) := by decide +kernel
theorem dL_law_315 : decode cL_law 315 = .ok (.iload_n 3, 1) := by decide +kernel
theorem dL_law_316 : decode cL_law 316 = .ok (.iconst 3, 1) := by decide +kernel
theorem dL_law_317 : decode cL_law 317 = .ok (.iadd, 1) := by decide +kernel
theorem dL_law_318 : decode cL_law 318 = .ok (.iaload, 1) := by decide +kernel
theorem dL_law_319 : decode cL_law 319 = .ok (.aload_n 0, 1) := by decide +kernel
theorem dL_law_320 : decode cL_law 320 = .ok (.iload_n 3, 1) := by decide +kernel
theorem dL_law_321 : decode cL_law 321 = .ok (.iconst 4, 1) := by decide +kernel
theorem dL_law_322 : decode cL_law 322 = .ok (.iadd, 1) := by decide +kernel
theorem dL_law_323 : decode cL_law 323 = .ok (.iaload, 1) := by decide +kernel
theorem dL_law_324 : decode cL_law 324 = .ok (.aload_n 0, 1) := by decide +kernel
theorem dL_law_325 : decode cL_law 325 = .ok (.iload_n 3, 1) := by decide +kernel
theorem dL_law_326 : decode cL_law 326 = .ok (.iconst 5, 1) := by decide +kernel
theorem dL_law_327 : decode cL_law 327 = .ok (.iadd, 1) := by decide +kernel
theorem dL_law_328 : decode cL_law 328 = .ok (.iaload, 1) := by decide +kernel
theorem dL_law_329 : decode cL_law 329 = .ok (.invokevirtual 26, 3) := by decide +kernel
theorem dL_law_332 : decode cL_law 332 = .ok (.if_icmp .eq 932, 3) := by decide +kernel
theorem dL_law_335 : decode cL_law 335 = .ok (.iconst 0, 1) := by decide +kernel
theorem dL_law_336 : decode cL_law 336 = .ok (.ireturn, 1) := by decide +kernel
theorem dL_law_337 : decode cL_law 337 = .ok (.aload_n 1, 1) := by decide +kernel
theorem dL_law_338 : decode cL_law 338 = .ok (.aload_n 0, 1) := by decide +kernel
theorem dL_law_339 : decode cL_law 339 = .ok (.iload_n 3, 1) := by decide +kernel
theorem dL_law_340 : decode cL_law 340 = .ok (.iconst 1, 1) := by decide +kernel
theorem dL_law_341 : decode cL_law 341 = .ok (.iadd, 1) := by decide +kernel
theorem dL_law_342 : decode cL_law 342 = .ok (.iaload, 1) := by decide +kernel
theorem dL_law_343 : decode cL_law 343 = .ok (.invokevirtual 27, 3) := by decide +kernel
theorem dL_law_346 : decode cL_law 346 = .ok (.aload_n 2, 1) := by decide +kernel
theorem dL_law_347 : decode cL_law 347 = .ok (.aload_n 0, 1) := by decide +kernel
theorem dL_law_348 : decode cL_law 348 = .ok (.iload_n 3, 1) := by decide +kernel
theorem dL_law_349 : decode cL_law 349 = .ok (.iconst 1, 1) := by decide +kernel
theorem dL_law_350 : decode cL_law 350 = .ok (.iadd, 1) := by decide +kernel
theorem dL_law_351 : decode cL_law 351 = .ok (.iaload, 1) := by decide +kernel
theorem dL_law_352 : decode cL_law 352 = .ok (.invokevirtual 31, 3) := by decide +kernel
theorem dL_law_355 : decode cL_law 355 = .ok (.if_icmp .eq 909, 3) := by decide +kernel
theorem dL_law_358 : decode cL_law 358 = .ok (.iconst 0, 1) := by decide +kernel
theorem dL_law_359 : decode cL_law 359 = .ok (.ireturn, 1) := by decide +kernel
theorem dL_law_360 : decode cL_law 360 = .ok (.aload_n 1, 1) := by decide +kernel
theorem dL_law_361 : decode cL_law 361 = .ok (.aload_n 0, 1) := by decide +kernel
theorem dL_law_362 : decode cL_law 362 = .ok (.iload_n 3, 1) := by decide +kernel
theorem dL_law_363 : decode cL_law 363 = .ok (.iconst 1, 1) := by decide +kernel
theorem dL_law_364 : decode cL_law 364 = .ok (.iadd, 1) := by decide +kernel
theorem dL_law_365 : decode cL_law 365 = .ok (.iaload, 1) := by decide +kernel
theorem dL_law_366 : decode cL_law 366 = .ok (.invokevirtual 32, 3) := by decide +kernel
theorem dL_law_369 : decode cL_law 369 = .ok (.aload_n 2, 1) := by decide +kernel
theorem dL_law_370 : decode cL_law 370 = .ok (.aload_n 0, 1) := by decide +kernel
theorem dL_law_371 : decode cL_law 371 = .ok (.iload_n 3, 1) := by decide +kernel
theorem dL_law_372 : decode cL_law 372 = .ok (.iconst 1, 1) := by decide +kernel
theorem dL_law_373 : decode cL_law 373 = .ok (.iadd, 1) := by decide +kernel
theorem dL_law_374 : decode cL_law 374 = .ok (.iaload, 1) := by decide +kernel
theorem dL_law_375 : decode cL_law 375 = .ok (.invokevirtual 35, 3) := by decide +kernel
theorem dL_law_378 : decode cL_law 378 = .ok (.if_icmp .eq 886, 3) := by decide +kernel
theorem dL_law_381 : decode cL_law 381 = .ok (.iconst 0, 1) := by decide +kernel
theorem dL_law_382 : decode cL_law 382 = .ok (.ireturn, 1) := by decide +kernel
theorem dL_law_383 : decode cL_law 383 = .ok (.aload_n 1, 1) := by decide +kernel
theorem dL_law_384 : decode cL_law 384 = .ok (.invokevirtual 36, 3) := by decide +kernel
theorem dL_law_387 : decode cL_law 387 = .ok (.aload_n 2, 1) := by decide +kernel
theorem dL_law_388 : decode cL_law 388 = .ok (.invokevirtual 40, 3) := by decide +kernel
theorem dL_law_391 : decode cL_law 391 = .ok (.if_icmp .eq 873, 3) := by decide +kernel
theorem dL_law_394 : decode cL_law 394 = .ok (.iconst 0, 1) := by decide +kernel
theorem dL_law_395 : decode cL_law 395 = .ok (.ireturn, 1) := by decide +kernel
theorem dL_law_396 : decode cL_law 396 = .ok (.aload_n 1, 1) := by decide +kernel
theorem dL_law_397 : decode cL_law 397 = .ok (.invokevirtual 41, 3) := by decide +kernel
theorem dL_law_400 : decode cL_law 400 = .ok (.aload_n 2, 1) := by decide +kernel
theorem dL_law_401 : decode cL_law 401 = .ok (.invokevirtual 44, 3) := by decide +kernel
theorem dL_law_404 : decode cL_law 404 = .ok (.if_icmp .eq 860, 3) := by decide +kernel
theorem dL_law_407 : decode cL_law 407 = .ok (.iconst 0, 1) := by decide +kernel
theorem dL_law_408 : decode cL_law 408 = .ok (.ireturn, 1) := by decide +kernel
theorem dL_law_409 : decode cL_law 409 = .ok (.aload_n 1, 1) := by decide +kernel
theorem dL_law_410 : decode cL_law 410 = .ok (.aload_n 0, 1) := by decide +kernel
theorem dL_law_411 : decode cL_law 411 = .ok (.iload_n 3, 1) := by decide +kernel
theorem dL_law_412 : decode cL_law 412 = .ok (.iconst 1, 1) := by decide +kernel
theorem dL_law_413 : decode cL_law 413 = .ok (.iadd, 1) := by decide +kernel
theorem dL_law_414 : decode cL_law 414 = .ok (.iaload, 1) := by decide +kernel
theorem dL_law_415 : decode cL_law 415 = .ok (.aload_n 0, 1) := by decide +kernel
theorem dL_law_416 : decode cL_law 416 = .ok (.iload_n 3, 1) := by decide +kernel
theorem dL_law_417 : decode cL_law 417 = .ok (.iconst 2, 1) := by decide +kernel
theorem dL_law_418 : decode cL_law 418 = .ok (.iadd, 1) := by decide +kernel
theorem dL_law_419 : decode cL_law 419 = .ok (.iaload, 1) := by decide +kernel
theorem dL_law_420 : decode cL_law 420 = .ok (.invokevirtual 45, 3) := by decide +kernel
theorem dL_law_423 : decode cL_law 423 = .ok (.aload_n 2, 1) := by decide +kernel
theorem dL_law_424 : decode cL_law 424 = .ok (.aload_n 0, 1) := by decide +kernel
theorem dL_law_425 : decode cL_law 425 = .ok (.iload_n 3, 1) := by decide +kernel
theorem dL_law_426 : decode cL_law 426 = .ok (.iconst 1, 1) := by decide +kernel
theorem dL_law_427 : decode cL_law 427 = .ok (.iadd, 1) := by decide +kernel
theorem dL_law_428 : decode cL_law 428 = .ok (.iaload, 1) := by decide +kernel
theorem dL_law_429 : decode cL_law 429 = .ok (.aload_n 0, 1) := by decide +kernel
theorem dL_law_430 : decode cL_law 430 = .ok (.iload_n 3, 1) := by decide +kernel
theorem dL_law_431 : decode cL_law 431 = .ok (.iconst 2, 1) := by decide +kernel
theorem dL_law_432 : decode cL_law 432 = .ok (.iadd, 1) := by decide +kernel
theorem dL_law_433 : decode cL_law 433 = .ok (.iaload, 1) := by decide +kernel
theorem dL_law_434 : decode cL_law 434 = .ok (.invokevirtual 49, 3) := by decide +kernel
theorem dL_law_437 : decode cL_law 437 = .ok (.if_icmp .eq 827, 3) := by decide +kernel
theorem dL_law_440 : decode cL_law 440 = .ok (.iconst 0, 1) := by decide +kernel
theorem dL_law_441 : decode cL_law 441 = .ok (.ireturn, 1) := by decide +kernel
theorem dL_law_442 : decode cL_law 442 = .ok (.aload_n 1, 1) := by decide +kernel
theorem dL_law_443 : decode cL_law 443 = .ok (.aload_n 0, 1) := by decide +kernel
theorem dL_law_444 : decode cL_law 444 = .ok (.iload_n 3, 1) := by decide +kernel
theorem dL_law_445 : decode cL_law 445 = .ok (.iconst 1, 1) := by decide +kernel
theorem dL_law_446 : decode cL_law 446 = .ok (.iadd, 1) := by decide +kernel
theorem dL_law_447 : decode cL_law 447 = .ok (.iaload, 1) := by decide +kernel
theorem dL_law_448 : decode cL_law 448 = .ok (.aload_n 0, 1) := by decide +kernel
theorem dL_law_449 : decode cL_law 449 = .ok (.iload_n 3, 1) := by decide +kernel
theorem dL_law_450 : decode cL_law 450 = .ok (.iconst 2, 1) := by decide +kernel
theorem dL_law_451 : decode cL_law 451 = .ok (.iadd, 1) := by decide +kernel
theorem dL_law_452 : decode cL_law 452 = .ok (.iaload, 1) := by decide +kernel
theorem dL_law_453 : decode cL_law 453 = .ok (.aload_n 0, 1) := by decide +kernel
theorem dL_law_454 : decode cL_law 454 = .ok (.iload_n 3, 1) := by decide +kernel
theorem dL_law_455 : decode cL_law 455 = .ok (.iconst 3, 1) := by decide +kernel
theorem dL_law_456 : decode cL_law 456 = .ok (.iadd, 1) := by decide +kernel
theorem dL_law_457 : decode cL_law 457 = .ok (.iaload, 1) := by decide +kernel
theorem dL_law_458 : decode cL_law 458 = .ok (.invokevirtual 50, 3) := by decide +kernel
theorem dL_law_461 : decode cL_law 461 = .ok (.aload_n 2, 1) := by decide +kernel
theorem dL_law_462 : decode cL_law 462 = .ok (.aload_n 0, 1) := by decide +kernel
theorem dL_law_463 : decode cL_law 463 = .ok (.iload_n 3, 1) := by decide +kernel
theorem dL_law_464 : decode cL_law 464 = .ok (.iconst 1, 1) := by decide +kernel
theorem dL_law_465 : decode cL_law 465 = .ok (.iadd, 1) := by decide +kernel
theorem dL_law_466 : decode cL_law 466 = .ok (.iaload, 1) := by decide +kernel
theorem dL_law_467 : decode cL_law 467 = .ok (.aload_n 0, 1) := by decide +kernel
theorem dL_law_468 : decode cL_law 468 = .ok (.iload_n 3, 1) := by decide +kernel
theorem dL_law_469 : decode cL_law 469 = .ok (.iconst 2, 1) := by decide +kernel
theorem dL_law_470 : decode cL_law 470 = .ok (.iadd, 1) := by decide +kernel
theorem dL_law_471 : decode cL_law 471 = .ok (.iaload, 1) := by decide +kernel
theorem dL_law_472 : decode cL_law 472 = .ok (.aload_n 0, 1) := by decide +kernel
theorem dL_law_473 : decode cL_law 473 = .ok (.iload_n 3, 1) := by decide +kernel
theorem dL_law_474 : decode cL_law 474 = .ok (.iconst 3, 1) := by decide +kernel
theorem dL_law_475 : decode cL_law 475 = .ok (.iadd, 1) := by decide +kernel
theorem dL_law_476 : decode cL_law 476 = .ok (.iaload, 1) := by decide +kernel
theorem dL_law_477 : decode cL_law 477 = .ok (.invokevirtual 53, 3) := by decide +kernel
theorem dL_law_480 : decode cL_law 480 = .ok (.if_icmp .eq 784, 3) := by decide +kernel
theorem dL_law_483 : decode cL_law 483 = .ok (.iconst 0, 1) := by decide +kernel
theorem dL_law_484 : decode cL_law 484 = .ok (.ireturn, 1) := by decide +kernel
theorem dL_law_485 : decode cL_law 485 = .ok (.aload_n 1, 1) := by decide +kernel
theorem dL_law_486 : decode cL_law 486 = .ok (.aload_n 0, 1) := by decide +kernel
theorem dL_law_487 : decode cL_law 487 = .ok (.iload_n 3, 1) := by decide +kernel
theorem dL_law_488 : decode cL_law 488 = .ok (.iconst 1, 1) := by decide +kernel
theorem dL_law_489 : decode cL_law 489 = .ok (.iadd, 1) := by decide +kernel
theorem dL_law_490 : decode cL_law 490 = .ok (.iaload, 1) := by decide +kernel
theorem dL_law_491 : decode cL_law 491 = .ok (.aload_n 0, 1) := by decide +kernel
theorem dL_law_492 : decode cL_law 492 = .ok (.iload_n 3, 1) := by decide +kernel
theorem dL_law_493 : decode cL_law 493 = .ok (.iconst 2, 1) := by decide +kernel
theorem dL_law_494 : decode cL_law 494 = .ok (.iadd, 1) := by decide +kernel
theorem dL_law_495 : decode cL_law 495 = .ok (.iaload, 1) := by decide +kernel
theorem dL_law_496 : decode cL_law 496 = .ok (.invokevirtual 54, 3) := by decide +kernel
theorem dL_law_499 : decode cL_law 499 = .ok (.aload_n 2, 1) := by decide +kernel
theorem dL_law_500 : decode cL_law 500 = .ok (.aload_n 0, 1) := by decide +kernel
theorem dL_law_501 : decode cL_law 501 = .ok (.iload_n 3, 1) := by decide +kernel
theorem dL_law_502 : decode cL_law 502 = .ok (.iconst 1, 1) := by decide +kernel
theorem dL_law_503 : decode cL_law 503 = .ok (.iadd, 1) := by decide +kernel
theorem dL_law_504 : decode cL_law 504 = .ok (.iaload, 1) := by decide +kernel
theorem dL_law_505 : decode cL_law 505 = .ok (.aload_n 0, 1) := by decide +kernel
theorem dL_law_506 : decode cL_law 506 = .ok (.iload_n 3, 1) := by decide +kernel
theorem dL_law_507 : decode cL_law 507 = .ok (.iconst 2, 1) := by decide +kernel
theorem dL_law_508 : decode cL_law 508 = .ok (.iadd, 1) := by decide +kernel
theorem dL_law_509 : decode cL_law 509 = .ok (.iaload, 1) := by decide +kernel
theorem dL_law_510 : decode cL_law 510 = .ok (.invokevirtual 57, 3) := by decide +kernel
theorem dL_law_513 : decode cL_law 513 = .ok (.if_icmp .eq 751, 3) := by decide +kernel
theorem dL_law_516 : decode cL_law 516 = .ok (.iconst 0, 1) := by decide +kernel
theorem dL_law_517 : decode cL_law 517 = .ok (.ireturn, 1) := by decide +kernel
theorem dL_law_518 : decode cL_law 518 = .ok (.aload_n 1, 1) := by decide +kernel
theorem dL_law_519 : decode cL_law 519 = .ok (.aload_n 0, 1) := by decide +kernel
theorem dL_law_520 : decode cL_law 520 = .ok (.iload_n 3, 1) := by decide +kernel
theorem dL_law_521 : decode cL_law 521 = .ok (.iconst 1, 1) := by decide +kernel
theorem dL_law_522 : decode cL_law 522 = .ok (.iadd, 1) := by decide +kernel
theorem dL_law_523 : decode cL_law 523 = .ok (.iaload, 1) := by decide +kernel
theorem dL_law_524 : decode cL_law 524 = .ok (.invokevirtual 58, 3) := by decide +kernel
theorem dL_law_527 : decode cL_law 527 = .ok (.aload_n 2, 1) := by decide +kernel
theorem dL_law_528 : decode cL_law 528 = .ok (.aload_n 0, 1) := by decide +kernel
theorem dL_law_529 : decode cL_law 529 = .ok (.iload_n 3, 1) := by decide +kernel
theorem dL_law_530 : decode cL_law 530 = .ok (.iconst 1, 1) := by decide +kernel
theorem dL_law_531 : decode cL_law 531 = .ok (.iadd, 1) := by decide +kernel
theorem dL_law_532 : decode cL_law 532 = .ok (.iaload, 1) := by decide +kernel
theorem dL_law_533 : decode cL_law 533 = .ok (.invokevirtual 61, 3) := by decide +kernel
theorem dL_law_536 : decode cL_law 536 = .ok (.if_icmp .eq 728, 3) := by decide +kernel
theorem dL_law_539 : decode cL_law 539 = .ok (.iconst 0, 1) := by decide +kernel
theorem dL_law_540 : decode cL_law 540 = .ok (.ireturn, 1) := by decide +kernel
theorem dL_law_541 : decode cL_law 541 = .ok (.aload_n 1, 1) := by decide +kernel
theorem dL_law_542 : decode cL_law 542 = .ok (.invokevirtual 62, 3) := by decide +kernel
theorem dL_law_545 : decode cL_law 545 = .ok (.aload_n 2, 1) := by decide +kernel
theorem dL_law_546 : decode cL_law 546 = .ok (.invokevirtual 65, 3) := by decide +kernel
theorem dL_law_549 : decode cL_law 549 = .ok (.if_icmp .eq 715, 3) := by decide +kernel
theorem dL_law_552 : decode cL_law 552 = .ok (.iconst 0, 1) := by decide +kernel
theorem dL_law_553 : decode cL_law 553 = .ok (.ireturn, 1) := by decide +kernel
theorem dL_law_554 : decode cL_law 554 = .ok (.aload_n 1, 1) := by decide +kernel
theorem dL_law_555 : decode cL_law 555 = .ok (.invokevirtual 66, 3) := by decide +kernel
theorem dL_law_558 : decode cL_law 558 = .ok (.aload_n 2, 1) := by decide +kernel
theorem dL_law_559 : decode cL_law 559 = .ok (.invokevirtual 69, 3) := by decide +kernel
theorem dL_law_562 : decode cL_law 562 = .ok (.if_icmp .eq 702, 3) := by decide +kernel
theorem dL_law_565 : decode cL_law 565 = .ok (.iconst 0, 1) := by decide +kernel
theorem dL_law_566 : decode cL_law 566 = .ok (.ireturn, 1) := by decide +kernel
theorem dL_law_567 : decode cL_law 567 = .ok (.aload_n 1, 1) := by decide +kernel
theorem dL_law_568 : decode cL_law 568 = .ok (.aload_n 0, 1) := by decide +kernel
theorem dL_law_569 : decode cL_law 569 = .ok (.iload_n 3, 1) := by decide +kernel
theorem dL_law_570 : decode cL_law 570 = .ok (.iconst 1, 1) := by decide +kernel
theorem dL_law_571 : decode cL_law 571 = .ok (.iadd, 1) := by decide +kernel
theorem dL_law_572 : decode cL_law 572 = .ok (.iaload, 1) := by decide +kernel
theorem dL_law_573 : decode cL_law 573 = .ok (.aload_n 0, 1) := by decide +kernel
theorem dL_law_574 : decode cL_law 574 = .ok (.iload_n 3, 1) := by decide +kernel
theorem dL_law_575 : decode cL_law 575 = .ok (.iconst 2, 1) := by decide +kernel
theorem dL_law_576 : decode cL_law 576 = .ok (.iadd, 1) := by decide +kernel
theorem dL_law_577 : decode cL_law 577 = .ok (.iaload, 1) := by decide +kernel
theorem dL_law_578 : decode cL_law 578 = .ok (.invokevirtual 70, 3) := by decide +kernel
theorem dL_law_581 : decode cL_law 581 = .ok (.aload_n 2, 1) := by decide +kernel
theorem dL_law_582 : decode cL_law 582 = .ok (.aload_n 0, 1) := by decide +kernel
theorem dL_law_583 : decode cL_law 583 = .ok (.iload_n 3, 1) := by decide +kernel
theorem dL_law_584 : decode cL_law 584 = .ok (.iconst 1, 1) := by decide +kernel
theorem dL_law_585 : decode cL_law 585 = .ok (.iadd, 1) := by decide +kernel
theorem dL_law_586 : decode cL_law 586 = .ok (.iaload, 1) := by decide +kernel
theorem dL_law_587 : decode cL_law 587 = .ok (.aload_n 0, 1) := by decide +kernel
theorem dL_law_588 : decode cL_law 588 = .ok (.iload_n 3, 1) := by decide +kernel
theorem dL_law_589 : decode cL_law 589 = .ok (.iconst 2, 1) := by decide +kernel
theorem dL_law_590 : decode cL_law 590 = .ok (.iadd, 1) := by decide +kernel
theorem dL_law_591 : decode cL_law 591 = .ok (.iaload, 1) := by decide +kernel
theorem dL_law_592 : decode cL_law 592 = .ok (.invokevirtual 73, 3) := by decide +kernel
theorem dL_law_595 : decode cL_law 595 = .ok (.if_icmp .eq 669, 3) := by decide +kernel
theorem dL_law_598 : decode cL_law 598 = .ok (.iconst 0, 1) := by decide +kernel
theorem dL_law_599 : decode cL_law 599 = .ok (.ireturn, 1) := by decide +kernel
theorem dL_law_600 : decode cL_law 600 = .ok (.aload_n 1, 1) := by decide +kernel
theorem dL_law_601 : decode cL_law 601 = .ok (.aload_n 0, 1) := by decide +kernel
theorem dL_law_602 : decode cL_law 602 = .ok (.iload_n 3, 1) := by decide +kernel
theorem dL_law_603 : decode cL_law 603 = .ok (.iconst 1, 1) := by decide +kernel
theorem dL_law_604 : decode cL_law 604 = .ok (.iadd, 1) := by decide +kernel
theorem dL_law_605 : decode cL_law 605 = .ok (.iaload, 1) := by decide +kernel
theorem dL_law_606 : decode cL_law 606 = .ok (.aload_n 0, 1) := by decide +kernel
theorem dL_law_607 : decode cL_law 607 = .ok (.iload_n 3, 1) := by decide +kernel
theorem dL_law_608 : decode cL_law 608 = .ok (.iconst 2, 1) := by decide +kernel
theorem dL_law_609 : decode cL_law 609 = .ok (.iadd, 1) := by decide +kernel
theorem dL_law_610 : decode cL_law 610 = .ok (.iaload, 1) := by decide +kernel
theorem dL_law_611 : decode cL_law 611 = .ok (.invokevirtual 74, 3) := by decide +kernel
theorem dL_law_614 : decode cL_law 614 = .ok (.aload_n 2, 1) := by decide +kernel
theorem dL_law_615 : decode cL_law 615 = .ok (.aload_n 0, 1) := by decide +kernel
theorem dL_law_616 : decode cL_law 616 = .ok (.iload_n 3, 1) := by decide +kernel
theorem dL_law_617 : decode cL_law 617 = .ok (.iconst 1, 1) := by decide +kernel
theorem dL_law_618 : decode cL_law 618 = .ok (.iadd, 1) := by decide +kernel
theorem dL_law_619 : decode cL_law 619 = .ok (.iaload, 1) := by decide +kernel
theorem dL_law_620 : decode cL_law 620 = .ok (.aload_n 0, 1) := by decide +kernel
theorem dL_law_621 : decode cL_law 621 = .ok (.iload_n 3, 1) := by decide +kernel
theorem dL_law_622 : decode cL_law 622 = .ok (.iconst 2, 1) := by decide +kernel
theorem dL_law_623 : decode cL_law 623 = .ok (.iadd, 1) := by decide +kernel
theorem dL_law_624 : decode cL_law 624 = .ok (.iaload, 1) := by decide +kernel
theorem dL_law_625 : decode cL_law 625 = .ok (.invokevirtual 77, 3) := by decide +kernel
theorem dL_law_628 : decode cL_law 628 = .ok (.if_icmp .eq 636, 3) := by decide +kernel
theorem dL_law_631 : decode cL_law 631 = .ok (.iconst 0, 1) := by decide +kernel
theorem dL_law_632 : decode cL_law 632 = .ok (.ireturn, 1) := by decide +kernel
theorem dL_law_633 : decode cL_law 633 = .ok (.aload_n 1, 1) := by decide +kernel
theorem dL_law_634 : decode cL_law 634 = .ok (.aload_n 0, 1) := by decide +kernel
theorem dL_law_635 : decode cL_law 635 = .ok (.iload_n 3, 1) := by decide +kernel
theorem dL_law_636 : decode cL_law 636 = .ok (.iconst 1, 1) := by decide +kernel
theorem dL_law_637 : decode cL_law 637 = .ok (.iadd, 1) := by decide +kernel
theorem dL_law_638 : decode cL_law 638 = .ok (.iaload, 1) := by decide +kernel
theorem dL_law_639 : decode cL_law 639 = .ok (.aload_n 0, 1) := by decide +kernel
theorem dL_law_640 : decode cL_law 640 = .ok (.iload_n 3, 1) := by decide +kernel
theorem dL_law_641 : decode cL_law 641 = .ok (.iconst 2, 1) := by decide +kernel
theorem dL_law_642 : decode cL_law 642 = .ok (.iadd, 1) := by decide +kernel
theorem dL_law_643 : decode cL_law 643 = .ok (.iaload, 1) := by decide +kernel
theorem dL_law_644 : decode cL_law 644 = .ok (.aload_n 0, 1) := by decide +kernel
theorem dL_law_645 : decode cL_law 645 = .ok (.iload_n 3, 1) := by decide +kernel
theorem dL_law_646 : decode cL_law 646 = .ok (.iconst 3, 1) := by decide +kernel
theorem dL_law_647 : decode cL_law 647 = .ok (.iadd, 1) := by decide +kernel
theorem dL_law_648 : decode cL_law 648 = .ok (.iaload, 1) := by decide +kernel
theorem dL_law_649 : decode cL_law 649 = .ok (.invokevirtual 78, 3) := by decide +kernel
theorem dL_law_652 : decode cL_law 652 = .ok (.aload_n 2, 1) := by decide +kernel
theorem dL_law_653 : decode cL_law 653 = .ok (.aload_n 0, 1) := by decide +kernel
theorem dL_law_654 : decode cL_law 654 = .ok (.iload_n 3, 1) := by decide +kernel
theorem dL_law_655 : decode cL_law 655 = .ok (.iconst 1, 1) := by decide +kernel
theorem dL_law_656 : decode cL_law 656 = .ok (.iadd, 1) := by decide +kernel
theorem dL_law_657 : decode cL_law 657 = .ok (.iaload, 1) := by decide +kernel
theorem dL_law_658 : decode cL_law 658 = .ok (.aload_n 0, 1) := by decide +kernel
theorem dL_law_659 : decode cL_law 659 = .ok (.iload_n 3, 1) := by decide +kernel
theorem dL_law_660 : decode cL_law 660 = .ok (.iconst 2, 1) := by decide +kernel
theorem dL_law_661 : decode cL_law 661 = .ok (.iadd, 1) := by decide +kernel
theorem dL_law_662 : decode cL_law 662 = .ok (.iaload, 1) := by decide +kernel
theorem dL_law_663 : decode cL_law 663 = .ok (.aload_n 0, 1) := by decide +kernel
theorem dL_law_664 : decode cL_law 664 = .ok (.iload_n 3, 1) := by decide +kernel
theorem dL_law_665 : decode cL_law 665 = .ok (.iconst 3, 1) := by decide +kernel
theorem dL_law_666 : decode cL_law 666 = .ok (.iadd, 1) := by decide +kernel
theorem dL_law_667 : decode cL_law 667 = .ok (.iaload, 1) := by decide +kernel
theorem dL_law_668 : decode cL_law 668 = .ok (.invokevirtual 81, 3) := by decide +kernel
theorem dL_law_671 : decode cL_law 671 = .ok (.if_icmp .eq 593, 3) := by decide +kernel
theorem dL_law_674 : decode cL_law 674 = .ok (.iconst 0, 1) := by decide +kernel
theorem dL_law_675 : decode cL_law 675 = .ok (.ireturn, 1) := by decide +kernel
theorem dL_law_676 : decode cL_law 676 = .ok (.aload_n 1, 1) := by decide +kernel
theorem dL_law_677 : decode cL_law 677 = .ok (.aload_n 0, 1) := by decide +kernel
theorem dL_law_678 : decode cL_law 678 = .ok (.iload_n 3, 1) := by decide +kernel
theorem dL_law_679 : decode cL_law 679 = .ok (.iconst 1, 1) := by decide +kernel
theorem dL_law_680 : decode cL_law 680 = .ok (.iadd, 1) := by decide +kernel
theorem dL_law_681 : decode cL_law 681 = .ok (.iaload, 1) := by decide +kernel
theorem dL_law_682 : decode cL_law 682 = .ok (.invokevirtual 82, 3) := by decide +kernel
theorem dL_law_685 : decode cL_law 685 = .ok (.aload_n 2, 1) := by decide +kernel
theorem dL_law_686 : decode cL_law 686 = .ok (.aload_n 0, 1) := by decide +kernel
theorem dL_law_687 : decode cL_law 687 = .ok (.iload_n 3, 1) := by decide +kernel
theorem dL_law_688 : decode cL_law 688 = .ok (.iconst 1, 1) := by decide +kernel
theorem dL_law_689 : decode cL_law 689 = .ok (.iadd, 1) := by decide +kernel
theorem dL_law_690 : decode cL_law 690 = .ok (.iaload, 1) := by decide +kernel
theorem dL_law_691 : decode cL_law 691 = .ok (.invokevirtual 85, 3) := by decide +kernel
theorem dL_law_694 : decode cL_law 694 = .ok (.if_icmp .eq 570, 3) := by decide +kernel
theorem dL_law_697 : decode cL_law 697 = .ok (.iconst 0, 1) := by decide +kernel
theorem dL_law_698 : decode cL_law 698 = .ok (.ireturn, 1) := by decide +kernel
theorem dL_law_699 : decode cL_law 699 = .ok (.aload_n 1, 1) := by decide +kernel
theorem dL_law_700 : decode cL_law 700 = .ok (.aload_n 0, 1) := by decide +kernel
theorem dL_law_701 : decode cL_law 701 = .ok (.iload_n 3, 1) := by decide +kernel
theorem dL_law_702 : decode cL_law 702 = .ok (.iconst 1, 1) := by decide +kernel
theorem dL_law_703 : decode cL_law 703 = .ok (.iadd, 1) := by decide +kernel
theorem dL_law_704 : decode cL_law 704 = .ok (.iaload, 1) := by decide +kernel
theorem dL_law_705 : decode cL_law 705 = .ok (.aload_n 0, 1) := by decide +kernel
theorem dL_law_706 : decode cL_law 706 = .ok (.iload_n 3, 1) := by decide +kernel
theorem dL_law_707 : decode cL_law 707 = .ok (.iconst 2, 1) := by decide +kernel
theorem dL_law_708 : decode cL_law 708 = .ok (.iadd, 1) := by decide +kernel
theorem dL_law_709 : decode cL_law 709 = .ok (.iaload, 1) := by decide +kernel
theorem dL_law_710 : decode cL_law 710 = .ok (.invokevirtual 86, 3) := by decide +kernel
theorem dL_law_713 : decode cL_law 713 = .ok (.aload_n 2, 1) := by decide +kernel
theorem dL_law_714 : decode cL_law 714 = .ok (.aload_n 0, 1) := by decide +kernel
theorem dL_law_715 : decode cL_law 715 = .ok (.iload_n 3, 1) := by decide +kernel
theorem dL_law_716 : decode cL_law 716 = .ok (.iconst 1, 1) := by decide +kernel
theorem dL_law_717 : decode cL_law 717 = .ok (.iadd, 1) := by decide +kernel
theorem dL_law_718 : decode cL_law 718 = .ok (.iaload, 1) := by decide +kernel
theorem dL_law_719 : decode cL_law 719 = .ok (.aload_n 0, 1) := by decide +kernel
theorem dL_law_720 : decode cL_law 720 = .ok (.iload_n 3, 1) := by decide +kernel
theorem dL_law_721 : decode cL_law 721 = .ok (.iconst 2, 1) := by decide +kernel
theorem dL_law_722 : decode cL_law 722 = .ok (.iadd, 1) := by decide +kernel
theorem dL_law_723 : decode cL_law 723 = .ok (.iaload, 1) := by decide +kernel
theorem dL_law_724 : decode cL_law 724 = .ok (.invokevirtual 89, 3) := by decide +kernel
theorem dL_law_727 : decode cL_law 727 = .ok (.if_icmp .eq 537, 3) := by decide +kernel
theorem dL_law_730 : decode cL_law 730 = .ok (.iconst 0, 1) := by decide +kernel
theorem dL_law_731 : decode cL_law 731 = .ok (.ireturn, 1) := by decide +kernel
theorem dL_law_732 : decode cL_law 732 = .ok (.aload_n 1, 1) := by decide +kernel
theorem dL_law_733 : decode cL_law 733 = .ok (.aload_n 0, 1) := by decide +kernel
theorem dL_law_734 : decode cL_law 734 = .ok (.iload_n 3, 1) := by decide +kernel
theorem dL_law_735 : decode cL_law 735 = .ok (.iconst 1, 1) := by decide +kernel
theorem dL_law_736 : decode cL_law 736 = .ok (.iadd, 1) := by decide +kernel
theorem dL_law_737 : decode cL_law 737 = .ok (.iaload, 1) := by decide +kernel
theorem dL_law_738 : decode cL_law 738 = .ok (.aload_n 0, 1) := by decide +kernel
theorem dL_law_739 : decode cL_law 739 = .ok (.iload_n 3, 1) := by decide +kernel
theorem dL_law_740 : decode cL_law 740 = .ok (.iconst 2, 1) := by decide +kernel
theorem dL_law_741 : decode cL_law 741 = .ok (.iadd, 1) := by decide +kernel
theorem dL_law_742 : decode cL_law 742 = .ok (.iaload, 1) := by decide +kernel
theorem dL_law_743 : decode cL_law 743 = .ok (.aload_n 0, 1) := by decide +kernel
theorem dL_law_744 : decode cL_law 744 = .ok (.iload_n 3, 1) := by decide +kernel
theorem dL_law_745 : decode cL_law 745 = .ok (.iconst 3, 1) := by decide +kernel
theorem dL_law_746 : decode cL_law 746 = .ok (.iadd, 1) := by decide +kernel
theorem dL_law_747 : decode cL_law 747 = .ok (.iaload, 1) := by decide +kernel
theorem dL_law_748 : decode cL_law 748 = .ok (.invokevirtual 90, 3) := by decide +kernel
theorem dL_law_751 : decode cL_law 751 = .ok (.aload_n 2, 1) := by decide +kernel
theorem dL_law_752 : decode cL_law 752 = .ok (.aload_n 0, 1) := by decide +kernel
theorem dL_law_753 : decode cL_law 753 = .ok (.iload_n 3, 1) := by decide +kernel
theorem dL_law_754 : decode cL_law 754 = .ok (.iconst 1, 1) := by decide +kernel
theorem dL_law_755 : decode cL_law 755 = .ok (.iadd, 1) := by decide +kernel
theorem dL_law_756 : decode cL_law 756 = .ok (.iaload, 1) := by decide +kernel
theorem dL_law_757 : decode cL_law 757 = .ok (.aload_n 0, 1) := by decide +kernel
theorem dL_law_758 : decode cL_law 758 = .ok (.iload_n 3, 1) := by decide +kernel
theorem dL_law_759 : decode cL_law 759 = .ok (.iconst 2, 1) := by decide +kernel
theorem dL_law_760 : decode cL_law 760 = .ok (.iadd, 1) := by decide +kernel
theorem dL_law_761 : decode cL_law 761 = .ok (.iaload, 1) := by decide +kernel
theorem dL_law_762 : decode cL_law 762 = .ok (.aload_n 0, 1) := by decide +kernel
theorem dL_law_763 : decode cL_law 763 = .ok (.iload_n 3, 1) := by decide +kernel
theorem dL_law_764 : decode cL_law 764 = .ok (.iconst 3, 1) := by decide +kernel
theorem dL_law_765 : decode cL_law 765 = .ok (.iadd, 1) := by decide +kernel
theorem dL_law_766 : decode cL_law 766 = .ok (.iaload, 1) := by decide +kernel
theorem dL_law_767 : decode cL_law 767 = .ok (.invokevirtual 93, 3) := by decide +kernel
theorem dL_law_770 : decode cL_law 770 = .ok (.if_icmp .eq 494, 3) := by decide +kernel
theorem dL_law_773 : decode cL_law 773 = .ok (.iconst 0, 1) := by decide +kernel
theorem dL_law_774 : decode cL_law 774 = .ok (.ireturn, 1) := by decide +kernel
theorem dL_law_775 : decode cL_law 775 = .ok (.aload_n 1, 1) := by decide +kernel
theorem dL_law_776 : decode cL_law 776 = .ok (.aload_n 0, 1) := by decide +kernel
theorem dL_law_777 : decode cL_law 777 = .ok (.iload_n 3, 1) := by decide +kernel
theorem dL_law_778 : decode cL_law 778 = .ok (.iconst 1, 1) := by decide +kernel
theorem dL_law_779 : decode cL_law 779 = .ok (.iadd, 1) := by decide +kernel
theorem dL_law_780 : decode cL_law 780 = .ok (.iaload, 1) := by decide +kernel
theorem dL_law_781 : decode cL_law 781 = .ok (.aload_n 0, 1) := by decide +kernel
theorem dL_law_782 : decode cL_law 782 = .ok (.iload_n 3, 1) := by decide +kernel
theorem dL_law_783 : decode cL_law 783 = .ok (.iconst 2, 1) := by decide +kernel
theorem dL_law_784 : decode cL_law 784 = .ok (.iadd, 1) := by decide +kernel
theorem dL_law_785 : decode cL_law 785 = .ok (.iaload, 1) := by decide +kernel
theorem dL_law_786 : decode cL_law 786 = .ok (.aload_n 0, 1) := by decide +kernel
theorem dL_law_787 : decode cL_law 787 = .ok (.iload_n 3, 1) := by decide +kernel
theorem dL_law_788 : decode cL_law 788 = .ok (.iconst 3, 1) := by decide +kernel
theorem dL_law_789 : decode cL_law 789 = .ok (.iadd, 1) := by decide +kernel
theorem dL_law_790 : decode cL_law 790 = .ok (.iaload, 1) := by decide +kernel
theorem dL_law_791 : decode cL_law 791 = .ok (.invokevirtual 94, 3) := by decide +kernel
theorem dL_law_794 : decode cL_law 794 = .ok (.aload_n 2, 1) := by decide +kernel
theorem dL_law_795 : decode cL_law 795 = .ok (.aload_n 0, 1) := by decide +kernel
theorem dL_law_796 : decode cL_law 796 = .ok (.iload_n 3, 1) := by decide +kernel
theorem dL_law_797 : decode cL_law 797 = .ok (.iconst 1, 1) := by decide +kernel
theorem dL_law_798 : decode cL_law 798 = .ok (.iadd, 1) := by decide +kernel
theorem dL_law_799 : decode cL_law 799 = .ok (.iaload, 1) := by decide +kernel
theorem dL_law_800 : decode cL_law 800 = .ok (.aload_n 0, 1) := by decide +kernel
theorem dL_law_801 : decode cL_law 801 = .ok (.iload_n 3, 1) := by decide +kernel
theorem dL_law_802 : decode cL_law 802 = .ok (.iconst 2, 1) := by decide +kernel
theorem dL_law_803 : decode cL_law 803 = .ok (.iadd, 1) := by decide +kernel
theorem dL_law_804 : decode cL_law 804 = .ok (.iaload, 1) := by decide +kernel
theorem dL_law_805 : decode cL_law 805 = .ok (.aload_n 0, 1) := by decide +kernel
theorem dL_law_806 : decode cL_law 806 = .ok (.iload_n 3, 1) := by decide +kernel
theorem dL_law_807 : decode cL_law 807 = .ok (.iconst 3, 1) := by decide +kernel
theorem dL_law_808 : decode cL_law 808 = .ok (.iadd, 1) := by decide +kernel
theorem dL_law_809 : decode cL_law 809 = .ok (.iaload, 1) := by decide +kernel
theorem dL_law_810 : decode cL_law 810 = .ok (.invokevirtual 97, 3) := by decide +kernel
theorem dL_law_813 : decode cL_law 813 = .ok (.if_icmp .eq 451, 3) := by decide +kernel
theorem dL_law_816 : decode cL_law 816 = .ok (.iconst 0, 1) := by decide +kernel
theorem dL_law_817 : decode cL_law 817 = .ok (.ireturn, 1) := by decide +kernel
theorem dL_law_818 : decode cL_law 818 = .ok (.aload_n 1, 1) := by decide +kernel
theorem dL_law_819 : decode cL_law 819 = .ok (.invokevirtual 98, 3) := by decide +kernel
theorem dL_law_822 : decode cL_law 822 = .ok (.aload_n 2, 1) := by decide +kernel
theorem dL_law_823 : decode cL_law 823 = .ok (.invokevirtual 101, 3) := by decide +kernel
theorem dL_law_826 : decode cL_law 826 = .ok (.if_icmp .eq 438, 3) := by decide +kernel
theorem dL_law_829 : decode cL_law 829 = .ok (.iconst 0, 1) := by decide +kernel
theorem dL_law_830 : decode cL_law 830 = .ok (.ireturn, 1) := by decide +kernel
theorem dL_law_831 : decode cL_law 831 = .ok (.aload_n 1, 1) := by decide +kernel
theorem dL_law_832 : decode cL_law 832 = .ok (.aload_n 0, 1) := by decide +kernel
theorem dL_law_833 : decode cL_law 833 = .ok (.iload_n 3, 1) := by decide +kernel
theorem dL_law_834 : decode cL_law 834 = .ok (.iconst 1, 1) := by decide +kernel
theorem dL_law_835 : decode cL_law 835 = .ok (.iadd, 1) := by decide +kernel
theorem dL_law_836 : decode cL_law 836 = .ok (.iaload, 1) := by decide +kernel
theorem dL_law_837 : decode cL_law 837 = .ok (.invokevirtual 102, 3) := by decide +kernel
theorem dL_law_840 : decode cL_law 840 = .ok (.aload_n 2, 1) := by decide +kernel
theorem dL_law_841 : decode cL_law 841 = .ok (.aload_n 0, 1) := by decide +kernel
theorem dL_law_842 : decode cL_law 842 = .ok (.iload_n 3, 1) := by decide +kernel
theorem dL_law_843 : decode cL_law 843 = .ok (.iconst 1, 1) := by decide +kernel
theorem dL_law_844 : decode cL_law 844 = .ok (.iadd, 1) := by decide +kernel
theorem dL_law_845 : decode cL_law 845 = .ok (.iaload, 1) := by decide +kernel
theorem dL_law_846 : decode cL_law 846 = .ok (.invokevirtual 105, 3) := by decide +kernel
theorem dL_law_849 : decode cL_law 849 = .ok (.if_icmp .eq 415, 3) := by decide +kernel
theorem dL_law_852 : decode cL_law 852 = .ok (.iconst 0, 1) := by decide +kernel
theorem dL_law_853 : decode cL_law 853 = .ok (.ireturn, 1) := by decide +kernel
theorem dL_law_854 : decode cL_law 854 = .ok (.aload_n 1, 1) := by decide +kernel
theorem dL_law_855 : decode cL_law 855 = .ok (.aload_n 0, 1) := by decide +kernel
theorem dL_law_856 : decode cL_law 856 = .ok (.iload_n 3, 1) := by decide +kernel
theorem dL_law_857 : decode cL_law 857 = .ok (.iconst 1, 1) := by decide +kernel
theorem dL_law_858 : decode cL_law 858 = .ok (.iadd, 1) := by decide +kernel
theorem dL_law_859 : decode cL_law 859 = .ok (.iaload, 1) := by decide +kernel
theorem dL_law_860 : decode cL_law 860 = .ok (.invokevirtual 106, 3) := by decide +kernel
theorem dL_law_863 : decode cL_law 863 = .ok (.aload_n 2, 1) := by decide +kernel
theorem dL_law_864 : decode cL_law 864 = .ok (.aload_n 0, 1) := by decide +kernel
theorem dL_law_865 : decode cL_law 865 = .ok (.iload_n 3, 1) := by decide +kernel
theorem dL_law_866 : decode cL_law 866 = .ok (.iconst 1, 1) := by decide +kernel
theorem dL_law_867 : decode cL_law 867 = .ok (.iadd, 1) := by decide +kernel
theorem dL_law_868 : decode cL_law 868 = .ok (.iaload, 1) := by decide +kernel
theorem dL_law_869 : decode cL_law 869 = .ok (.invokevirtual 109, 3) := by decide +kernel
theorem dL_law_872 : decode cL_law 872 = .ok (.if_icmp .eq 392, 3) := by decide +kernel
theorem dL_law_875 : decode cL_law 875 = .ok (.iconst 0, 1) := by decide +kernel
theorem dL_law_876 : decode cL_law 876 = .ok (.ireturn, 1) := by decide +kernel
theorem dL_law_877 : decode cL_law 877 = .ok (.aload_n 1, 1) := by decide +kernel
theorem dL_law_878 : decode cL_law 878 = .ok (.aload_n 0, 1) := by decide +kernel
theorem dL_law_879 : decode cL_law 879 = .ok (.iload_n 3, 1) := by decide +kernel
theorem dL_law_880 : decode cL_law 880 = .ok (.iconst 1, 1) := by decide +kernel
theorem dL_law_881 : decode cL_law 881 = .ok (.iadd, 1) := by decide +kernel
theorem dL_law_882 : decode cL_law 882 = .ok (.iaload, 1) := by decide +kernel
theorem dL_law_883 : decode cL_law 883 = .ok (.aload_n 0, 1) := by decide +kernel
theorem dL_law_884 : decode cL_law 884 = .ok (.iload_n 3, 1) := by decide +kernel
theorem dL_law_885 : decode cL_law 885 = .ok (.iconst 2, 1) := by decide +kernel
theorem dL_law_886 : decode cL_law 886 = .ok (.iadd, 1) := by decide +kernel
theorem dL_law_887 : decode cL_law 887 = .ok (.iaload, 1) := by decide +kernel
theorem dL_law_888 : decode cL_law 888 = .ok (.aload_n 0, 1) := by decide +kernel
theorem dL_law_889 : decode cL_law 889 = .ok (.iload_n 3, 1) := by decide +kernel
theorem dL_law_890 : decode cL_law 890 = .ok (.iconst 3, 1) := by decide +kernel
theorem dL_law_891 : decode cL_law 891 = .ok (.iadd, 1) := by decide +kernel
theorem dL_law_892 : decode cL_law 892 = .ok (.iaload, 1) := by decide +kernel
theorem dL_law_893 : decode cL_law 893 = .ok (.invokevirtual 110, 3) := by decide +kernel
theorem dL_law_896 : decode cL_law 896 = .ok (.aload_n 2, 1) := by decide +kernel
theorem dL_law_897 : decode cL_law 897 = .ok (.aload_n 0, 1) := by decide +kernel
theorem dL_law_898 : decode cL_law 898 = .ok (.iload_n 3, 1) := by decide +kernel
theorem dL_law_899 : decode cL_law 899 = .ok (.iconst 1, 1) := by decide +kernel
theorem dL_law_900 : decode cL_law 900 = .ok (.iadd, 1) := by decide +kernel
theorem dL_law_901 : decode cL_law 901 = .ok (.iaload, 1) := by decide +kernel
theorem dL_law_902 : decode cL_law 902 = .ok (.aload_n 0, 1) := by decide +kernel
theorem dL_law_903 : decode cL_law 903 = .ok (.iload_n 3, 1) := by decide +kernel
theorem dL_law_904 : decode cL_law 904 = .ok (.iconst 2, 1) := by decide +kernel
theorem dL_law_905 : decode cL_law 905 = .ok (.iadd, 1) := by decide +kernel
theorem dL_law_906 : decode cL_law 906 = .ok (.iaload, 1) := by decide +kernel
theorem dL_law_907 : decode cL_law 907 = .ok (.aload_n 0, 1) := by decide +kernel
theorem dL_law_908 : decode cL_law 908 = .ok (.iload_n 3, 1) := by decide +kernel
theorem dL_law_909 : decode cL_law 909 = .ok (.iconst 3, 1) := by decide +kernel
theorem dL_law_910 : decode cL_law 910 = .ok (.iadd, 1) := by decide +kernel
theorem dL_law_911 : decode cL_law 911 = .ok (.iaload, 1) := by decide +kernel
theorem dL_law_912 : decode cL_law 912 = .ok (.invokevirtual 113, 3) := by decide +kernel
theorem dL_law_915 : decode cL_law 915 = .ok (.if_icmp .eq 349, 3) := by decide +kernel
theorem dL_law_918 : decode cL_law 918 = .ok (.iconst 0, 1) := by decide +kernel
theorem dL_law_919 : decode cL_law 919 = .ok (.ireturn, 1) := by decide +kernel
theorem dL_law_920 : decode cL_law 920 = .ok (.aload_n 1, 1) := by decide +kernel
theorem dL_law_921 : decode cL_law 921 = .ok (.aload_n 0, 1) := by decide +kernel
theorem dL_law_922 : decode cL_law 922 = .ok (.iload_n 3, 1) := by decide +kernel
theorem dL_law_923 : decode cL_law 923 = .ok (.iconst 1, 1) := by decide +kernel
theorem dL_law_924 : decode cL_law 924 = .ok (.iadd, 1) := by decide +kernel
theorem dL_law_925 : decode cL_law 925 = .ok (.iaload, 1) := by decide +kernel
theorem dL_law_926 : decode cL_law 926 = .ok (.aload_n 0, 1) := by decide +kernel
theorem dL_law_927 : decode cL_law 927 = .ok (.iload_n 3, 1) := by decide +kernel
theorem dL_law_928 : decode cL_law 928 = .ok (.iconst 2, 1) := by decide +kernel
theorem dL_law_929 : decode cL_law 929 = .ok (.iadd, 1) := by decide +kernel
theorem dL_law_930 : decode cL_law 930 = .ok (.iaload, 1) := by decide +kernel
theorem dL_law_931 : decode cL_law 931 = .ok (.aload_n 0, 1) := by decide +kernel
theorem dL_law_932 : decode cL_law 932 = .ok (.iload_n 3, 1) := by decide +kernel
theorem dL_law_933 : decode cL_law 933 = .ok (.iconst 3, 1) := by decide +kernel
theorem dL_law_934 : decode cL_law 934 = .ok (.iadd, 1) := by decide +kernel
theorem dL_law_935 : decode cL_law 935 = .ok (.iaload, 1) := by decide +kernel
theorem dL_law_936 : decode cL_law 936 = .ok (.invokevirtual 114, 3) := by decide +kernel
theorem dL_law_939 : decode cL_law 939 = .ok (.aload_n 2, 1) := by decide +kernel
theorem dL_law_940 : decode cL_law 940 = .ok (.aload_n 0, 1) := by decide +kernel
theorem dL_law_941 : decode cL_law 941 = .ok (.iload_n 3, 1) := by decide +kernel
theorem dL_law_942 : decode cL_law 942 = .ok (.iconst 1, 1) := by decide +kernel
theorem dL_law_943 : decode cL_law 943 = .ok (.iadd, 1) := by decide +kernel
theorem dL_law_944 : decode cL_law 944 = .ok (.iaload, 1) := by decide +kernel
theorem dL_law_945 : decode cL_law 945 = .ok (.aload_n 0, 1) := by decide +kernel
theorem dL_law_946 : decode cL_law 946 = .ok (.iload_n 3, 1) := by decide +kernel
theorem dL_law_947 : decode cL_law 947 = .ok (.iconst 2, 1) := by decide +kernel
theorem dL_law_948 : decode cL_law 948 = .ok (.iadd, 1) := by decide +kernel
theorem dL_law_949 : decode cL_law 949 = .ok (.iaload, 1) := by decide +kernel
theorem dL_law_950 : decode cL_law 950 = .ok (.aload_n 0, 1) := by decide +kernel
theorem dL_law_951 : decode cL_law 951 = .ok (.iload_n 3, 1) := by decide +kernel
theorem dL_law_952 : decode cL_law 952 = .ok (.iconst 3, 1) := by decide +kernel
theorem dL_law_953 : decode cL_law 953 = .ok (.iadd, 1) := by decide +kernel
theorem dL_law_954 : decode cL_law 954 = .ok (.iaload, 1) := by decide +kernel
theorem dL_law_955 : decode cL_law 955 = .ok (.invokevirtual 117, 3) := by decide +kernel
theorem dL_law_958 : decode cL_law 958 = .ok (.if_icmp .eq 306, 3) := by decide +kernel
theorem dL_law_961 : decode cL_law 961 = .ok (.iconst 0, 1) := by decide +kernel
theorem dL_law_962 : decode cL_law 962 = .ok (.ireturn, 1) := by decide +kernel
theorem dL_law_963 : decode cL_law 963 = .ok (.aload_n 1, 1) := by decide +kernel
theorem dL_law_964 : decode cL_law 964 = .ok (.aload_n 0, 1) := by decide +kernel
theorem dL_law_965 : decode cL_law 965 = .ok (.iload_n 3, 1) := by decide +kernel
theorem dL_law_966 : decode cL_law 966 = .ok (.iconst 1, 1) := by decide +kernel
theorem dL_law_967 : decode cL_law 967 = .ok (.iadd, 1) := by decide +kernel
theorem dL_law_968 : decode cL_law 968 = .ok (.iaload, 1) := by decide +kernel
theorem dL_law_969 : decode cL_law 969 = .ok (.aload_n 0, 1) := by decide +kernel
theorem dL_law_970 : decode cL_law 970 = .ok (.iload_n 3, 1) := by decide +kernel
theorem dL_law_971 : decode cL_law 971 = .ok (.iconst 2, 1) := by decide +kernel
theorem dL_law_972 : decode cL_law 972 = .ok (.iadd, 1) := by decide +kernel
theorem dL_law_973 : decode cL_law 973 = .ok (.iaload, 1) := by decide +kernel
theorem dL_law_974 : decode cL_law 974 = .ok (.aload_n 0, 1) := by decide +kernel
theorem dL_law_975 : decode cL_law 975 = .ok (.iload_n 3, 1) := by decide +kernel
theorem dL_law_976 : decode cL_law 976 = .ok (.iconst 3, 1) := by decide +kernel
theorem dL_law_977 : decode cL_law 977 = .ok (.iadd, 1) := by decide +kernel
theorem dL_law_978 : decode cL_law 978 = .ok (.iaload, 1) := by decide +kernel
theorem dL_law_979 : decode cL_law 979 = .ok (.aload_n 0, 1) := by decide +kernel
theorem dL_law_980 : decode cL_law 980 = .ok (.iload_n 3, 1) := by decide +kernel
theorem dL_law_981 : decode cL_law 981 = .ok (.iconst 4, 1) := by decide +kernel
theorem dL_law_982 : decode cL_law 982 = .ok (.iadd, 1) := by decide +kernel
theorem dL_law_983 : decode cL_law 983 = .ok (.iaload, 1) := by decide +kernel
theorem dL_law_984 : decode cL_law 984 = .ok (.invokevirtual 118, 3) := by decide +kernel
theorem dL_law_987 : decode cL_law 987 = .ok (.aload_n 2, 1) := by decide +kernel
theorem dL_law_988 : decode cL_law 988 = .ok (.aload_n 0, 1) := by decide +kernel
theorem dL_law_989 : decode cL_law 989 = .ok (.iload_n 3, 1) := by decide +kernel
theorem dL_law_990 : decode cL_law 990 = .ok (.iconst 1, 1) := by decide +kernel
theorem dL_law_991 : decode cL_law 991 = .ok (.iadd, 1) := by decide +kernel
theorem dL_law_992 : decode cL_law 992 = .ok (.iaload, 1) := by decide +kernel
theorem dL_law_993 : decode cL_law 993 = .ok (.aload_n 0, 1) := by decide +kernel
theorem dL_law_994 : decode cL_law 994 = .ok (.iload_n 3, 1) := by decide +kernel
theorem dL_law_995 : decode cL_law 995 = .ok (.iconst 2, 1) := by decide +kernel
theorem dL_law_996 : decode cL_law 996 = .ok (.iadd, 1) := by decide +kernel
theorem dL_law_997 : decode cL_law 997 = .ok (.iaload, 1) := by decide +kernel
theorem dL_law_998 : decode cL_law 998 = .ok (.aload_n 0, 1) := by decide +kernel
theorem dL_law_999 : decode cL_law 999 = .ok (.iload_n 3, 1) := by decide +kernel
theorem dL_law_1000 : decode cL_law 1000 = .ok (.iconst 3, 1) := by decide +kernel
theorem dL_law_1001 : decode cL_law 1001 = .ok (.iadd, 1) := by decide +kernel
theorem dL_law_1002 : decode cL_law 1002 = .ok (.iaload, 1) := by decide +kernel
theorem dL_law_1003 : decode cL_law 1003 = .ok (.aload_n 0, 1) := by decide +kernel
theorem dL_law_1004 : decode cL_law 1004 = .ok (.iload_n 3, 1) := by decide +kernel
theorem dL_law_1005 : decode cL_law 1005 = .ok (.iconst 4, 1) := by decide +kernel
theorem dL_law_1006 : decode cL_law 1006 = .ok (.iadd, 1) := by decide +kernel
theorem dL_law_1007 : decode cL_law 1007 = .ok (.iaload, 1) := by decide +kernel
theorem dL_law_1008 : decode cL_law 1008 = .ok (.invokevirtual 122, 3) := by decide +kernel
theorem dL_law_1011 : decode cL_law 1011 = .ok (.if_icmp .eq 253, 3) := by decide +kernel
theorem dL_law_1014 : decode cL_law 1014 = .ok (.iconst 0, 1) := by decide +kernel
theorem dL_law_1015 : decode cL_law 1015 = .ok (.ireturn, 1) := by decide +kernel
theorem dL_law_1016 : decode cL_law 1016 = .ok (.aload_n 1, 1) := by decide +kernel
theorem dL_law_1017 : decode cL_law 1017 = .ok (.aload_n 0, 1) := by decide +kernel
theorem dL_law_1018 : decode cL_law 1018 = .ok (.iload_n 3, 1) := by decide +kernel
theorem dL_law_1019 : decode cL_law 1019 = .ok (.iconst 1, 1) := by decide +kernel
theorem dL_law_1020 : decode cL_law 1020 = .ok (.iadd, 1) := by decide +kernel
theorem dL_law_1021 : decode cL_law 1021 = .ok (.iaload, 1) := by decide +kernel
theorem dL_law_1022 : decode cL_law 1022 = .ok (.aload_n 0, 1) := by decide +kernel
theorem dL_law_1023 : decode cL_law 1023 = .ok (.iload_n 3, 1) := by decide +kernel
theorem dL_law_1024 : decode cL_law 1024 = .ok (.iconst 2, 1) := by decide +kernel
theorem dL_law_1025 : decode cL_law 1025 = .ok (.iadd, 1) := by decide +kernel
theorem dL_law_1026 : decode cL_law 1026 = .ok (.iaload, 1) := by decide +kernel
theorem dL_law_1027 : decode cL_law 1027 = .ok (.aload_n 0, 1) := by decide +kernel
theorem dL_law_1028 : decode cL_law 1028 = .ok (.iload_n 3, 1) := by decide +kernel
theorem dL_law_1029 : decode cL_law 1029 = .ok (.iconst 3, 1) := by decide +kernel
theorem dL_law_1030 : decode cL_law 1030 = .ok (.iadd, 1) := by decide +kernel
theorem dL_law_1031 : decode cL_law 1031 = .ok (.iaload, 1) := by decide +kernel
theorem dL_law_1032 : decode cL_law 1032 = .ok (.aload_n 0, 1) := by decide +kernel
theorem dL_law_1033 : decode cL_law 1033 = .ok (.iload_n 3, 1) := by decide +kernel
theorem dL_law_1034 : decode cL_law 1034 = .ok (.iconst 4, 1) := by decide +kernel
theorem dL_law_1035 : decode cL_law 1035 = .ok (.iadd, 1) := by decide +kernel
theorem dL_law_1036 : decode cL_law 1036 = .ok (.iaload, 1) := by decide +kernel
theorem dL_law_1037 : decode cL_law 1037 = .ok (.invokevirtual 123, 3) := by decide +kernel
theorem dL_law_1040 : decode cL_law 1040 = .ok (.aload_n 2, 1) := by decide +kernel
theorem dL_law_1041 : decode cL_law 1041 = .ok (.aload_n 0, 1) := by decide +kernel
theorem dL_law_1042 : decode cL_law 1042 = .ok (.iload_n 3, 1) := by decide +kernel
theorem dL_law_1043 : decode cL_law 1043 = .ok (.iconst 1, 1) := by decide +kernel
theorem dL_law_1044 : decode cL_law 1044 = .ok (.iadd, 1) := by decide +kernel
theorem dL_law_1045 : decode cL_law 1045 = .ok (.iaload, 1) := by decide +kernel
theorem dL_law_1046 : decode cL_law 1046 = .ok (.aload_n 0, 1) := by decide +kernel
theorem dL_law_1047 : decode cL_law 1047 = .ok (.iload_n 3, 1) := by decide +kernel
theorem dL_law_1048 : decode cL_law 1048 = .ok (.iconst 2, 1) := by decide +kernel
theorem dL_law_1049 : decode cL_law 1049 = .ok (.iadd, 1) := by decide +kernel
theorem dL_law_1050 : decode cL_law 1050 = .ok (.iaload, 1) := by decide +kernel
theorem dL_law_1051 : decode cL_law 1051 = .ok (.aload_n 0, 1) := by decide +kernel
theorem dL_law_1052 : decode cL_law 1052 = .ok (.iload_n 3, 1) := by decide +kernel
theorem dL_law_1053 : decode cL_law 1053 = .ok (.iconst 3, 1) := by decide +kernel
theorem dL_law_1054 : decode cL_law 1054 = .ok (.iadd, 1) := by decide +kernel
theorem dL_law_1055 : decode cL_law 1055 = .ok (.iaload, 1) := by decide +kernel
theorem dL_law_1056 : decode cL_law 1056 = .ok (.aload_n 0, 1) := by decide +kernel
theorem dL_law_1057 : decode cL_law 1057 = .ok (.iload_n 3, 1) := by decide +kernel
theorem dL_law_1058 : decode cL_law 1058 = .ok (.iconst 4, 1) := by decide +kernel
theorem dL_law_1059 : decode cL_law 1059 = .ok (.iadd, 1) := by decide +kernel
theorem dL_law_1060 : decode cL_law 1060 = .ok (.iaload, 1) := by decide +kernel
theorem dL_law_1061 : decode cL_law 1061 = .ok (.invokevirtual 127, 3) := by decide +kernel
theorem dL_law_1064 : decode cL_law 1064 = .ok (.lcmp, 1) := by decide +kernel
theorem dL_law_1065 : decode cL_law 1065 = .ok (.ifCond .eq 199, 3) := by decide +kernel
theorem dL_law_1068 : decode cL_law 1068 = .ok (.iconst 0, 1) := by decide +kernel
theorem dL_law_1069 : decode cL_law 1069 = .ok (.ireturn, 1) := by decide +kernel
theorem dL_law_1070 : decode cL_law 1070 = .ok (.aload_n 1, 1) := by decide +kernel
theorem dL_law_1071 : decode cL_law 1071 = .ok (.aload_n 0, 1) := by decide +kernel
theorem dL_law_1072 : decode cL_law 1072 = .ok (.iload_n 3, 1) := by decide +kernel
theorem dL_law_1073 : decode cL_law 1073 = .ok (.iconst 1, 1) := by decide +kernel
theorem dL_law_1074 : decode cL_law 1074 = .ok (.iadd, 1) := by decide +kernel
theorem dL_law_1075 : decode cL_law 1075 = .ok (.iaload, 1) := by decide +kernel
theorem dL_law_1076 : decode cL_law 1076 = .ok (.invokevirtual 128, 3) := by decide +kernel
theorem dL_law_1079 : decode cL_law 1079 = .ok (.aload_n 2, 1) := by decide +kernel
theorem dL_law_1080 : decode cL_law 1080 = .ok (.aload_n 0, 1) := by decide +kernel
theorem dL_law_1081 : decode cL_law 1081 = .ok (.iload_n 3, 1) := by decide +kernel
theorem dL_law_1082 : decode cL_law 1082 = .ok (.iconst 1, 1) := by decide +kernel
theorem dL_law_1083 : decode cL_law 1083 = .ok (.iadd, 1) := by decide +kernel
theorem dL_law_1084 : decode cL_law 1084 = .ok (.iaload, 1) := by decide +kernel
theorem dL_law_1085 : decode cL_law 1085 = .ok (.invokevirtual 131, 3) := by decide +kernel
theorem dL_law_1088 : decode cL_law 1088 = .ok (.if_icmp .eq 176, 3) := by decide +kernel
theorem dL_law_1091 : decode cL_law 1091 = .ok (.iconst 0, 1) := by decide +kernel
theorem dL_law_1092 : decode cL_law 1092 = .ok (.ireturn, 1) := by decide +kernel
theorem dL_law_1093 : decode cL_law 1093 = .ok (.aload_n 1, 1) := by decide +kernel
theorem dL_law_1094 : decode cL_law 1094 = .ok (.aload_n 0, 1) := by decide +kernel
theorem dL_law_1095 : decode cL_law 1095 = .ok (.iload_n 3, 1) := by decide +kernel
theorem dL_law_1096 : decode cL_law 1096 = .ok (.iconst 1, 1) := by decide +kernel
theorem dL_law_1097 : decode cL_law 1097 = .ok (.iadd, 1) := by decide +kernel
theorem dL_law_1098 : decode cL_law 1098 = .ok (.iaload, 1) := by decide +kernel
theorem dL_law_1099 : decode cL_law 1099 = .ok (.invokevirtual 132, 3) := by decide +kernel
theorem dL_law_1102 : decode cL_law 1102 = .ok (.aload_n 2, 1) := by decide +kernel
theorem dL_law_1103 : decode cL_law 1103 = .ok (.aload_n 0, 1) := by decide +kernel
theorem dL_law_1104 : decode cL_law 1104 = .ok (.iload_n 3, 1) := by decide +kernel
theorem dL_law_1105 : decode cL_law 1105 = .ok (.iconst 1, 1) := by decide +kernel
theorem dL_law_1106 : decode cL_law 1106 = .ok (.iadd, 1) := by decide +kernel
theorem dL_law_1107 : decode cL_law 1107 = .ok (.iaload, 1) := by decide +kernel
theorem dL_law_1108 : decode cL_law 1108 = .ok (.invokevirtual 135, 3) := by decide +kernel
theorem dL_law_1111 : decode cL_law 1111 = .ok (.if_icmp .eq 153, 3) := by decide +kernel
theorem dL_law_1114 : decode cL_law 1114 = .ok (.iconst 0, 1) := by decide +kernel
theorem dL_law_1115 : decode cL_law 1115 = .ok (.ireturn, 1) := by decide +kernel
theorem dL_law_1116 : decode cL_law 1116 = .ok (.aload_n 1, 1) := by decide +kernel
theorem dL_law_1117 : decode cL_law 1117 = .ok (.aload_n 0, 1) := by decide +kernel
theorem dL_law_1118 : decode cL_law 1118 = .ok (.iload_n 3, 1) := by decide +kernel
theorem dL_law_1119 : decode cL_law 1119 = .ok (.iconst 1, 1) := by decide +kernel
theorem dL_law_1120 : decode cL_law 1120 = .ok (.iadd, 1) := by decide +kernel
theorem dL_law_1121 : decode cL_law 1121 = .ok (.iaload, 1) := by decide +kernel
theorem dL_law_1122 : decode cL_law 1122 = .ok (.invokevirtual 136, 3) := by decide +kernel
theorem dL_law_1125 : decode cL_law 1125 = .ok (.aload_n 2, 1) := by decide +kernel
theorem dL_law_1126 : decode cL_law 1126 = .ok (.aload_n 0, 1) := by decide +kernel
theorem dL_law_1127 : decode cL_law 1127 = .ok (.iload_n 3, 1) := by decide +kernel
theorem dL_law_1128 : decode cL_law 1128 = .ok (.iconst 1, 1) := by decide +kernel
theorem dL_law_1129 : decode cL_law 1129 = .ok (.iadd, 1) := by decide +kernel
theorem dL_law_1130 : decode cL_law 1130 = .ok (.iaload, 1) := by decide +kernel
theorem dL_law_1131 : decode cL_law 1131 = .ok (.invokevirtual 139, 3) := by decide +kernel
theorem dL_law_1134 : decode cL_law 1134 = .ok (.if_icmp .eq 130, 3) := by decide +kernel
theorem dL_law_1137 : decode cL_law 1137 = .ok (.iconst 0, 1) := by decide +kernel
theorem dL_law_1138 : decode cL_law 1138 = .ok (.ireturn, 1) := by decide +kernel
theorem dL_law_1139 : decode cL_law 1139 = .ok (.aload_n 1, 1) := by decide +kernel
theorem dL_law_1140 : decode cL_law 1140 = .ok (.aload_n 0, 1) := by decide +kernel
theorem dL_law_1141 : decode cL_law 1141 = .ok (.iload_n 3, 1) := by decide +kernel
theorem dL_law_1142 : decode cL_law 1142 = .ok (.iconst 1, 1) := by decide +kernel
theorem dL_law_1143 : decode cL_law 1143 = .ok (.iadd, 1) := by decide +kernel
theorem dL_law_1144 : decode cL_law 1144 = .ok (.iaload, 1) := by decide +kernel
theorem dL_law_1145 : decode cL_law 1145 = .ok (.aload_n 0, 1) := by decide +kernel
theorem dL_law_1146 : decode cL_law 1146 = .ok (.iload_n 3, 1) := by decide +kernel
theorem dL_law_1147 : decode cL_law 1147 = .ok (.iconst 2, 1) := by decide +kernel
theorem dL_law_1148 : decode cL_law 1148 = .ok (.iadd, 1) := by decide +kernel
theorem dL_law_1149 : decode cL_law 1149 = .ok (.iaload, 1) := by decide +kernel
theorem dL_law_1150 : decode cL_law 1150 = .ok (.invokevirtual 140, 3) := by decide +kernel
theorem dL_law_1153 : decode cL_law 1153 = .ok (.aload_n 2, 1) := by decide +kernel
theorem dL_law_1154 : decode cL_law 1154 = .ok (.aload_n 0, 1) := by decide +kernel
theorem dL_law_1155 : decode cL_law 1155 = .ok (.iload_n 3, 1) := by decide +kernel
theorem dL_law_1156 : decode cL_law 1156 = .ok (.iconst 1, 1) := by decide +kernel
theorem dL_law_1157 : decode cL_law 1157 = .ok (.iadd, 1) := by decide +kernel
theorem dL_law_1158 : decode cL_law 1158 = .ok (.iaload, 1) := by decide +kernel
theorem dL_law_1159 : decode cL_law 1159 = .ok (.aload_n 0, 1) := by decide +kernel
theorem dL_law_1160 : decode cL_law 1160 = .ok (.iload_n 3, 1) := by decide +kernel
theorem dL_law_1161 : decode cL_law 1161 = .ok (.iconst 2, 1) := by decide +kernel
theorem dL_law_1162 : decode cL_law 1162 = .ok (.iadd, 1) := by decide +kernel
theorem dL_law_1163 : decode cL_law 1163 = .ok (.iaload, 1) := by decide +kernel
theorem dL_law_1164 : decode cL_law 1164 = .ok (.invokevirtual 143, 3) := by decide +kernel
theorem dL_law_1167 : decode cL_law 1167 = .ok (.if_icmp .eq 97, 3) := by decide +kernel
theorem dL_law_1170 : decode cL_law 1170 = .ok (.iconst 0, 1) := by decide +kernel
theorem dL_law_1171 : decode cL_law 1171 = .ok (.ireturn, 1) := by decide +kernel
theorem dL_law_1172 : decode cL_law 1172 = .ok (.aload_n 1, 1) := by decide +kernel
theorem dL_law_1173 : decode cL_law 1173 = .ok (.aload_n 0, 1) := by decide +kernel
theorem dL_law_1174 : decode cL_law 1174 = .ok (.iload_n 3, 1) := by decide +kernel
theorem dL_law_1175 : decode cL_law 1175 = .ok (.iconst 1, 1) := by decide +kernel
theorem dL_law_1176 : decode cL_law 1176 = .ok (.iadd, 1) := by decide +kernel
theorem dL_law_1177 : decode cL_law 1177 = .ok (.iaload, 1) := by decide +kernel
theorem dL_law_1178 : decode cL_law 1178 = .ok (.aload_n 0, 1) := by decide +kernel
theorem dL_law_1179 : decode cL_law 1179 = .ok (.iload_n 3, 1) := by decide +kernel
theorem dL_law_1180 : decode cL_law 1180 = .ok (.iconst 2, 1) := by decide +kernel
theorem dL_law_1181 : decode cL_law 1181 = .ok (.iadd, 1) := by decide +kernel
theorem dL_law_1182 : decode cL_law 1182 = .ok (.iaload, 1) := by decide +kernel
theorem dL_law_1183 : decode cL_law 1183 = .ok (.invokevirtual 144, 3) := by decide +kernel
theorem dL_law_1186 : decode cL_law 1186 = .ok (.aload_n 2, 1) := by decide +kernel
theorem dL_law_1187 : decode cL_law 1187 = .ok (.aload_n 0, 1) := by decide +kernel
theorem dL_law_1188 : decode cL_law 1188 = .ok (.iload_n 3, 1) := by decide +kernel
theorem dL_law_1189 : decode cL_law 1189 = .ok (.iconst 1, 1) := by decide +kernel
theorem dL_law_1190 : decode cL_law 1190 = .ok (.iadd, 1) := by decide +kernel
theorem dL_law_1191 : decode cL_law 1191 = .ok (.iaload, 1) := by decide +kernel
theorem dL_law_1192 : decode cL_law 1192 = .ok (.aload_n 0, 1) := by decide +kernel
theorem dL_law_1193 : decode cL_law 1193 = .ok (.iload_n 3, 1) := by decide +kernel
theorem dL_law_1194 : decode cL_law 1194 = .ok (.iconst 2, 1) := by decide +kernel
theorem dL_law_1195 : decode cL_law 1195 = .ok (.iadd, 1) := by decide +kernel
theorem dL_law_1196 : decode cL_law 1196 = .ok (.iaload, 1) := by decide +kernel
theorem dL_law_1197 : decode cL_law 1197 = .ok (.invokevirtual 147, 3) := by decide +kernel
theorem dL_law_1200 : decode cL_law 1200 = .ok (.if_icmp .eq 64, 3) := by decide +kernel
theorem dL_law_1203 : decode cL_law 1203 = .ok (.iconst 0, 1) := by decide +kernel
theorem dL_law_1204 : decode cL_law 1204 = .ok (.ireturn, 1) := by decide +kernel
theorem dL_law_1205 : decode cL_law 1205 = .ok (.aload_n 1, 1) := by decide +kernel
theorem dL_law_1206 : decode cL_law 1206 = .ok (.aload_n 0, 1) := by decide +kernel
theorem dL_law_1207 : decode cL_law 1207 = .ok (.iload_n 3, 1) := by decide +kernel
theorem dL_law_1208 : decode cL_law 1208 = .ok (.iconst 1, 1) := by decide +kernel
theorem dL_law_1209 : decode cL_law 1209 = .ok (.iadd, 1) := by decide +kernel
theorem dL_law_1210 : decode cL_law 1210 = .ok (.iaload, 1) := by decide +kernel
theorem dL_law_1211 : decode cL_law 1211 = .ok (.invokevirtual 148, 3) := by decide +kernel
theorem dL_law_1214 : decode cL_law 1214 = .ok (.aload_n 2, 1) := by decide +kernel
theorem dL_law_1215 : decode cL_law 1215 = .ok (.aload_n 0, 1) := by decide +kernel
theorem dL_law_1216 : decode cL_law 1216 = .ok (.iload_n 3, 1) := by decide +kernel
theorem dL_law_1217 : decode cL_law 1217 = .ok (.iconst 1, 1) := by decide +kernel
theorem dL_law_1218 : decode cL_law 1218 = .ok (.iadd, 1) := by decide +kernel
theorem dL_law_1219 : decode cL_law 1219 = .ok (.iaload, 1) := by decide +kernel
theorem dL_law_1220 : decode cL_law 1220 = .ok (.invokevirtual 151, 3) := by decide +kernel
theorem dL_law_1223 : decode cL_law 1223 = .ok (.if_icmp .eq 41, 3) := by decide +kernel
theorem dL_law_1226 : decode cL_law 1226 = .ok (.iconst 0, 1) := by decide +kernel
theorem dL_law_1227 : decode cL_law 1227 = .ok (.ireturn, 1) := by decide +kernel
theorem dL_law_1228 : decode cL_law 1228 = .ok (.aload_n 1, 1) := by decide +kernel
theorem dL_law_1229 : decode cL_law 1229 = .ok (.aload_n 0, 1) := by decide +kernel
theorem dL_law_1230 : decode cL_law 1230 = .ok (.iload_n 3, 1) := by decide +kernel
theorem dL_law_1231 : decode cL_law 1231 = .ok (.iconst 1, 1) := by decide +kernel
theorem dL_law_1232 : decode cL_law 1232 = .ok (.iadd, 1) := by decide +kernel
theorem dL_law_1233 : decode cL_law 1233 = .ok (.iaload, 1) := by decide +kernel
theorem dL_law_1234 : decode cL_law 1234 = .ok (.invokevirtual 152, 3) := by decide +kernel
theorem dL_law_1237 : decode cL_law 1237 = .ok (.aload_n 2, 1) := by decide +kernel
theorem dL_law_1238 : decode cL_law 1238 = .ok (.aload_n 0, 1) := by decide +kernel
theorem dL_law_1239 : decode cL_law 1239 = .ok (.iload_n 3, 1) := by decide +kernel
theorem dL_law_1240 : decode cL_law 1240 = .ok (.iconst 1, 1) := by decide +kernel
theorem dL_law_1241 : decode cL_law 1241 = .ok (.iadd, 1) := by decide +kernel
theorem dL_law_1242 : decode cL_law 1242 = .ok (.iaload, 1) := by decide +kernel
theorem dL_law_1243 : decode cL_law 1243 = .ok (.invokevirtual 155, 3) := by decide +kernel
theorem dL_law_1246 : decode cL_law 1246 = .ok (.if_icmp .eq 18, 3) := by decide +kernel
theorem dL_law_1249 : decode cL_law 1249 = .ok (.iconst 0, 1) := by decide +kernel
theorem dL_law_1250 : decode cL_law 1250 = .ok (.ireturn, 1) := by decide +kernel
theorem dL_law_1251 : decode cL_law 1251 = .ok (.aload_n 1, 1) := by decide +kernel
theorem dL_law_1252 : decode cL_law 1252 = .ok (.invokevirtual 156, 3) := by decide +kernel
theorem dL_law_1255 : decode cL_law 1255 = .ok (.aload_n 2, 1) := by decide +kernel
theorem dL_law_1256 : decode cL_law 1256 = .ok (.invokevirtual 159, 3) := by decide +kernel
theorem dL_law_1259 : decode cL_law 1259 = .ok (.if_icmp .eq 5, 3) := by decide +kernel
theorem dL_law_1262 : decode cL_law 1262 = .ok (.iconst 0, 1) := by decide +kernel
theorem dL_law_1263 : decode cL_law 1263 = .ok (.ireturn, 1) := by decide +kernel
theorem dL_law_1264 : decode cL_law 1264 = .ok (.iinc 3 6, 3) := by decide +kernel
theorem dL_law_1267 : decode cL_law 1267 = .ok (.goto (-1249), 3) := by decide +kernel
theorem dL_law_1270 : decode cL_law 1270 = .ok (.iconst 1, 1) := by decide +kernel
theorem dL_law_1271 : decode cL_law 1271 = .ok (.ireturn, 1) := by decide +kernel
