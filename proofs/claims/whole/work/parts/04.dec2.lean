theorem dX8_disturb_15 : decode cX8_disturb 15 = .ok (.iaload, 1) := by decide +kernel
theorem dX8_disturb_16 : decode cX8_disturb 16 = .ok (.iload_n 2, 1) := by decide +kernel
theorem dX8_disturb_17 : decode cX8_disturb 17 = .ok (.ishr, 1) := by decide +kernel
theorem dX8_disturb_18 : decode cX8_disturb 18 = .ok (.iconst 1, 1) := by decide +kernel
theorem dX8_disturb_19 : decode cX8_disturb 19 = .ok (.iand, 1) := by decide +kernel
theorem dX8_disturb_20 : decode cX8_disturb 20 = .ok (.ifCond .ne 13, 3) := by decide +kernel
theorem dX8_disturb_23 : decode cX8_disturb 23 = .ok (.aload_n 1, 1) := by decide +kernel
theorem dX8_disturb_24 : decode cX8_disturb 24 = .ok (.bipush 61, 2) := by decide +kernel
theorem dX8_disturb_26 : decode cX8_disturb 26 = .ok (.dup2, 1) := by decide +kernel
theorem dX8_disturb_27 : decode cX8_disturb 27 = .ok (.iaload, 1) := by decide +kernel
theorem dX8_disturb_28 : decode cX8_disturb 28 = .ok (.iconst 1, 1) := by decide +kernel
theorem dX8_disturb_29 : decode cX8_disturb 29 = .ok (.iload_n 2, 1) := by decide +kernel
theorem dX8_disturb_30 : decode cX8_disturb 30 = .ok (.ishl, 1) := by decide +kernel
theorem dX8_disturb_31 : decode cX8_disturb 31 = .ok (.ior, 1) := by decide +kernel
theorem dX8_disturb_32 : decode cX8_disturb 32 = .ok (.iastore, 1) := by decide +kernel
theorem dX8_disturb_33 : decode cX8_disturb 33 = .ok (.aload_n 0, 1) := by decide +kernel
theorem dX8_disturb_34 : decode cX8_disturb 34 = .ok (.aload_n 0, 1) := by decide +kernel
theorem dX8_disturb_35 : decode cX8_disturb 35 = .ok (.getfield 12, 3) := by decide +kernel
theorem dX8_disturb_38 : decode cX8_disturb 38 = .ok (.getfield 56, 3) := by decide +kernel
theorem dX8_disturb_41 : decode cX8_disturb 41 = .ok (.invokevirtual 128, 3) := by decide +kernel
theorem dX8_disturb_44 : decode cX8_disturb 44 = .ok (.istore_n 3, 1) := by decide +kernel
theorem dX8_disturb_45 : decode cX8_disturb 45 = .ok (.aload_n 1, 1) := by decide +kernel
theorem dX8_disturb_46 : decode cX8_disturb 46 = .ok (.bipush 40, 2) := by decide +kernel
theorem dX8_disturb_48 : decode cX8_disturb 48 = .ok (.iload_n 3, 1) := by decide +kernel
theorem dX8_disturb_49 : decode cX8_disturb 49 = .ok (.iadd, 1) := by decide +kernel
theorem dX8_disturb_50 : decode cX8_disturb 50 = .ok (.aload_n 0, 1) := by decide +kernel
theorem dX8_disturb_51 : decode cX8_disturb 51 = .ok (.bipush 21, 2) := by decide +kernel
theorem dX8_disturb_53 : decode cX8_disturb 53 = .ok (.invokevirtual 128, 3) := by decide +kernel
theorem dX8_disturb_56 : decode cX8_disturb 56 = .ok (.iastore, 1) := by decide +kernel
theorem dX8_disturb_57 : decode cX8_disturb 57 = .ok (.return_, 1) := by decide +kernel
theorem dX8_draw_0 : decode cX8_draw 0 = .ok (.aload_n 0, 1) := by decide +kernel
theorem dX8_draw_1 : decode cX8_draw 1 = .ok (.aload_n 0, 1) := by decide +kernel
theorem dX8_draw_2 : decode cX8_draw 2 = .ok (.getfield 28, 3) := by decide +kernel
theorem dX8_draw_5 : decode cX8_draw 5 = .ok (.ldc 131, 2) := by decide +kernel
theorem dX8_draw_7 : decode cX8_draw 7 = .ok (.imul, 1) := by decide +kernel
theorem dX8_draw_8 : decode cX8_draw 8 = .ok (.sipush 12345, 3) := by decide +kernel
theorem dX8_draw_11 : decode cX8_draw 11 = .ok (.iadd, 1) := by decide +kernel
theorem dX8_draw_12 : decode cX8_draw 12 = .ok (.putfield 28, 3) := by decide +kernel
theorem dX8_draw_15 : decode cX8_draw 15 = .ok (.iload_n 1, 1) := by decide +kernel
theorem dX8_draw_16 : decode cX8_draw 16 = .ok (.ifCond .gt 7, 3) := by decide +kernel
theorem dX8_draw_19 : decode cX8_draw 19 = .ok (.iconst 0, 1) := by decide +kernel
theorem dX8_draw_20 : decode cX8_draw 20 = .ok (.goto 16, 3) := by decide +kernel
theorem dX8_draw_23 : decode cX8_draw 23 = .ok (.aload_n 0, 1) := by decide +kernel
theorem dX8_draw_24 : decode cX8_draw 24 = .ok (.getfield 28, 3) := by decide +kernel
theorem dX8_draw_27 : decode cX8_draw 27 = .ok (.bipush 16, 2) := by decide +kernel
theorem dX8_draw_29 : decode cX8_draw 29 = .ok (.iushr, 1) := by decide +kernel
theorem dX8_draw_30 : decode cX8_draw 30 = .ok (.sipush 32767, 3) := by decide +kernel
theorem dX8_draw_33 : decode cX8_draw 33 = .ok (.iand, 1) := by decide +kernel
theorem dX8_draw_34 : decode cX8_draw 34 = .ok (.iload_n 1, 1) := by decide +kernel
theorem dX8_draw_35 : decode cX8_draw 35 = .ok (.irem, 1) := by decide +kernel
theorem dX8_draw_36 : decode cX8_draw 36 = .ok (.ireturn, 1) := by decide +kernel
theorem dX9_init_0 : decode cX9_init 0 = .ok (.aload_n 0, 1) := by decide +kernel
theorem dX9_init_1 : decode cX9_init 1 = .ok (.invokespecial 3, 3) := by decide +kernel
theorem dX9_init_4 : decode cX9_init 4 = .ok (.aload_n 0, 1) := by decide +kernel
theorem dX9_init_5 : decode cX9_init 5 = .ok (.sipush 700, 3) := by decide +kernel
theorem dX9_init_8 : decode cX9_init 8 = .ok (.newarray .byte, 2) := by decide +kernel
theorem dX9_init_10 : decode cX9_init 10 = .ok (.putfield 9, 3) := by decide +kernel
theorem dX9_init_13 : decode cX9_init 13 = .ok (.aload_n 0, 1) := by decide +kernel
theorem dX9_init_14 : decode cX9_init 14 = .ok (.iconst 0, 1) := by decide +kernel
theorem dX9_init_15 : decode cX9_init 15 = .ok (.putfield 15, 3) := by decide +kernel
theorem dX9_init_18 : decode cX9_init 18 = .ok (.aload_n 0, 1) := by decide +kernel
theorem dX9_init_19 : decode cX9_init 19 = .ok (.iconst 0, 1) := by decide +kernel
theorem dX9_init_20 : decode cX9_init 20 = .ok (.putfield 19, 3) := by decide +kernel
theorem dX9_init_23 : decode cX9_init 23 = .ok (.aload_n 0, 1) := by decide +kernel
theorem dX9_init_24 : decode cX9_init 24 = .ok (.iconst 0, 1) := by decide +kernel
theorem dX9_init_25 : decode cX9_init 25 = .ok (.putfield 22, 3) := by decide +kernel
theorem dX9_init_28 : decode cX9_init 28 = .ok (.aload_n 0, 1) := by decide +kernel
theorem dX9_init_29 : decode cX9_init 29 = .ok (.iconst 0, 1) := by decide +kernel
theorem dX9_init_30 : decode cX9_init 30 = .ok (.putfield 25, 3) := by decide +kernel
theorem dX9_init_33 : decode cX9_init 33 = .ok (.aload_n 0, 1) := by decide +kernel
theorem dX9_init_34 : decode cX9_init 34 = .ok (.iconst 0, 1) := by decide +kernel
theorem dX9_init_35 : decode cX9_init 35 = .ok (.putfield 28, 3) := by decide +kernel
theorem dX9_init_38 : decode cX9_init 38 = .ok (.aload_n 0, 1) := by decide +kernel
theorem dX9_init_39 : decode cX9_init 39 = .ok (.iconst 0, 1) := by decide +kernel
theorem dX9_init_40 : decode cX9_init 40 = .ok (.putfield 31, 3) := by decide +kernel
theorem dX9_init_43 : decode cX9_init 43 = .ok (.return_, 1) := by decide +kernel
theorem dX9_add_0 : decode cX9_add 0 = .ok (.bipush 24, 2) := by decide +kernel
theorem dX9_add_2 : decode cX9_add 2 = .ok (.istore_n 2, 1) := by decide +kernel
theorem dX9_add_3 : decode cX9_add 3 = .ok (.iload_n 2, 1) := by decide +kernel
theorem dX9_add_4 : decode cX9_add 4 = .ok (.ifCond .lt 42, 3) := by decide +kernel
theorem dX9_add_7 : decode cX9_add 7 = .ok (.aload_n 0, 1) := by decide +kernel
theorem dX9_add_8 : decode cX9_add 8 = .ok (.getfield 15, 3) := by decide +kernel
theorem dX9_add_11 : decode cX9_add 11 = .ok (.sipush 700, 3) := by decide +kernel
theorem dX9_add_14 : decode cX9_add 14 = .ok (.if_icmp .ge 26, 3) := by decide +kernel
theorem dX9_add_17 : decode cX9_add 17 = .ok (.aload_n 0, 1) := by decide +kernel
theorem dX9_add_18 : decode cX9_add 18 = .ok (.getfield 9, 3) := by decide +kernel
theorem dX9_add_21 : decode cX9_add 21 = .ok (.aload_n 0, 1) := by decide +kernel
theorem dX9_add_22 : decode cX9_add 22 = .ok (.getfield 15, 3) := by decide +kernel
theorem dX9_add_25 : decode cX9_add 25 = .ok (.iload_n 1, 1) := by decide +kernel
theorem dX9_add_26 : decode cX9_add 26 = .ok (.iload_n 2, 1) := by decide +kernel
theorem dX9_add_27 : decode cX9_add 27 = .ok (.iushr, 1) := by decide +kernel
theorem dX9_add_28 : decode cX9_add 28 = .ok (.i2b, 1) := by decide +kernel
theorem dX9_add_29 : decode cX9_add 29 = .ok (.bastore, 1) := by decide +kernel
theorem dX9_add_30 : decode cX9_add 30 = .ok (.aload_n 0, 1) := by decide +kernel
theorem dX9_add_31 : decode cX9_add 31 = .ok (.dup, 1) := by decide +kernel
theorem dX9_add_32 : decode cX9_add 32 = .ok (.getfield 15, 3) := by decide +kernel
theorem dX9_add_35 : decode cX9_add 35 = .ok (.iconst 1, 1) := by decide +kernel
theorem dX9_add_36 : decode cX9_add 36 = .ok (.iadd, 1) := by decide +kernel
theorem dX9_add_37 : decode cX9_add 37 = .ok (.putfield 15, 3) := by decide +kernel
theorem dX9_add_40 : decode cX9_add 40 = .ok (.iinc 2 (-8), 3) := by decide +kernel
theorem dX9_add_43 : decode cX9_add 43 = .ok (.goto (-40), 3) := by decide +kernel
theorem dX9_add_46 : decode cX9_add 46 = .ok (.return_, 1) := by decide +kernel
theorem dX9_begin_0 : decode cX9_begin 0 = .ok (.aload_n 0, 1) := by decide +kernel
theorem dX9_begin_1 : decode cX9_begin 1 = .ok (.iload_n 1, 1) := by decide +kernel
theorem dX9_begin_2 : decode cX9_begin 2 = .ok (.aload_n 0, 1) := by decide +kernel
theorem dX9_begin_3 : decode cX9_begin 3 = .ok (.getfield 15, 3) := by decide +kernel
theorem dX9_begin_6 : decode cX9_begin 6 = .ok (.invokestatic 34, 3) := by decide +kernel
theorem dX9_begin_9 : decode cX9_begin 9 = .ok (.putfield 19, 3) := by decide +kernel
theorem dX9_begin_12 : decode cX9_begin 12 = .ok (.aload_n 0, 1) := by decide +kernel
theorem dX9_begin_13 : decode cX9_begin 13 = .ok (.iconst 0, 1) := by decide +kernel
theorem dX9_begin_14 : decode cX9_begin 14 = .ok (.putfield 25, 3) := by decide +kernel
theorem dX9_begin_17 : decode cX9_begin 17 = .ok (.return_, 1) := by decide +kernel
theorem dX9_next_0 : decode cX9_next 0 = .ok (.aload_n 0, 1) := by decide +kernel
theorem dX9_next_1 : decode cX9_next 1 = .ok (.aload_n 0, 1) := by decide +kernel
theorem dX9_next_2 : decode cX9_next 2 = .ok (.getfield 25, 3) := by decide +kernel
theorem dX9_next_5 : decode cX9_next 5 = .ok (.putfield 22, 3) := by decide +kernel
theorem dX9_next_8 : decode cX9_next 8 = .ok (.aload_n 0, 1) := by decide +kernel
theorem dX9_next_9 : decode cX9_next 9 = .ok (.getfield 22, 3) := by decide +kernel
theorem dX9_next_12 : decode cX9_next 12 = .ok (.aload_n 0, 1) := by decide +kernel
theorem dX9_next_13 : decode cX9_next 13 = .ok (.getfield 19, 3) := by decide +kernel
theorem dX9_next_16 : decode cX9_next 16 = .ok (.if_icmp .ge 31, 3) := by decide +kernel
theorem dX9_next_19 : decode cX9_next 19 = .ok (.aload_n 0, 1) := by decide +kernel
theorem dX9_next_20 : decode cX9_next 20 = .ok (.getfield 9, 3) := by decide +kernel
theorem dX9_next_23 : decode cX9_next 23 = .ok (.aload_n 0, 1) := by decide +kernel
theorem dX9_next_24 : decode cX9_next 24 = .ok (.getfield 22, 3) := by decide +kernel
theorem dX9_next_27 : decode cX9_next 27 = .ok (.baload, 1) := by decide +kernel
theorem dX9_next_28 : decode cX9_next 28 = .ok (.invokestatic 40, 3) := by decide +kernel
theorem dX9_next_31 : decode cX9_next 31 = .ok (.ifCond .eq 16, 3) := by decide +kernel
theorem dX9_next_34 : decode cX9_next 34 = .ok (.aload_n 0, 1) := by decide +kernel
theorem dX9_next_35 : decode cX9_next 35 = .ok (.dup, 1) := by decide +kernel
theorem dX9_next_36 : decode cX9_next 36 = .ok (.getfield 22, 3) := by decide +kernel
theorem dX9_next_39 : decode cX9_next 39 = .ok (.iconst 1, 1) := by decide +kernel
theorem dX9_next_40 : decode cX9_next 40 = .ok (.iadd, 1) := by decide +kernel
theorem dX9_next_41 : decode cX9_next 41 = .ok (.putfield 22, 3) := by decide +kernel
theorem dX9_next_44 : decode cX9_next 44 = .ok (.goto (-36), 3) := by decide +kernel
theorem dX9_next_47 : decode cX9_next 47 = .ok (.aload_n 0, 1) := by decide +kernel
theorem dX9_next_48 : decode cX9_next 48 = .ok (.aload_n 0, 1) := by decide +kernel
theorem dX9_next_49 : decode cX9_next 49 = .ok (.getfield 22, 3) := by decide +kernel
theorem dX9_next_52 : decode cX9_next 52 = .ok (.putfield 25, 3) := by decide +kernel
theorem dX9_next_55 : decode cX9_next 55 = .ok (.aload_n 0, 1) := by decide +kernel
theorem dX9_next_56 : decode cX9_next 56 = .ok (.getfield 22, 3) := by decide +kernel
theorem dX9_next_59 : decode cX9_next 59 = .ok (.aload_n 0, 1) := by decide +kernel
theorem dX9_next_60 : decode cX9_next 60 = .ok (.getfield 19, 3) := by decide +kernel
theorem dX9_next_63 : decode cX9_next 63 = .ok (.if_icmp .lt 11, 3) := by decide +kernel
theorem dX9_next_66 : decode cX9_next 66 = .ok (.aload_n 0, 1) := by decide +kernel
theorem dX9_next_67 : decode cX9_next 67 = .ok (.iconst 0, 1) := by decide +kernel
theorem dX9_next_68 : decode cX9_next 68 = .ok (.putfield 28, 3) := by decide +kernel
theorem dX9_next_71 : decode cX9_next 71 = .ok (.goto 89, 3) := by decide +kernel
theorem dX9_next_74 : decode cX9_next 74 = .ok (.aload_n 0, 1) := by decide +kernel
theorem dX9_next_75 : decode cX9_next 75 = .ok (.getfield 9, 3) := by decide +kernel
theorem dX9_next_78 : decode cX9_next 78 = .ok (.aload_n 0, 1) := by decide +kernel
theorem dX9_next_79 : decode cX9_next 79 = .ok (.getfield 22, 3) := by decide +kernel
theorem dX9_next_82 : decode cX9_next 82 = .ok (.baload, 1) := by decide +kernel
theorem dX9_next_83 : decode cX9_next 83 = .ok (.invokestatic 44, 3) := by decide +kernel
theorem dX9_next_86 : decode cX9_next 86 = .ok (.ifCond .eq 10, 3) := by decide +kernel
theorem dX9_next_89 : decode cX9_next 89 = .ok (.aload_n 0, 1) := by decide +kernel
theorem dX9_next_90 : decode cX9_next 90 = .ok (.invokevirtual 47, 3) := by decide +kernel
theorem dX9_next_93 : decode cX9_next 93 = .ok (.goto 67, 3) := by decide +kernel
theorem dX9_next_96 : decode cX9_next 96 = .ok (.aload_n 0, 1) := by decide +kernel
theorem dX9_next_97 : decode cX9_next 97 = .ok (.getfield 9, 3) := by decide +kernel
theorem dX9_next_100 : decode cX9_next 100 = .ok (.aload_n 0, 1) := by decide +kernel
theorem dX9_next_101 : decode cX9_next 101 = .ok (.getfield 22, 3) := by decide +kernel
theorem dX9_next_104 : decode cX9_next 104 = .ok (.baload, 1) := by decide +kernel
theorem dX9_next_105 : decode cX9_next 105 = .ok (.invokestatic 50, 3) := by decide +kernel
theorem dX9_next_108 : decode cX9_next 108 = .ok (.ifCond .eq 10, 3) := by decide +kernel
theorem dX9_next_111 : decode cX9_next 111 = .ok (.aload_n 0, 1) := by decide +kernel
theorem dX9_next_112 : decode cX9_next 112 = .ok (.invokevirtual 53, 3) := by decide +kernel
theorem dX9_next_115 : decode cX9_next 115 = .ok (.goto 45, 3) := by decide +kernel
theorem dX9_next_118 : decode cX9_next 118 = .ok (.aload_n 0, 1) := by decide +kernel
theorem dX9_next_119 : decode cX9_next 119 = .ok (.aload_n 0, 1) := by decide +kernel
theorem dX9_next_120 : decode cX9_next 120 = .ok (.getfield 9, 3) := by decide +kernel
theorem dX9_next_123 : decode cX9_next 123 = .ok (.aload_n 0, 1) := by decide +kernel
theorem dX9_next_124 : decode cX9_next 124 = .ok (.getfield 22, 3) := by decide +kernel
theorem dX9_next_127 : decode cX9_next 127 = .ok (.baload, 1) := by decide +kernel
theorem dX9_next_128 : decode cX9_next 128 = .ok (.invokestatic 56, 3) := by decide +kernel
theorem dX9_next_131 : decode cX9_next 131 = .ok (.ifCond .eq 15, 3) := by decide +kernel
theorem dX9_next_134 : decode cX9_next 134 = .ok (.aload_n 0, 1) := by decide +kernel
theorem dX9_next_135 : decode cX9_next 135 = .ok (.getfield 9, 3) := by decide +kernel
theorem dX9_next_138 : decode cX9_next 138 = .ok (.aload_n 0, 1) := by decide +kernel
theorem dX9_next_139 : decode cX9_next 139 = .ok (.getfield 22, 3) := by decide +kernel
theorem dX9_next_142 : decode cX9_next 142 = .ok (.baload, 1) := by decide +kernel
theorem dX9_next_143 : decode cX9_next 143 = .ok (.goto 4, 3) := by decide +kernel
theorem dX9_next_146 : decode cX9_next 146 = .ok (.iconst 3, 1) := by decide +kernel
theorem dX9_next_147 : decode cX9_next 147 = .ok (.putfield 28, 3) := by decide +kernel
theorem dX9_next_150 : decode cX9_next 150 = .ok (.aload_n 0, 1) := by decide +kernel
theorem dX9_next_151 : decode cX9_next 151 = .ok (.aload_n 0, 1) := by decide +kernel
theorem dX9_next_152 : decode cX9_next 152 = .ok (.getfield 22, 3) := by decide +kernel
theorem dX9_next_155 : decode cX9_next 155 = .ok (.iconst 1, 1) := by decide +kernel
theorem dX9_next_156 : decode cX9_next 156 = .ok (.iadd, 1) := by decide +kernel
theorem dX9_next_157 : decode cX9_next 157 = .ok (.putfield 25, 3) := by decide +kernel
theorem dX9_next_160 : decode cX9_next 160 = .ok (.return_, 1) := by decide +kernel
theorem dX9_isWord_0 : decode cX9_isWord 0 = .ok (.aload_n 0, 1) := by decide +kernel
theorem dX9_isWord_1 : decode cX9_isWord 1 = .ok (.getfield 28, 3) := by decide +kernel
theorem dX9_isWord_4 : decode cX9_isWord 4 = .ok (.iconst 1, 1) := by decide +kernel
theorem dX9_isWord_5 : decode cX9_isWord 5 = .ok (.if_icmp .ne 19, 3) := by decide +kernel
theorem dX9_isWord_8 : decode cX9_isWord 8 = .ok (.aload_n 0, 1) := by decide +kernel
theorem dX9_isWord_9 : decode cX9_isWord 9 = .ok (.getfield 25, 3) := by decide +kernel
theorem dX9_isWord_12 : decode cX9_isWord 12 = .ok (.aload_n 0, 1) := by decide +kernel
theorem dX9_isWord_13 : decode cX9_isWord 13 = .ok (.getfield 22, 3) := by decide +kernel
theorem dX9_isWord_16 : decode cX9_isWord 16 = .ok (.isub, 1) := by decide +kernel
theorem dX9_isWord_17 : decode cX9_isWord 17 = .ok (.aload_n 1, 1) := by decide +kernel
theorem dX9_isWord_18 : decode cX9_isWord 18 = .ok (.invokevirtual 59, 3) := by decide +kernel
theorem dX9_isWord_21 : decode cX9_isWord 21 = .ok (.if_icmp .eq 5, 3) := by decide +kernel
theorem dX9_isWord_24 : decode cX9_isWord 24 = .ok (.iconst 0, 1) := by decide +kernel
theorem dX9_isWord_25 : decode cX9_isWord 25 = .ok (.ireturn, 1) := by decide +kernel
theorem dX9_isWord_26 : decode cX9_isWord 26 = .ok (.iconst 0, 1) := by decide +kernel
theorem dX9_isWord_27 : decode cX9_isWord 27 = .ok (.istore_n 2, 1) := by decide +kernel
theorem dX9_isWord_28 : decode cX9_isWord 28 = .ok (.iload_n 2, 1) := by decide +kernel
theorem dX9_isWord_29 : decode cX9_isWord 29 = .ok (.aload_n 1, 1) := by decide +kernel
theorem dX9_isWord_30 : decode cX9_isWord 30 = .ok (.invokevirtual 59, 3) := by decide +kernel
theorem dX9_isWord_33 : decode cX9_isWord 33 = .ok (.if_icmp .ge 30, 3) := by decide +kernel
theorem dX9_isWord_36 : decode cX9_isWord 36 = .ok (.aload_n 0, 1) := by decide +kernel
theorem dX9_isWord_37 : decode cX9_isWord 37 = .ok (.getfield 9, 3) := by decide +kernel
theorem dX9_isWord_40 : decode cX9_isWord 40 = .ok (.aload_n 0, 1) := by decide +kernel
theorem dX9_isWord_41 : decode cX9_isWord 41 = .ok (.getfield 22, 3) := by decide +kernel
theorem dX9_isWord_44 : decode cX9_isWord 44 = .ok (.iload_n 2, 1) := by decide +kernel
theorem dX9_isWord_45 : decode cX9_isWord 45 = .ok (.iadd, 1) := by decide +kernel
theorem dX9_isWord_46 : decode cX9_isWord 46 = .ok (.baload, 1) := by decide +kernel
theorem dX9_isWord_47 : decode cX9_isWord 47 = .ok (.aload_n 1, 1) := by decide +kernel
theorem dX9_isWord_48 : decode cX9_isWord 48 = .ok (.iload_n 2, 1) := by decide +kernel
theorem dX9_isWord_49 : decode cX9_isWord 49 = .ok (.invokevirtual 65, 3) := by decide +kernel
theorem dX9_isWord_52 : decode cX9_isWord 52 = .ok (.if_icmp .eq 5, 3) := by decide +kernel
theorem dX9_isWord_55 : decode cX9_isWord 55 = .ok (.iconst 0, 1) := by decide +kernel
theorem dX9_isWord_56 : decode cX9_isWord 56 = .ok (.ireturn, 1) := by decide +kernel
theorem dX9_isWord_57 : decode cX9_isWord 57 = .ok (.iinc 2 1, 3) := by decide +kernel
theorem dX9_isWord_60 : decode cX9_isWord 60 = .ok (.goto (-32), 3) := by decide +kernel
theorem dX9_isWord_63 : decode cX9_isWord 63 = .ok (.iconst 1, 1) := by decide +kernel
theorem dX9_isWord_64 : decode cX9_isWord 64 = .ok (.ireturn, 1) := by decide +kernel
theorem dX9_readWord_0 : decode cX9_readWord 0 = .ok (.aload_n 0, 1) := by decide +kernel
theorem dX9_readWord_1 : decode cX9_readWord 1 = .ok (.iconst 1, 1) := by decide +kernel
theorem dX9_readWord_2 : decode cX9_readWord 2 = .ok (.putfield 28, 3) := by decide +kernel
theorem dX9_readWord_5 : decode cX9_readWord 5 = .ok (.aload_n 0, 1) := by decide +kernel
theorem dX9_readWord_6 : decode cX9_readWord 6 = .ok (.getfield 25, 3) := by decide +kernel
theorem dX9_readWord_9 : decode cX9_readWord 9 = .ok (.aload_n 0, 1) := by decide +kernel
theorem dX9_readWord_10 : decode cX9_readWord 10 = .ok (.getfield 19, 3) := by decide +kernel
theorem dX9_readWord_13 : decode cX9_readWord 13 = .ok (.if_icmp .ge 31, 3) := by decide +kernel
theorem dX9_readWord_16 : decode cX9_readWord 16 = .ok (.aload_n 0, 1) := by decide +kernel
theorem dX9_readWord_17 : decode cX9_readWord 17 = .ok (.getfield 9, 3) := by decide +kernel
theorem dX9_readWord_20 : decode cX9_readWord 20 = .ok (.aload_n 0, 1) := by decide +kernel
theorem dX9_readWord_21 : decode cX9_readWord 21 = .ok (.getfield 25, 3) := by decide +kernel
theorem dX9_readWord_24 : decode cX9_readWord 24 = .ok (.baload, 1) := by decide +kernel
theorem dX9_readWord_25 : decode cX9_readWord 25 = .ok (.invokestatic 44, 3) := by decide +kernel
theorem dX9_readWord_28 : decode cX9_readWord 28 = .ok (.ifCond .eq 16, 3) := by decide +kernel
theorem dX9_readWord_31 : decode cX9_readWord 31 = .ok (.aload_n 0, 1) := by decide +kernel
theorem dX9_readWord_32 : decode cX9_readWord 32 = .ok (.dup, 1) := by decide +kernel
theorem dX9_readWord_33 : decode cX9_readWord 33 = .ok (.getfield 25, 3) := by decide +kernel
theorem dX9_readWord_36 : decode cX9_readWord 36 = .ok (.iconst 1, 1) := by decide +kernel
theorem dX9_readWord_37 : decode cX9_readWord 37 = .ok (.iadd, 1) := by decide +kernel
theorem dX9_readWord_38 : decode cX9_readWord 38 = .ok (.putfield 25, 3) := by decide +kernel
theorem dX9_readWord_41 : decode cX9_readWord 41 = .ok (.goto (-36), 3) := by decide +kernel
theorem dX9_readWord_44 : decode cX9_readWord 44 = .ok (.return_, 1) := by decide +kernel
theorem dX9_readNumber_0 : decode cX9_readNumber 0 = .ok (.aload_n 0, 1) := by decide +kernel
theorem dX9_readNumber_1 : decode cX9_readNumber 1 = .ok (.iconst 2, 1) := by decide +kernel
theorem dX9_readNumber_2 : decode cX9_readNumber 2 = .ok (.putfield 28, 3) := by decide +kernel
theorem dX9_readNumber_5 : decode cX9_readNumber 5 = .ok (.aload_n 0, 1) := by decide +kernel
theorem dX9_readNumber_6 : decode cX9_readNumber 6 = .ok (.iconst 0, 1) := by decide +kernel
theorem dX9_readNumber_7 : decode cX9_readNumber 7 = .ok (.putfield 31, 3) := by decide +kernel
theorem dX9_readNumber_10 : decode cX9_readNumber 10 = .ok (.aload_n 0, 1) := by decide +kernel
theorem dX9_readNumber_11 : decode cX9_readNumber 11 = .ok (.getfield 25, 3) := by decide +kernel
theorem dX9_readNumber_14 : decode cX9_readNumber 14 = .ok (.aload_n 0, 1) := by decide +kernel
theorem dX9_readNumber_15 : decode cX9_readNumber 15 = .ok (.getfield 19, 3) := by decide +kernel
theorem dX9_readNumber_18 : decode cX9_readNumber 18 = .ok (.if_icmp .ge 55, 3) := by decide +kernel
theorem dX9_readNumber_21 : decode cX9_readNumber 21 = .ok (.aload_n 0, 1) := by decide +kernel
theorem dX9_readNumber_22 : decode cX9_readNumber 22 = .ok (.getfield 9, 3) := by decide +kernel
theorem dX9_readNumber_25 : decode cX9_readNumber 25 = .ok (.aload_n 0, 1) := by decide +kernel
theorem dX9_readNumber_26 : decode cX9_readNumber 26 = .ok (.getfield 25, 3) := by decide +kernel
theorem dX9_readNumber_29 : decode cX9_readNumber 29 = .ok (.baload, 1) := by decide +kernel
theorem dX9_readNumber_30 : decode cX9_readNumber 30 = .ok (.invokestatic 50, 3) := by decide +kernel
theorem dX9_readNumber_33 : decode cX9_readNumber 33 = .ok (.ifCond .eq 40, 3) := by decide +kernel
theorem dX9_readNumber_36 : decode cX9_readNumber 36 = .ok (.aload_n 0, 1) := by decide +kernel
theorem dX9_readNumber_37 : decode cX9_readNumber 37 = .ok (.bipush 10, 2) := by decide +kernel
theorem dX9_readNumber_39 : decode cX9_readNumber 39 = .ok (.aload_n 0, 1) := by decide +kernel
theorem dX9_readNumber_40 : decode cX9_readNumber 40 = .ok (.getfield 31, 3) := by decide +kernel
theorem dX9_readNumber_43 : decode cX9_readNumber 43 = .ok (.imul, 1) := by decide +kernel
theorem dX9_readNumber_44 : decode cX9_readNumber 44 = .ok (.aload_n 0, 1) := by decide +kernel
theorem dX9_readNumber_45 : decode cX9_readNumber 45 = .ok (.getfield 9, 3) := by decide +kernel
theorem dX9_readNumber_48 : decode cX9_readNumber 48 = .ok (.aload_n 0, 1) := by decide +kernel
theorem dX9_readNumber_49 : decode cX9_readNumber 49 = .ok (.getfield 25, 3) := by decide +kernel
theorem dX9_readNumber_52 : decode cX9_readNumber 52 = .ok (.baload, 1) := by decide +kernel
theorem dX9_readNumber_53 : decode cX9_readNumber 53 = .ok (.iadd, 1) := by decide +kernel
theorem dX9_readNumber_54 : decode cX9_readNumber 54 = .ok (.bipush 48, 2) := by decide +kernel
theorem dX9_readNumber_56 : decode cX9_readNumber 56 = .ok (.isub, 1) := by decide +kernel
theorem dX9_readNumber_57 : decode cX9_readNumber 57 = .ok (.putfield 31, 3) := by decide +kernel
theorem dX9_readNumber_60 : decode cX9_readNumber 60 = .ok (.aload_n 0, 1) := by decide +kernel
theorem dX9_readNumber_61 : decode cX9_readNumber 61 = .ok (.dup, 1) := by decide +kernel
theorem dX9_readNumber_62 : decode cX9_readNumber 62 = .ok (.getfield 25, 3) := by decide +kernel
theorem dX9_readNumber_65 : decode cX9_readNumber 65 = .ok (.iconst 1, 1) := by decide +kernel
theorem dX9_readNumber_66 : decode cX9_readNumber 66 = .ok (.iadd, 1) := by decide +kernel
theorem dX9_readNumber_67 : decode cX9_readNumber 67 = .ok (.putfield 25, 3) := by decide +kernel
theorem dX9_readNumber_70 : decode cX9_readNumber 70 = .ok (.goto (-60), 3) := by decide +kernel
theorem dX9_readNumber_73 : decode cX9_readNumber 73 = .ok (.aload_n 0, 1) := by decide +kernel
theorem dX9_readNumber_74 : decode cX9_readNumber 74 = .ok (.getfield 25, 3) := by decide +kernel
theorem dX9_readNumber_77 : decode cX9_readNumber 77 = .ok (.aload_n 0, 1) := by decide +kernel
theorem dX9_readNumber_78 : decode cX9_readNumber 78 = .ok (.getfield 22, 3) := by decide +kernel
theorem dX9_readNumber_81 : decode cX9_readNumber 81 = .ok (.isub, 1) := by decide +kernel
theorem dX9_readNumber_82 : decode cX9_readNumber 82 = .ok (.iconst 4, 1) := by decide +kernel
theorem dX9_readNumber_83 : decode cX9_readNumber 83 = .ok (.if_icmp .le 8, 3) := by decide +kernel
theorem dX9_readNumber_86 : decode cX9_readNumber 86 = .ok (.aload_n 0, 1) := by decide +kernel
theorem dX9_readNumber_87 : decode cX9_readNumber 87 = .ok (.iconst (-1), 1) := by decide +kernel
theorem dX9_readNumber_88 : decode cX9_readNumber 88 = .ok (.putfield 31, 3) := by decide +kernel
theorem dX9_readNumber_91 : decode cX9_readNumber 91 = .ok (.return_, 1) := by decide +kernel
theorem dX9_isBlank_0 : decode cX9_isBlank 0 = .ok (.iload_n 0, 1) := by decide +kernel
theorem dX9_isBlank_1 : decode cX9_isBlank 1 = .ok (.bipush 32, 2) := by decide +kernel
theorem dX9_isBlank_3 : decode cX9_isBlank 3 = .ok (.if_icmp .eq 9, 3) := by decide +kernel
theorem dX9_isBlank_6 : decode cX9_isBlank 6 = .ok (.iload_n 0, 1) := by decide +kernel
theorem dX9_isBlank_7 : decode cX9_isBlank 7 = .ok (.bipush 10, 2) := by decide +kernel
theorem dX9_isBlank_9 : decode cX9_isBlank 9 = .ok (.if_icmp .ne 7, 3) := by decide +kernel
theorem dX9_isBlank_12 : decode cX9_isBlank 12 = .ok (.iconst 1, 1) := by decide +kernel
theorem dX9_isBlank_13 : decode cX9_isBlank 13 = .ok (.goto 4, 3) := by decide +kernel
theorem dX9_isBlank_16 : decode cX9_isBlank 16 = .ok (.iconst 0, 1) := by decide +kernel
theorem dX9_isBlank_17 : decode cX9_isBlank 17 = .ok (.ireturn, 1) := by decide +kernel
theorem dX9_isLetter_0 : decode cX9_isLetter 0 = .ok (.iload_n 0, 1) := by decide +kernel
theorem dX9_isLetter_1 : decode cX9_isLetter 1 = .ok (.bipush 97, 2) := by decide +kernel
theorem dX9_isLetter_3 : decode cX9_isLetter 3 = .ok (.if_icmp .lt 13, 3) := by decide +kernel
theorem dX9_isLetter_6 : decode cX9_isLetter 6 = .ok (.iload_n 0, 1) := by decide +kernel
theorem dX9_isLetter_7 : decode cX9_isLetter 7 = .ok (.bipush 122, 2) := by decide +kernel
theorem dX9_isLetter_9 : decode cX9_isLetter 9 = .ok (.if_icmp .gt 7, 3) := by decide +kernel
theorem dX9_isLetter_12 : decode cX9_isLetter 12 = .ok (.iconst 1, 1) := by decide +kernel
theorem dX9_isLetter_13 : decode cX9_isLetter 13 = .ok (.goto 4, 3) := by decide +kernel
theorem dX9_isLetter_16 : decode cX9_isLetter 16 = .ok (.iconst 0, 1) := by decide +kernel
theorem dX9_isLetter_17 : decode cX9_isLetter 17 = .ok (.ireturn, 1) := by decide +kernel
theorem dX9_isDigit_0 : decode cX9_isDigit 0 = .ok (.iload_n 0, 1) := by decide +kernel
theorem dX9_isDigit_1 : decode cX9_isDigit 1 = .ok (.bipush 48, 2) := by decide +kernel
theorem dX9_isDigit_3 : decode cX9_isDigit 3 = .ok (.if_icmp .lt 13, 3) := by decide +kernel
theorem dX9_isDigit_6 : decode cX9_isDigit 6 = .ok (.iload_n 0, 1) := by decide +kernel
theorem dX9_isDigit_7 : decode cX9_isDigit 7 = .ok (.bipush 57, 2) := by decide +kernel
theorem dX9_isDigit_9 : decode cX9_isDigit 9 = .ok (.if_icmp .gt 7, 3) := by decide +kernel
theorem dX9_isDigit_12 : decode cX9_isDigit 12 = .ok (.iconst 1, 1) := by decide +kernel
theorem dX9_isDigit_13 : decode cX9_isDigit 13 = .ok (.goto 4, 3) := by decide +kernel
theorem dX9_isDigit_16 : decode cX9_isDigit 16 = .ok (.iconst 0, 1) := by decide +kernel
theorem dX9_isDigit_17 : decode cX9_isDigit 17 = .ok (.ireturn, 1) := by decide +kernel
theorem dX9_isSign_0 : decode cX9_isSign 0 = .ok (.iload_n 0, 1) := by decide +kernel
theorem dX9_isSign_1 : decode cX9_isSign 1 = .ok (.tableswitch 105 40 61 #[103, 103, 103, 103, 105, 103, 105, 103, 105, 105, 105, 105, 105, 105, 105, 105, 105, 105, 105, 103, 103, 103], 103) := by decide +kernel
theorem dX9_isSign_104 : decode cX9_isSign 104 = .ok (.iconst 1, 1) := by decide +kernel
theorem dX9_isSign_105 : decode cX9_isSign 105 = .ok (.ireturn, 1) := by decide +kernel
theorem dX9_isSign_106 : decode cX9_isSign 106 = .ok (.iconst 0, 1) := by decide +kernel
theorem dX9_isSign_107 : decode cX9_isSign 107 = .ok (.ireturn, 1) := by decide +kernel
theorem dX10_init_0 : decode cX10_init 0 = .ok (.aload_n 0, 1) := by decide +kernel
theorem dX10_init_1 : decode cX10_init 1 = .ok (.invokespecial 1, 3) := by decide +kernel
theorem dX10_init_4 : decode cX10_init 4 = .ok (.aload_n 0, 1) := by decide +kernel
theorem dX10_init_5 : decode cX10_init 5 = .ok (.new 7, 3) := by decide +kernel
theorem dX10_init_8 : decode cX10_init 8 = .ok (.dup, 1) := by decide +kernel
theorem dX10_init_9 : decode cX10_init 9 = .ok (.invokespecial 9, 3) := by decide +kernel
theorem dX10_init_12 : decode cX10_init 12 = .ok (.putfield 10, 3) := by decide +kernel
theorem dX10_init_15 : decode cX10_init 15 = .ok (.aload_n 0, 1) := by decide +kernel
theorem dX10_init_16 : decode cX10_init 16 = .ok (.aload_n 0, 1) := by decide +kernel
theorem dX10_init_17 : decode cX10_init 17 = .ok (.getfield 10, 3) := by decide +kernel
theorem dX10_init_20 : decode cX10_init 20 = .ok (.getfield 16, 3) := by decide +kernel
theorem dX10_init_23 : decode cX10_init 23 = .ok (.putfield 20, 3) := by decide +kernel
theorem dX10_init_26 : decode cX10_init 26 = .ok (.aload_n 0, 1) := by decide +kernel
theorem dX10_init_27 : decode cX10_init 27 = .ok (.new 21, 3) := by decide +kernel
theorem dX10_init_30 : decode cX10_init 30 = .ok (.dup, 1) := by decide +kernel
theorem dX10_init_31 : decode cX10_init 31 = .ok (.invokespecial 23, 3) := by decide +kernel
theorem dX10_init_34 : decode cX10_init 34 = .ok (.putfield 24, 3) := by decide +kernel
theorem dX10_init_37 : decode cX10_init 37 = .ok (.aload_n 0, 1) := by decide +kernel
theorem dX10_init_38 : decode cX10_init 38 = .ok (.aload_n 0, 1) := by decide +kernel
theorem dX10_init_39 : decode cX10_init 39 = .ok (.getfield 24, 3) := by decide +kernel
theorem dX10_init_42 : decode cX10_init 42 = .ok (.getfield 28, 3) := by decide +kernel
theorem dX10_init_45 : decode cX10_init 45 = .ok (.putfield 32, 3) := by decide +kernel
theorem dX10_init_48 : decode cX10_init 48 = .ok (.aload_n 0, 1) := by decide +kernel
theorem dX10_init_49 : decode cX10_init 49 = .ok (.new 33, 3) := by decide +kernel
theorem dX10_init_52 : decode cX10_init 52 = .ok (.dup, 1) := by decide +kernel
theorem dX10_init_53 : decode cX10_init 53 = .ok (.invokespecial 35, 3) := by decide +kernel
theorem dX10_init_56 : decode cX10_init 56 = .ok (.putfield 36, 3) := by decide +kernel
theorem dX10_init_59 : decode cX10_init 59 = .ok (.aload_n 0, 1) := by decide +kernel
theorem dX10_init_60 : decode cX10_init 60 = .ok (.new 40, 3) := by decide +kernel
theorem dX10_init_63 : decode cX10_init 63 = .ok (.dup, 1) := by decide +kernel
theorem dX10_init_64 : decode cX10_init 64 = .ok (.invokespecial 42, 3) := by decide +kernel
theorem dX10_init_67 : decode cX10_init 67 = .ok (.putfield 43, 3) := by decide +kernel
theorem dX10_init_70 : decode cX10_init 70 = .ok (.aload_n 0, 1) := by decide +kernel
theorem dX10_init_71 : decode cX10_init 71 = .ok (.new 40, 3) := by decide +kernel
theorem dX10_init_74 : decode cX10_init 74 = .ok (.dup, 1) := by decide +kernel
theorem dX10_init_75 : decode cX10_init 75 = .ok (.invokespecial 42, 3) := by decide +kernel
theorem dX10_init_78 : decode cX10_init 78 = .ok (.putfield 47, 3) := by decide +kernel
theorem dX10_init_81 : decode cX10_init 81 = .ok (.aload_n 0, 1) := by decide +kernel
theorem dX10_init_82 : decode cX10_init 82 = .ok (.iconst 0, 1) := by decide +kernel
theorem dX10_init_83 : decode cX10_init 83 = .ok (.putfield 50, 3) := by decide +kernel
theorem dX10_init_86 : decode cX10_init 86 = .ok (.aload_n 0, 1) := by decide +kernel
theorem dX10_init_87 : decode cX10_init 87 = .ok (.iconst (-1), 1) := by decide +kernel
theorem dX10_init_88 : decode cX10_init 88 = .ok (.putfield 54, 3) := by decide +kernel
theorem dX10_init_91 : decode cX10_init 91 = .ok (.aload_n 0, 1) := by decide +kernel
theorem dX10_init_92 : decode cX10_init 92 = .ok (.bipush 64, 2) := by decide +kernel
theorem dX10_init_94 : decode cX10_init 94 = .ok (.newarray .int, 2) := by decide +kernel
theorem dX10_init_96 : decode cX10_init 96 = .ok (.putfield 58, 3) := by decide +kernel
theorem dX10_init_99 : decode cX10_init 99 = .ok (.aload_n 0, 1) := by decide +kernel
theorem dX10_init_100 : decode cX10_init 100 = .ok (.bipush 8, 2) := by decide +kernel
theorem dX10_init_102 : decode cX10_init 102 = .ok (.newarray .int, 2) := by decide +kernel
theorem dX10_init_104 : decode cX10_init 104 = .ok (.putfield 62, 3) := by decide +kernel
theorem dX10_init_107 : decode cX10_init 107 = .ok (.aload_n 0, 1) := by decide +kernel
theorem dX10_init_108 : decode cX10_init 108 = .ok (.bipush 8, 2) := by decide +kernel
theorem dX10_init_110 : decode cX10_init 110 = .ok (.newarray .int, 2) := by decide +kernel
theorem dX10_init_112 : decode cX10_init 112 = .ok (.putfield 65, 3) := by decide +kernel
theorem dX10_init_115 : decode cX10_init 115 = .ok (.aload_n 0, 1) := by decide +kernel
theorem dX10_init_116 : decode cX10_init 116 = .ok (.getfield 32, 3) := by decide +kernel
theorem dX10_init_119 : decode cX10_init 119 = .ok (.invokevirtual 68, 3) := by decide +kernel
theorem dX10_init_122 : decode cX10_init 122 = .ok (.aload_n 0, 1) := by decide +kernel
theorem dX10_init_123 : decode cX10_init 123 = .ok (.getfield 43, 3) := by decide +kernel
theorem dX10_init_126 : decode cX10_init 126 = .ok (.aload_n 0, 1) := by decide +kernel
theorem dX10_init_127 : decode cX10_init 127 = .ok (.getfield 32, 3) := by decide +kernel
theorem dX10_init_130 : decode cX10_init 130 = .ok (.getfield 73, 3) := by decide +kernel
theorem dX10_init_133 : decode cX10_init 133 = .ok (.invokevirtual 76, 3) := by decide +kernel
theorem dX10_init_136 : decode cX10_init 136 = .ok (.return_, 1) := by decide +kernel
theorem dX10_feed_0 : decode cX10_feed 0 = .ok (.aload_n 0, 1) := by decide +kernel
theorem dX10_feed_1 : decode cX10_feed 1 = .ok (.getfield 20, 3) := by decide +kernel
theorem dX10_feed_4 : decode cX10_feed 4 = .ok (.getfield 80, 3) := by decide +kernel
theorem dX10_feed_7 : decode cX10_feed 7 = .ok (.sipush 680, 3) := by decide +kernel
theorem dX10_feed_10 : decode cX10_feed 10 = .ok (.if_icmp .le 5, 3) := by decide +kernel
theorem dX10_feed_13 : decode cX10_feed 13 = .ok (.iconst (-1), 1) := by decide +kernel
theorem dX10_feed_14 : decode cX10_feed 14 = .ok (.ireturn, 1) := by decide +kernel
theorem dX10_feed_15 : decode cX10_feed 15 = .ok (.aload_n 0, 1) := by decide +kernel
theorem dX10_feed_16 : decode cX10_feed 16 = .ok (.getfield 20, 3) := by decide +kernel
theorem dX10_feed_19 : decode cX10_feed 19 = .ok (.iload_n 1, 1) := by decide +kernel
theorem dX10_feed_20 : decode cX10_feed 20 = .ok (.invokevirtual 85, 3) := by decide +kernel
theorem dX10_feed_23 : decode cX10_feed 23 = .ok (.aload_n 0, 1) := by decide +kernel
theorem dX10_feed_24 : decode cX10_feed 24 = .ok (.getfield 20, 3) := by decide +kernel
theorem dX10_feed_27 : decode cX10_feed 27 = .ok (.iload_n 2, 1) := by decide +kernel
theorem dX10_feed_28 : decode cX10_feed 28 = .ok (.invokevirtual 85, 3) := by decide +kernel
theorem dX10_feed_31 : decode cX10_feed 31 = .ok (.aload_n 0, 1) := by decide +kernel
theorem dX10_feed_32 : decode cX10_feed 32 = .ok (.getfield 20, 3) := by decide +kernel
theorem dX10_feed_35 : decode cX10_feed 35 = .ok (.iload_n 3, 1) := by decide +kernel
theorem dX10_feed_36 : decode cX10_feed 36 = .ok (.invokevirtual 85, 3) := by decide +kernel
theorem dX10_feed_39 : decode cX10_feed 39 = .ok (.aload_n 0, 1) := by decide +kernel
theorem dX10_feed_40 : decode cX10_feed 40 = .ok (.getfield 20, 3) := by decide +kernel
theorem dX10_feed_43 : decode cX10_feed 43 = .ok (.iload 4, 2) := by decide +kernel
theorem dX10_feed_45 : decode cX10_feed 45 = .ok (.invokevirtual 85, 3) := by decide +kernel
theorem dX10_feed_48 : decode cX10_feed 48 = .ok (.aload_n 0, 1) := by decide +kernel
theorem dX10_feed_49 : decode cX10_feed 49 = .ok (.getfield 20, 3) := by decide +kernel
theorem dX10_feed_52 : decode cX10_feed 52 = .ok (.iload 5, 2) := by decide +kernel
theorem dX10_feed_54 : decode cX10_feed 54 = .ok (.invokevirtual 85, 3) := by decide +kernel
theorem dX10_feed_57 : decode cX10_feed 57 = .ok (.aload_n 0, 1) := by decide +kernel
theorem dX10_feed_58 : decode cX10_feed 58 = .ok (.getfield 20, 3) := by decide +kernel
theorem dX10_feed_61 : decode cX10_feed 61 = .ok (.getfield 80, 3) := by decide +kernel
theorem dX10_feed_64 : decode cX10_feed 64 = .ok (.ireturn, 1) := by decide +kernel
theorem dX10_terrace_0 : decode cX10_terrace 0 = .ok (.iload_n 1, 1) := by decide +kernel
theorem dX10_terrace_1 : decode cX10_terrace 1 = .ok (.ifCond .lt 14, 3) := by decide +kernel
theorem dX10_terrace_4 : decode cX10_terrace 4 = .ok (.iload_n 1, 1) := by decide +kernel
theorem dX10_terrace_5 : decode cX10_terrace 5 = .ok (.aload_n 0, 1) := by decide +kernel
theorem dX10_terrace_6 : decode cX10_terrace 6 = .ok (.getfield 20, 3) := by decide +kernel
theorem dX10_terrace_9 : decode cX10_terrace 9 = .ok (.getfield 80, 3) := by decide +kernel
theorem dX10_terrace_12 : decode cX10_terrace 12 = .ok (.if_icmp .le 13, 3) := by decide +kernel
theorem dX10_terrace_15 : decode cX10_terrace 15 = .ok (.new 89, 3) := by decide +kernel
theorem dX10_terrace_18 : decode cX10_terrace 18 = .ok (.dup, 1) := by decide +kernel
theorem dX10_terrace_19 : decode cX10_terrace 19 = .ok (.ldc 91, 2) := by decide +kernel
theorem dX10_terrace_21 : decode cX10_terrace 21 = .ok (.invokespecial 93, 3) := by decide +kernel
theorem dX10_terrace_24 : decode cX10_terrace 24 = .ok (.athrow, 1) := by decide +kernel
theorem dX10_terrace_25 : decode cX10_terrace 25 = .ok (.aload_n 0, 1) := by decide +kernel
theorem dX10_terrace_26 : decode cX10_terrace 26 = .ok (.getfield 20, 3) := by decide +kernel
theorem dX10_terrace_29 : decode cX10_terrace 29 = .ok (.iload_n 1, 1) := by decide +kernel
theorem dX10_terrace_30 : decode cX10_terrace 30 = .ok (.invokevirtual 96, 3) := by decide +kernel
theorem dX10_terrace_33 : decode cX10_terrace 33 = .ok (.aload_n 0, 1) := by decide +kernel
theorem dX10_terrace_34 : decode cX10_terrace 34 = .ok (.getfield 10, 3) := by decide +kernel
theorem dX10_terrace_37 : decode cX10_terrace 37 = .ok (.invokevirtual 98, 3) := by decide +kernel
theorem dX10_terrace_40 : decode cX10_terrace 40 = .ok (.istore_n 2, 1) := by decide +kernel
theorem dX10_terrace_41 : decode cX10_terrace 41 = .ok (.aload_n 0, 1) := by decide +kernel
theorem dX10_terrace_42 : decode cX10_terrace 42 = .ok (.getfield 20, 3) := by decide +kernel
theorem dX10_terrace_45 : decode cX10_terrace 45 = .ok (.iconst 0, 1) := by decide +kernel
theorem dX10_terrace_46 : decode cX10_terrace 46 = .ok (.putfield 80, 3) := by decide +kernel
theorem dX10_terrace_49 : decode cX10_terrace 49 = .ok (.iload_n 2, 1) := by decide +kernel
theorem dX10_terrace_50 : decode cX10_terrace 50 = .ok (.ifCond .eq 25, 3) := by decide +kernel
theorem dX10_terrace_53 : decode cX10_terrace 53 = .ok (.aload_n 0, 1) := by decide +kernel
theorem dX10_terrace_54 : decode cX10_terrace 54 = .ok (.aload_n 0, 1) := by decide +kernel
theorem dX10_terrace_55 : decode cX10_terrace 55 = .ok (.getfield 20, 3) := by decide +kernel
theorem dX10_terrace_58 : decode cX10_terrace 58 = .ok (.getfield 102, 3) := by decide +kernel
theorem dX10_terrace_61 : decode cX10_terrace 61 = .ok (.putfield 54, 3) := by decide +kernel
theorem dX10_terrace_64 : decode cX10_terrace 64 = .ok (.aload_n 0, 1) := by decide +kernel
theorem dX10_terrace_65 : decode cX10_terrace 65 = .ok (.getfield 43, 3) := by decide +kernel
theorem dX10_terrace_68 : decode cX10_terrace 68 = .ok (.iconst 0, 1) := by decide +kernel
theorem dX10_terrace_69 : decode cX10_terrace 69 = .ok (.invokevirtual 104, 3) := by decide +kernel
theorem dX10_terrace_72 : decode cX10_terrace 72 = .ok (.pop, 1) := by decide +kernel
theorem dX10_terrace_73 : decode cX10_terrace 73 = .ok (.iload_n 2, 1) := by decide +kernel
theorem dX10_terrace_74 : decode cX10_terrace 74 = .ok (.ireturn, 1) := by decide +kernel
theorem dX10_terrace_75 : decode cX10_terrace 75 = .ok (.aload_n 0, 1) := by decide +kernel
theorem dX10_terrace_76 : decode cX10_terrace 76 = .ok (.iconst (-1), 1) := by decide +kernel
theorem dX10_terrace_77 : decode cX10_terrace 77 = .ok (.putfield 54, 3) := by decide +kernel
theorem dX10_terrace_80 : decode cX10_terrace 80 = .ok (.aload_n 0, 1) := by decide +kernel
theorem dX10_terrace_81 : decode cX10_terrace 81 = .ok (.getfield 32, 3) := by decide +kernel
theorem dX10_terrace_84 : decode cX10_terrace 84 = .ok (.aload_n 0, 1) := by decide +kernel
theorem dX10_terrace_85 : decode cX10_terrace 85 = .ok (.getfield 10, 3) := by decide +kernel
theorem dX10_terrace_88 : decode cX10_terrace 88 = .ok (.getfield 108, 3) := by decide +kernel
theorem dX10_terrace_91 : decode cX10_terrace 91 = .ok (.invokevirtual 109, 3) := by decide +kernel
theorem dX10_terrace_94 : decode cX10_terrace 94 = .ok (.aload_n 0, 1) := by decide +kernel
theorem dX10_terrace_95 : decode cX10_terrace 95 = .ok (.getfield 43, 3) := by decide +kernel
theorem dX10_terrace_98 : decode cX10_terrace 98 = .ok (.aload_n 0, 1) := by decide +kernel
theorem dX10_terrace_99 : decode cX10_terrace 99 = .ok (.getfield 32, 3) := by decide +kernel
theorem dX10_terrace_102 : decode cX10_terrace 102 = .ok (.getfield 73, 3) := by decide +kernel
theorem dX10_terrace_105 : decode cX10_terrace 105 = .ok (.invokevirtual 76, 3) := by decide +kernel
theorem dX10_terrace_108 : decode cX10_terrace 108 = .ok (.aload_n 0, 1) := by decide +kernel
theorem dX10_terrace_109 : decode cX10_terrace 109 = .ok (.iconst 0, 1) := by decide +kernel
theorem dX10_terrace_110 : decode cX10_terrace 110 = .ok (.putfield 50, 3) := by decide +kernel
theorem dX10_terrace_113 : decode cX10_terrace 113 = .ok (.iconst 0, 1) := by decide +kernel
theorem dX10_terrace_114 : decode cX10_terrace 114 = .ok (.ireturn, 1) := by decide +kernel
theorem dX10_fault_0 : decode cX10_fault 0 = .ok (.aload_n 0, 1) := by decide +kernel
theorem dX10_fault_1 : decode cX10_fault 1 = .ok (.getfield 54, 3) := by decide +kernel
theorem dX10_fault_4 : decode cX10_fault 4 = .ok (.ireturn, 1) := by decide +kernel
theorem dX10_count_0 : decode cX10_count 0 = .ok (.iload_n 1, 1) := by decide +kernel
theorem dX10_count_1 : decode cX10_count 1 = .ok (.tableswitch 219 0 13 #[71, 79, 87, 95, 106, 117, 133, 144, 159, 170, 181, 189, 199, 209], 71) := by decide +kernel
theorem dX10_count_72 : decode cX10_count 72 = .ok (.aload_n 0, 1) := by decide +kernel
theorem dX10_count_73 : decode cX10_count 73 = .ok (.getfield 32, 3) := by decide +kernel
theorem dX10_count_76 : decode cX10_count 76 = .ok (.getfield 113, 3) := by decide +kernel
theorem dX10_count_79 : decode cX10_count 79 = .ok (.ireturn, 1) := by decide +kernel
theorem dX10_count_80 : decode cX10_count 80 = .ok (.aload_n 0, 1) := by decide +kernel
theorem dX10_count_81 : decode cX10_count 81 = .ok (.getfield 32, 3) := by decide +kernel
theorem dX10_count_84 : decode cX10_count 84 = .ok (.getfield 116, 3) := by decide +kernel
theorem dX10_count_87 : decode cX10_count 87 = .ok (.ireturn, 1) := by decide +kernel
theorem dX10_count_88 : decode cX10_count 88 = .ok (.aload_n 0, 1) := by decide +kernel
theorem dX10_count_89 : decode cX10_count 89 = .ok (.getfield 32, 3) := by decide +kernel
theorem dX10_count_92 : decode cX10_count 92 = .ok (.getfield 119, 3) := by decide +kernel
theorem dX10_count_95 : decode cX10_count 95 = .ok (.ireturn, 1) := by decide +kernel
theorem dX10_count_96 : decode cX10_count 96 = .ok (.aload_n 0, 1) := by decide +kernel
theorem dX10_count_97 : decode cX10_count 97 = .ok (.getfield 43, 3) := by decide +kernel
theorem dX10_count_100 : decode cX10_count 100 = .ok (.getfield 122, 3) := by decide +kernel
theorem dX10_count_103 : decode cX10_count 103 = .ok (.bipush 63, 2) := by decide +kernel
theorem dX10_count_105 : decode cX10_count 105 = .ok (.iaload, 1) := by decide +kernel
theorem dX10_count_106 : decode cX10_count 106 = .ok (.ireturn, 1) := by decide +kernel
theorem dX10_count_107 : decode cX10_count 107 = .ok (.aload_n 0, 1) := by decide +kernel
theorem dX10_count_108 : decode cX10_count 108 = .ok (.getfield 43, 3) := by decide +kernel
theorem dX10_count_111 : decode cX10_count 111 = .ok (.getfield 122, 3) := by decide +kernel
theorem dX10_count_114 : decode cX10_count 114 = .ok (.bipush 62, 2) := by decide +kernel
theorem dX10_count_116 : decode cX10_count 116 = .ok (.iaload, 1) := by decide +kernel
theorem dX10_count_117 : decode cX10_count 117 = .ok (.ireturn, 1) := by decide +kernel
theorem dX10_count_118 : decode cX10_count 118 = .ok (.aload_n 0, 1) := by decide +kernel
theorem dX10_count_119 : decode cX10_count 119 = .ok (.getfield 24, 3) := by decide +kernel
theorem dX10_count_122 : decode cX10_count 122 = .ok (.aload_n 0, 1) := by decide +kernel
theorem dX10_count_123 : decode cX10_count 123 = .ok (.getfield 43, 3) := by decide +kernel
theorem dX10_count_126 : decode cX10_count 126 = .ok (.getfield 122, 3) := by decide +kernel
theorem dX10_count_129 : decode cX10_count 129 = .ok (.iconst (-1), 1) := by decide +kernel
theorem dX10_count_130 : decode cX10_count 130 = .ok (.invokevirtual 125, 3) := by decide +kernel
theorem dX10_count_133 : decode cX10_count 133 = .ok (.ireturn, 1) := by decide +kernel
theorem dX10_count_134 : decode cX10_count 134 = .ok (.aload_n 0, 1) := by decide +kernel
theorem dX10_count_135 : decode cX10_count 135 = .ok (.getfield 43, 3) := by decide +kernel
theorem dX10_count_138 : decode cX10_count 138 = .ok (.getfield 122, 3) := by decide +kernel
theorem dX10_count_141 : decode cX10_count 141 = .ok (.bipush 61, 2) := by decide +kernel
theorem dX10_count_143 : decode cX10_count 143 = .ok (.iaload, 1) := by decide +kernel
theorem dX10_count_144 : decode cX10_count 144 = .ok (.ireturn, 1) := by decide +kernel
theorem dX10_count_145 : decode cX10_count 145 = .ok (.aload_n 0, 1) := by decide +kernel
theorem dX10_count_146 : decode cX10_count 146 = .ok (.getfield 24, 3) := by decide +kernel
theorem dX10_count_149 : decode cX10_count 149 = .ok (.aload_n 0, 1) := by decide +kernel
theorem dX10_count_150 : decode cX10_count 150 = .ok (.getfield 43, 3) := by decide +kernel
theorem dX10_count_153 : decode cX10_count 153 = .ok (.getfield 122, 3) := by decide +kernel
theorem dX10_count_156 : decode cX10_count 156 = .ok (.invokevirtual 129, 3) := by decide +kernel
theorem dX10_count_159 : decode cX10_count 159 = .ok (.ireturn, 1) := by decide +kernel
theorem dX10_count_160 : decode cX10_count 160 = .ok (.aload_n 0, 1) := by decide +kernel
theorem dX10_count_161 : decode cX10_count 161 = .ok (.getfield 43, 3) := by decide +kernel
theorem dX10_count_164 : decode cX10_count 164 = .ok (.getfield 133, 3) := by decide +kernel
theorem dX10_count_167 : decode cX10_count 167 = .ok (.getfield 137, 3) := by decide +kernel
theorem dX10_count_170 : decode cX10_count 170 = .ok (.ireturn, 1) := by decide +kernel
theorem dX10_count_171 : decode cX10_count 171 = .ok (.aload_n 0, 1) := by decide +kernel
theorem dX10_count_172 : decode cX10_count 172 = .ok (.getfield 43, 3) := by decide +kernel
theorem dX10_count_175 : decode cX10_count 175 = .ok (.getfield 142, 3) := by decide +kernel
theorem dX10_count_178 : decode cX10_count 178 = .ok (.getfield 146, 3) := by decide +kernel
theorem dX10_count_181 : decode cX10_count 181 = .ok (.ireturn, 1) := by decide +kernel
theorem dX10_count_182 : decode cX10_count 182 = .ok (.aload_n 0, 1) := by decide +kernel
theorem dX10_count_183 : decode cX10_count 183 = .ok (.getfield 20, 3) := by decide +kernel
theorem dX10_count_186 : decode cX10_count 186 = .ok (.getfield 80, 3) := by decide +kernel
theorem dX10_count_189 : decode cX10_count 189 = .ok (.ireturn, 1) := by decide +kernel
theorem dX10_count_190 : decode cX10_count 190 = .ok (.aload_n 0, 1) := by decide +kernel
theorem dX10_count_191 : decode cX10_count 191 = .ok (.getfield 43, 3) := by decide +kernel
theorem dX10_count_194 : decode cX10_count 194 = .ok (.getfield 149, 3) := by decide +kernel
theorem dX10_count_197 : decode cX10_count 197 = .ok (.iconst 0, 1) := by decide +kernel
theorem dX10_count_198 : decode cX10_count 198 = .ok (.iaload, 1) := by decide +kernel
theorem dX10_count_199 : decode cX10_count 199 = .ok (.ireturn, 1) := by decide +kernel
theorem dX10_count_200 : decode cX10_count 200 = .ok (.aload_n 0, 1) := by decide +kernel
theorem dX10_count_201 : decode cX10_count 201 = .ok (.getfield 43, 3) := by decide +kernel
theorem dX10_count_204 : decode cX10_count 204 = .ok (.getfield 149, 3) := by decide +kernel
theorem dX10_count_207 : decode cX10_count 207 = .ok (.iconst 1, 1) := by decide +kernel
theorem dX10_count_208 : decode cX10_count 208 = .ok (.iaload, 1) := by decide +kernel
theorem dX10_count_209 : decode cX10_count 209 = .ok (.ireturn, 1) := by decide +kernel
theorem dX10_count_210 : decode cX10_count 210 = .ok (.aload_n 0, 1) := by decide +kernel
theorem dX10_count_211 : decode cX10_count 211 = .ok (.getfield 43, 3) := by decide +kernel
theorem dX10_count_214 : decode cX10_count 214 = .ok (.getfield 149, 3) := by decide +kernel
theorem dX10_count_217 : decode cX10_count 217 = .ok (.iconst 2, 1) := by decide +kernel
theorem dX10_count_218 : decode cX10_count 218 = .ok (.iaload, 1) := by decide +kernel
theorem dX10_count_219 : decode cX10_count 219 = .ok (.ireturn, 1) := by decide +kernel
theorem dX10_count_220 : decode cX10_count 220 = .ok (.new 152, 3) := by decide +kernel
theorem dX10_count_223 : decode cX10_count 223 = .ok (.dup, 1) := by decide +kernel
theorem dX10_count_224 : decode cX10_count 224 = .ok (.ldc 154, 2) := by decide +kernel
theorem dX10_count_226 : decode cX10_count 226 = .ok (.invokespecial 156, 3) := by decide +kernel
theorem dX10_count_229 : decode cX10_count 229 = .ok (.athrow, 1) := by decide +kernel
theorem dX10_house_0 : decode cX10_house 0 = .ok (.aload_n 0, 1) := by decide +kernel
theorem dX10_house_1 : decode cX10_house 1 = .ok (.iload_n 1, 1) := by decide +kernel
theorem dX10_house_2 : decode cX10_house 2 = .ok (.invokevirtual 157, 3) := by decide +kernel
theorem dX10_house_5 : decode cX10_house 5 = .ok (.iload_n 2, 1) := by decide +kernel
theorem dX10_house_6 : decode cX10_house 6 = .ok (.tableswitch 162 0 7 #[46, 56, 68, 81, 94, 107, 120, 130], 46) := by decide +kernel
theorem dX10_house_52 : decode cX10_house 52 = .ok (.aload_n 0, 1) := by decide +kernel
theorem dX10_house_53 : decode cX10_house 53 = .ok (.getfield 32, 3) := by decide +kernel
theorem dX10_house_56 : decode cX10_house 56 = .ok (.getfield 160, 3) := by decide +kernel
theorem dX10_house_59 : decode cX10_house 59 = .ok (.iload_n 1, 1) := by decide +kernel
theorem dX10_house_60 : decode cX10_house 60 = .ok (.iaload, 1) := by decide +kernel
theorem dX10_house_61 : decode cX10_house 61 = .ok (.ireturn, 1) := by decide +kernel
theorem dX10_house_62 : decode cX10_house 62 = .ok (.aload_n 0, 1) := by decide +kernel
theorem dX10_house_63 : decode cX10_house 63 = .ok (.getfield 43, 3) := by decide +kernel
theorem dX10_house_66 : decode cX10_house 66 = .ok (.getfield 122, 3) := by decide +kernel
theorem dX10_house_69 : decode cX10_house 69 = .ok (.iconst 0, 1) := by decide +kernel
theorem dX10_house_70 : decode cX10_house 70 = .ok (.iload_n 1, 1) := by decide +kernel
theorem dX10_house_71 : decode cX10_house 71 = .ok (.iadd, 1) := by decide +kernel
theorem dX10_house_72 : decode cX10_house 72 = .ok (.iaload, 1) := by decide +kernel
theorem dX10_house_73 : decode cX10_house 73 = .ok (.ireturn, 1) := by decide +kernel
theorem dX10_house_74 : decode cX10_house 74 = .ok (.aload_n 0, 1) := by decide +kernel
theorem dX10_house_75 : decode cX10_house 75 = .ok (.getfield 43, 3) := by decide +kernel
theorem dX10_house_78 : decode cX10_house 78 = .ok (.getfield 122, 3) := by decide +kernel
theorem dX10_house_81 : decode cX10_house 81 = .ok (.bipush 8, 2) := by decide +kernel
theorem dX10_house_83 : decode cX10_house 83 = .ok (.iload_n 1, 1) := by decide +kernel
theorem dX10_house_84 : decode cX10_house 84 = .ok (.iadd, 1) := by decide +kernel
theorem dX10_house_85 : decode cX10_house 85 = .ok (.iaload, 1) := by decide +kernel
theorem dX10_house_86 : decode cX10_house 86 = .ok (.ireturn, 1) := by decide +kernel
theorem dX10_house_87 : decode cX10_house 87 = .ok (.aload_n 0, 1) := by decide +kernel
theorem dX10_house_88 : decode cX10_house 88 = .ok (.getfield 43, 3) := by decide +kernel
theorem dX10_house_91 : decode cX10_house 91 = .ok (.getfield 122, 3) := by decide +kernel
theorem dX10_house_94 : decode cX10_house 94 = .ok (.bipush 16, 2) := by decide +kernel
theorem dX10_house_96 : decode cX10_house 96 = .ok (.iload_n 1, 1) := by decide +kernel
theorem dX10_house_97 : decode cX10_house 97 = .ok (.iadd, 1) := by decide +kernel
theorem dX10_house_98 : decode cX10_house 98 = .ok (.iaload, 1) := by decide +kernel
theorem dX10_house_99 : decode cX10_house 99 = .ok (.ireturn, 1) := by decide +kernel
theorem dX10_house_100 : decode cX10_house 100 = .ok (.aload_n 0, 1) := by decide +kernel
theorem dX10_house_101 : decode cX10_house 101 = .ok (.getfield 43, 3) := by decide +kernel
theorem dX10_house_104 : decode cX10_house 104 = .ok (.getfield 122, 3) := by decide +kernel
theorem dX10_house_107 : decode cX10_house 107 = .ok (.bipush 24, 2) := by decide +kernel
theorem dX10_house_109 : decode cX10_house 109 = .ok (.iload_n 1, 1) := by decide +kernel
theorem dX10_house_110 : decode cX10_house 110 = .ok (.iadd, 1) := by decide +kernel
theorem dX10_house_111 : decode cX10_house 111 = .ok (.iaload, 1) := by decide +kernel
theorem dX10_house_112 : decode cX10_house 112 = .ok (.ireturn, 1) := by decide +kernel
theorem dX10_house_113 : decode cX10_house 113 = .ok (.aload_n 0, 1) := by decide +kernel
theorem dX10_house_114 : decode cX10_house 114 = .ok (.getfield 43, 3) := by decide +kernel
theorem dX10_house_117 : decode cX10_house 117 = .ok (.getfield 122, 3) := by decide +kernel
theorem dX10_house_120 : decode cX10_house 120 = .ok (.bipush 32, 2) := by decide +kernel
theorem dX10_house_122 : decode cX10_house 122 = .ok (.iload_n 1, 1) := by decide +kernel
theorem dX10_house_123 : decode cX10_house 123 = .ok (.iadd, 1) := by decide +kernel
theorem dX10_house_124 : decode cX10_house 124 = .ok (.iaload, 1) := by decide +kernel
theorem dX10_house_125 : decode cX10_house 125 = .ok (.ireturn, 1) := by decide +kernel
theorem dX10_house_126 : decode cX10_house 126 = .ok (.aload_n 0, 1) := by decide +kernel
theorem dX10_house_127 : decode cX10_house 127 = .ok (.getfield 32, 3) := by decide +kernel
theorem dX10_house_130 : decode cX10_house 130 = .ok (.getfield 163, 3) := by decide +kernel
theorem dX10_house_133 : decode cX10_house 133 = .ok (.iload_n 1, 1) := by decide +kernel
theorem dX10_house_134 : decode cX10_house 134 = .ok (.iaload, 1) := by decide +kernel
theorem dX10_house_135 : decode cX10_house 135 = .ok (.ireturn, 1) := by decide +kernel
theorem dX10_house_136 : decode cX10_house 136 = .ok (.aload_n 0, 1) := by decide +kernel
theorem dX10_house_137 : decode cX10_house 137 = .ok (.iload_n 1, 1) := by decide +kernel
theorem dX10_house_138 : decode cX10_house 138 = .ok (.invokevirtual 166, 3) := by decide +kernel
theorem dX10_house_141 : decode cX10_house 141 = .ok (.ifCond .ne 21, 3) := by decide +kernel
theorem dX10_house_144 : decode cX10_house 144 = .ok (.aload_n 0, 1) := by decide +kernel
theorem dX10_house_145 : decode cX10_house 145 = .ok (.getfield 24, 3) := by decide +kernel
theorem dX10_house_148 : decode cX10_house 148 = .ok (.aload_n 0, 1) := by decide +kernel
theorem dX10_house_149 : decode cX10_house 149 = .ok (.getfield 43, 3) := by decide +kernel
theorem dX10_house_152 : decode cX10_house 152 = .ok (.getfield 122, 3) := by decide +kernel
theorem dX10_house_155 : decode cX10_house 155 = .ok (.iload_n 1, 1) := by decide +kernel
theorem dX10_house_156 : decode cX10_house 156 = .ok (.invokevirtual 170, 3) := by decide +kernel
theorem dX10_house_159 : decode cX10_house 159 = .ok (.ifCond .ne 7, 3) := by decide +kernel
theorem dX10_house_162 : decode cX10_house 162 = .ok (.iconst 0, 1) := by decide +kernel
theorem dX10_house_163 : decode cX10_house 163 = .ok (.goto 4, 3) := by decide +kernel
theorem dX10_house_166 : decode cX10_house 166 = .ok (.iconst 1, 1) := by decide +kernel
theorem dX10_house_167 : decode cX10_house 167 = .ok (.ireturn, 1) := by decide +kernel
theorem dX10_house_168 : decode cX10_house 168 = .ok (.new 152, 3) := by decide +kernel
theorem dX10_house_171 : decode cX10_house 171 = .ok (.dup, 1) := by decide +kernel
theorem dX10_house_172 : decode cX10_house 172 = .ok (.ldc 174, 2) := by decide +kernel
theorem dX10_house_174 : decode cX10_house 174 = .ok (.invokespecial 156, 3) := by decide +kernel
theorem dX10_house_177 : decode cX10_house 177 = .ok (.athrow, 1) := by decide +kernel
theorem dX10_tenant_0 : decode cX10_tenant 0 = .ok (.aload_n 0, 1) := by decide +kernel
theorem dX10_tenant_1 : decode cX10_tenant 1 = .ok (.iload_n 1, 1) := by decide +kernel
theorem dX10_tenant_2 : decode cX10_tenant 2 = .ok (.invokevirtual 176, 3) := by decide +kernel
theorem dX10_tenant_5 : decode cX10_tenant 5 = .ok (.iload_n 2, 1) := by decide +kernel
theorem dX10_tenant_6 : decode cX10_tenant 6 = .ok (.tableswitch 113 0 5 #[38, 51, 61, 74, 87, 103], 38) := by decide +kernel
theorem dX10_tenant_44 : decode cX10_tenant 44 = .ok (.aload_n 0, 1) := by decide +kernel
theorem dX10_tenant_45 : decode cX10_tenant 45 = .ok (.getfield 43, 3) := by decide +kernel
theorem dX10_tenant_48 : decode cX10_tenant 48 = .ok (.getfield 122, 3) := by decide +kernel
theorem dX10_tenant_51 : decode cX10_tenant 51 = .ok (.bipush 40, 2) := by decide +kernel
theorem dX10_tenant_53 : decode cX10_tenant 53 = .ok (.iload_n 1, 1) := by decide +kernel
theorem dX10_tenant_54 : decode cX10_tenant 54 = .ok (.iadd, 1) := by decide +kernel
theorem dX10_tenant_55 : decode cX10_tenant 55 = .ok (.iaload, 1) := by decide +kernel
theorem dX10_tenant_56 : decode cX10_tenant 56 = .ok (.ireturn, 1) := by decide +kernel
theorem dX10_tenant_57 : decode cX10_tenant 57 = .ok (.aload_n 0, 1) := by decide +kernel
theorem dX10_tenant_58 : decode cX10_tenant 58 = .ok (.getfield 32, 3) := by decide +kernel
theorem dX10_tenant_61 : decode cX10_tenant 61 = .ok (.getfield 179, 3) := by decide +kernel
theorem dX10_tenant_64 : decode cX10_tenant 64 = .ok (.iload_n 1, 1) := by decide +kernel
theorem dX10_tenant_65 : decode cX10_tenant 65 = .ok (.iaload, 1) := by decide +kernel
theorem dX10_tenant_66 : decode cX10_tenant 66 = .ok (.ireturn, 1) := by decide +kernel
theorem dX10_tenant_67 : decode cX10_tenant 67 = .ok (.aload_n 0, 1) := by decide +kernel
theorem dX10_tenant_68 : decode cX10_tenant 68 = .ok (.getfield 43, 3) := by decide +kernel
theorem dX10_tenant_71 : decode cX10_tenant 71 = .ok (.getfield 122, 3) := by decide +kernel
theorem dX10_tenant_74 : decode cX10_tenant 74 = .ok (.bipush 47, 2) := by decide +kernel
theorem dX10_tenant_76 : decode cX10_tenant 76 = .ok (.iload_n 1, 1) := by decide +kernel
theorem dX10_tenant_77 : decode cX10_tenant 77 = .ok (.iadd, 1) := by decide +kernel
theorem dX10_tenant_78 : decode cX10_tenant 78 = .ok (.iaload, 1) := by decide +kernel
theorem dX10_tenant_79 : decode cX10_tenant 79 = .ok (.ireturn, 1) := by decide +kernel
theorem dX10_tenant_80 : decode cX10_tenant 80 = .ok (.aload_n 0, 1) := by decide +kernel
theorem dX10_tenant_81 : decode cX10_tenant 81 = .ok (.getfield 43, 3) := by decide +kernel
theorem dX10_tenant_84 : decode cX10_tenant 84 = .ok (.getfield 122, 3) := by decide +kernel
theorem dX10_tenant_87 : decode cX10_tenant 87 = .ok (.bipush 54, 2) := by decide +kernel
theorem dX10_tenant_89 : decode cX10_tenant 89 = .ok (.iload_n 1, 1) := by decide +kernel
theorem dX10_tenant_90 : decode cX10_tenant 90 = .ok (.iadd, 1) := by decide +kernel
theorem dX10_tenant_91 : decode cX10_tenant 91 = .ok (.iaload, 1) := by decide +kernel
theorem dX10_tenant_92 : decode cX10_tenant 92 = .ok (.ireturn, 1) := by decide +kernel
theorem dX10_tenant_93 : decode cX10_tenant 93 = .ok (.aload_n 0, 1) := by decide +kernel
theorem dX10_tenant_94 : decode cX10_tenant 94 = .ok (.getfield 24, 3) := by decide +kernel
theorem dX10_tenant_97 : decode cX10_tenant 97 = .ok (.aload_n 0, 1) := by decide +kernel
theorem dX10_tenant_98 : decode cX10_tenant 98 = .ok (.getfield 43, 3) := by decide +kernel
theorem dX10_tenant_101 : decode cX10_tenant 101 = .ok (.getfield 122, 3) := by decide +kernel
theorem dX10_tenant_104 : decode cX10_tenant 104 = .ok (.iload_n 1, 1) := by decide +kernel
theorem dX10_tenant_105 : decode cX10_tenant 105 = .ok (.invokevirtual 125, 3) := by decide +kernel
theorem dX10_tenant_108 : decode cX10_tenant 108 = .ok (.ireturn, 1) := by decide +kernel
theorem dX10_tenant_109 : decode cX10_tenant 109 = .ok (.aload_n 0, 1) := by decide +kernel
theorem dX10_tenant_110 : decode cX10_tenant 110 = .ok (.getfield 32, 3) := by decide +kernel
theorem dX10_tenant_113 : decode cX10_tenant 113 = .ok (.getfield 182, 3) := by decide +kernel
theorem dX10_tenant_116 : decode cX10_tenant 116 = .ok (.iload_n 1, 1) := by decide +kernel
theorem dX10_tenant_117 : decode cX10_tenant 117 = .ok (.iaload, 1) := by decide +kernel
theorem dX10_tenant_118 : decode cX10_tenant 118 = .ok (.ireturn, 1) := by decide +kernel
theorem dX10_tenant_119 : decode cX10_tenant 119 = .ok (.new 152, 3) := by decide +kernel
theorem dX10_tenant_122 : decode cX10_tenant 122 = .ok (.dup, 1) := by decide +kernel
theorem dX10_tenant_123 : decode cX10_tenant 123 = .ok (.ldc 185, 2) := by decide +kernel
theorem dX10_tenant_125 : decode cX10_tenant 125 = .ok (.invokespecial 156, 3) := by decide +kernel
theorem dX10_tenant_128 : decode cX10_tenant 128 = .ok (.athrow, 1) := by decide +kernel
theorem dX10_quarters_0 : decode cX10_quarters 0 = .ok (.iload_n 1, 1) := by decide +kernel
theorem dX10_quarters_1 : decode cX10_quarters 1 = .ok (.iconst 1, 1) := by decide +kernel
theorem dX10_quarters_2 : decode cX10_quarters 2 = .ok (.if_icmp .lt 27, 3) := by decide +kernel
theorem dX10_quarters_5 : decode cX10_quarters 5 = .ok (.iload_n 1, 1) := by decide +kernel
theorem dX10_quarters_6 : decode cX10_quarters 6 = .ok (.bipush 20, 2) := by decide +kernel
theorem dX10_quarters_8 : decode cX10_quarters 8 = .ok (.if_icmp .gt 21, 3) := by decide +kernel
theorem dX10_quarters_11 : decode cX10_quarters 11 = .ok (.aload_n 0, 1) := by decide +kernel
theorem dX10_quarters_12 : decode cX10_quarters 12 = .ok (.getfield 43, 3) := by decide +kernel
theorem dX10_quarters_15 : decode cX10_quarters 15 = .ok (.getfield 122, 3) := by decide +kernel
theorem dX10_quarters_18 : decode cX10_quarters 18 = .ok (.bipush 63, 2) := by decide +kernel
theorem dX10_quarters_20 : decode cX10_quarters 20 = .ok (.iaload, 1) := by decide +kernel
theorem dX10_quarters_21 : decode cX10_quarters 21 = .ok (.iload_n 1, 1) := by decide +kernel
theorem dX10_quarters_22 : decode cX10_quarters 22 = .ok (.iadd, 1) := by decide +kernel
theorem dX10_quarters_23 : decode cX10_quarters 23 = .ok (.sipush 999, 3) := by decide +kernel
theorem dX10_quarters_26 : decode cX10_quarters 26 = .ok (.if_icmp .le 12, 3) := by decide +kernel
theorem dX10_quarters_29 : decode cX10_quarters 29 = .ok (.aload_n 0, 1) := by decide +kernel
theorem dX10_quarters_30 : decode cX10_quarters 30 = .ok (.getfield 43, 3) := by decide +kernel
theorem dX10_quarters_33 : decode cX10_quarters 33 = .ok (.iconst 1, 1) := by decide +kernel
theorem dX10_quarters_34 : decode cX10_quarters 34 = .ok (.invokevirtual 104, 3) := by decide +kernel
theorem dX10_quarters_37 : decode cX10_quarters 37 = .ok (.ireturn, 1) := by decide +kernel
theorem dX10_quarters_38 : decode cX10_quarters 38 = .ok (.aload_n 0, 1) := by decide +kernel
theorem dX10_quarters_39 : decode cX10_quarters 39 = .ok (.getfield 43, 3) := by decide +kernel
theorem dX10_quarters_42 : decode cX10_quarters 42 = .ok (.invokevirtual 187, 3) := by decide +kernel
theorem dX10_quarters_45 : decode cX10_quarters 45 = .ok (.aload_n 0, 1) := by decide +kernel
theorem dX10_quarters_46 : decode cX10_quarters 46 = .ok (.getfield 24, 3) := by decide +kernel
theorem dX10_quarters_49 : decode cX10_quarters 49 = .ok (.aload_n 0, 1) := by decide +kernel
theorem dX10_quarters_50 : decode cX10_quarters 50 = .ok (.getfield 43, 3) := by decide +kernel
theorem dX10_quarters_53 : decode cX10_quarters 53 = .ok (.getfield 122, 3) := by decide +kernel
theorem dX10_quarters_56 : decode cX10_quarters 56 = .ok (.iload_n 1, 1) := by decide +kernel
theorem dX10_quarters_57 : decode cX10_quarters 57 = .ok (.invokevirtual 190, 3) := by decide +kernel
theorem dX10_quarters_60 : decode cX10_quarters 60 = .ok (.aload_n 0, 1) := by decide +kernel
theorem dX10_quarters_61 : decode cX10_quarters 61 = .ok (.getfield 43, 3) := by decide +kernel
theorem dX10_quarters_64 : decode cX10_quarters 64 = .ok (.getfield 122, 3) := by decide +kernel
theorem dX10_quarters_67 : decode cX10_quarters 67 = .ok (.bipush 63, 2) := by decide +kernel
theorem dX10_quarters_69 : decode cX10_quarters 69 = .ok (.iaload, 1) := by decide +kernel
theorem dX10_quarters_70 : decode cX10_quarters 70 = .ok (.ireturn, 1) := by decide +kernel
theorem dX10_buy_0 : decode cX10_buy 0 = .ok (.aload_n 0, 1) := by decide +kernel
theorem dX10_buy_1 : decode cX10_buy 1 = .ok (.iload_n 1, 1) := by decide +kernel
theorem dX10_buy_2 : decode cX10_buy 2 = .ok (.invokevirtual 176, 3) := by decide +kernel
theorem dX10_buy_5 : decode cX10_buy 5 = .ok (.iload_n 2, 1) := by decide +kernel
theorem dX10_buy_6 : decode cX10_buy 6 = .ok (.iconst 1, 1) := by decide +kernel
theorem dX10_buy_7 : decode cX10_buy 7 = .ok (.if_icmp .lt 27, 3) := by decide +kernel
theorem dX10_buy_10 : decode cX10_buy 10 = .ok (.iload_n 2, 1) := by decide +kernel
theorem dX10_buy_11 : decode cX10_buy 11 = .ok (.bipush 9, 2) := by decide +kernel
theorem dX10_buy_13 : decode cX10_buy 13 = .ok (.if_icmp .gt 21, 3) := by decide +kernel
theorem dX10_buy_16 : decode cX10_buy 16 = .ok (.aload_n 0, 1) := by decide +kernel
theorem dX10_buy_17 : decode cX10_buy 17 = .ok (.getfield 43, 3) := by decide +kernel
theorem dX10_buy_20 : decode cX10_buy 20 = .ok (.getfield 122, 3) := by decide +kernel
theorem dX10_buy_23 : decode cX10_buy 23 = .ok (.bipush 54, 2) := by decide +kernel
theorem dX10_buy_25 : decode cX10_buy 25 = .ok (.iload_n 1, 1) := by decide +kernel
theorem dX10_buy_26 : decode cX10_buy 26 = .ok (.iadd, 1) := by decide +kernel
theorem dX10_buy_27 : decode cX10_buy 27 = .ok (.iaload, 1) := by decide +kernel
theorem dX10_buy_28 : decode cX10_buy 28 = .ok (.iconst 3, 1) := by decide +kernel
theorem dX10_buy_29 : decode cX10_buy 29 = .ok (.iload_n 2, 1) := by decide +kernel
theorem dX10_buy_30 : decode cX10_buy 30 = .ok (.imul, 1) := by decide +kernel
theorem dX10_buy_31 : decode cX10_buy 31 = .ok (.if_icmp .ge 12, 3) := by decide +kernel
theorem dX10_buy_34 : decode cX10_buy 34 = .ok (.aload_n 0, 1) := by decide +kernel
theorem dX10_buy_35 : decode cX10_buy 35 = .ok (.getfield 43, 3) := by decide +kernel
theorem dX10_buy_38 : decode cX10_buy 38 = .ok (.iconst 1, 1) := by decide +kernel
theorem dX10_buy_39 : decode cX10_buy 39 = .ok (.invokevirtual 104, 3) := by decide +kernel
theorem dX10_buy_42 : decode cX10_buy 42 = .ok (.ireturn, 1) := by decide +kernel
theorem dX10_buy_43 : decode cX10_buy 43 = .ok (.aload_n 0, 1) := by decide +kernel
theorem dX10_buy_44 : decode cX10_buy 44 = .ok (.getfield 43, 3) := by decide +kernel
theorem dX10_buy_47 : decode cX10_buy 47 = .ok (.invokevirtual 187, 3) := by decide +kernel
theorem dX10_buy_50 : decode cX10_buy 50 = .ok (.aload_n 0, 1) := by decide +kernel
theorem dX10_buy_51 : decode cX10_buy 51 = .ok (.getfield 43, 3) := by decide +kernel
theorem dX10_buy_54 : decode cX10_buy 54 = .ok (.getfield 122, 3) := by decide +kernel
theorem dX10_buy_57 : decode cX10_buy 57 = .ok (.bipush 54, 2) := by decide +kernel
theorem dX10_buy_59 : decode cX10_buy 59 = .ok (.iload_n 1, 1) := by decide +kernel
theorem dX10_buy_60 : decode cX10_buy 60 = .ok (.iadd, 1) := by decide +kernel
theorem dX10_buy_61 : decode cX10_buy 61 = .ok (.dup2, 1) := by decide +kernel
theorem dX10_buy_62 : decode cX10_buy 62 = .ok (.iaload, 1) := by decide +kernel
theorem dX10_buy_63 : decode cX10_buy 63 = .ok (.iconst 3, 1) := by decide +kernel
theorem dX10_buy_64 : decode cX10_buy 64 = .ok (.iload_n 2, 1) := by decide +kernel
theorem dX10_buy_65 : decode cX10_buy 65 = .ok (.imul, 1) := by decide +kernel
theorem dX10_buy_66 : decode cX10_buy 66 = .ok (.isub, 1) := by decide +kernel
theorem dX10_buy_67 : decode cX10_buy 67 = .ok (.iastore, 1) := by decide +kernel
theorem dX10_buy_68 : decode cX10_buy 68 = .ok (.aload_n 0, 1) := by decide +kernel
theorem dX10_buy_69 : decode cX10_buy 69 = .ok (.getfield 43, 3) := by decide +kernel
theorem dX10_buy_72 : decode cX10_buy 72 = .ok (.getfield 122, 3) := by decide +kernel
theorem dX10_buy_75 : decode cX10_buy 75 = .ok (.bipush 40, 2) := by decide +kernel
theorem dX10_buy_77 : decode cX10_buy 77 = .ok (.iload_n 1, 1) := by decide +kernel
theorem dX10_buy_78 : decode cX10_buy 78 = .ok (.iadd, 1) := by decide +kernel
theorem dX10_buy_79 : decode cX10_buy 79 = .ok (.bipush 20, 2) := by decide +kernel
theorem dX10_buy_81 : decode cX10_buy 81 = .ok (.aload_n 0, 1) := by decide +kernel
theorem dX10_buy_82 : decode cX10_buy 82 = .ok (.getfield 43, 3) := by decide +kernel
theorem dX10_buy_85 : decode cX10_buy 85 = .ok (.getfield 122, 3) := by decide +kernel
theorem dX10_buy_88 : decode cX10_buy 88 = .ok (.bipush 40, 2) := by decide +kernel
theorem dX10_buy_90 : decode cX10_buy 90 = .ok (.iload_n 1, 1) := by decide +kernel
theorem dX10_buy_91 : decode cX10_buy 91 = .ok (.iadd, 1) := by decide +kernel
theorem dX10_buy_92 : decode cX10_buy 92 = .ok (.iaload, 1) := by decide +kernel
theorem dX10_buy_93 : decode cX10_buy 93 = .ok (.iload_n 2, 1) := by decide +kernel
theorem dX10_buy_94 : decode cX10_buy 94 = .ok (.iadd, 1) := by decide +kernel
theorem dX10_buy_95 : decode cX10_buy 95 = .ok (.invokestatic 194, 3) := by decide +kernel
theorem dX10_buy_98 : decode cX10_buy 98 = .ok (.iastore, 1) := by decide +kernel
theorem dX10_buy_99 : decode cX10_buy 99 = .ok (.aload_n 0, 1) := by decide +kernel
theorem dX10_buy_100 : decode cX10_buy 100 = .ok (.getfield 43, 3) := by decide +kernel
theorem dX10_buy_103 : decode cX10_buy 103 = .ok (.getfield 122, 3) := by decide +kernel
theorem dX10_buy_106 : decode cX10_buy 106 = .ok (.bipush 40, 2) := by decide +kernel
theorem dX10_buy_108 : decode cX10_buy 108 = .ok (.iload_n 1, 1) := by decide +kernel
theorem dX10_buy_109 : decode cX10_buy 109 = .ok (.iadd, 1) := by decide +kernel
theorem dX10_buy_110 : decode cX10_buy 110 = .ok (.iaload, 1) := by decide +kernel
theorem dX10_buy_111 : decode cX10_buy 111 = .ok (.ireturn, 1) := by decide +kernel
theorem dX10_cats_0 : decode cX10_cats 0 = .ok (.aload_n 0, 1) := by decide +kernel
theorem dX10_cats_1 : decode cX10_cats 1 = .ok (.iload_n 1, 1) := by decide +kernel
theorem dX10_cats_2 : decode cX10_cats 2 = .ok (.invokevirtual 176, 3) := by decide +kernel
theorem dX10_cats_5 : decode cX10_cats 5 = .ok (.iload_n 2, 1) := by decide +kernel
theorem dX10_cats_6 : decode cX10_cats 6 = .ok (.ifCond .lt 8, 3) := by decide +kernel
theorem dX10_cats_9 : decode cX10_cats 9 = .ok (.iload_n 2, 1) := by decide +kernel
theorem dX10_cats_10 : decode cX10_cats 10 = .ok (.iconst 3, 1) := by decide +kernel
theorem dX10_cats_11 : decode cX10_cats 11 = .ok (.if_icmp .le 12, 3) := by decide +kernel
theorem dX10_cats_14 : decode cX10_cats 14 = .ok (.aload_n 0, 1) := by decide +kernel
theorem dX10_cats_15 : decode cX10_cats 15 = .ok (.getfield 43, 3) := by decide +kernel
theorem dX10_cats_18 : decode cX10_cats 18 = .ok (.iconst 1, 1) := by decide +kernel
theorem dX10_cats_19 : decode cX10_cats 19 = .ok (.invokevirtual 104, 3) := by decide +kernel
theorem dX10_cats_22 : decode cX10_cats 22 = .ok (.ireturn, 1) := by decide +kernel
theorem dX10_cats_23 : decode cX10_cats 23 = .ok (.aload_n 0, 1) := by decide +kernel
theorem dX10_cats_24 : decode cX10_cats 24 = .ok (.getfield 43, 3) := by decide +kernel
theorem dX10_cats_27 : decode cX10_cats 27 = .ok (.bipush 47, 2) := by decide +kernel
theorem dX10_cats_29 : decode cX10_cats 29 = .ok (.iload_n 1, 1) := by decide +kernel
theorem dX10_cats_30 : decode cX10_cats 30 = .ok (.iadd, 1) := by decide +kernel
theorem dX10_cats_31 : decode cX10_cats 31 = .ok (.iload_n 2, 1) := by decide +kernel
theorem dX10_cats_32 : decode cX10_cats 32 = .ok (.invokevirtual 200, 3) := by decide +kernel
theorem dX10_cats_35 : decode cX10_cats 35 = .ok (.ireturn, 1) := by decide +kernel
theorem dX10_lead_0 : decode cX10_lead 0 = .ok (.aload_n 0, 1) := by decide +kernel
theorem dX10_lead_1 : decode cX10_lead 1 = .ok (.iload_n 1, 1) := by decide +kernel
theorem dX10_lead_2 : decode cX10_lead 2 = .ok (.invokevirtual 157, 3) := by decide +kernel
theorem dX10_lead_5 : decode cX10_lead 5 = .ok (.iconst 1, 1) := by decide +kernel
theorem dX10_lead_6 : decode cX10_lead 6 = .ok (.iload_n 1, 1) := by decide +kernel
theorem dX10_lead_7 : decode cX10_lead 7 = .ok (.ishl, 1) := by decide +kernel
theorem dX10_lead_8 : decode cX10_lead 8 = .ok (.istore_n 3, 1) := by decide +kernel
theorem dX10_lead_9 : decode cX10_lead 9 = .ok (.aload_n 0, 1) := by decide +kernel
theorem dX10_lead_10 : decode cX10_lead 10 = .ok (.getfield 43, 3) := by decide +kernel
theorem dX10_lead_13 : decode cX10_lead 13 = .ok (.getfield 122, 3) := by decide +kernel
theorem dX10_lead_16 : decode cX10_lead 16 = .ok (.bipush 61, 2) := by decide +kernel
theorem dX10_lead_18 : decode cX10_lead 18 = .ok (.iaload, 1) := by decide +kernel
theorem dX10_lead_19 : decode cX10_lead 19 = .ok (.iload_n 3, 1) := by decide +kernel
theorem dX10_lead_20 : decode cX10_lead 20 = .ok (.iand, 1) := by decide +kernel
theorem dX10_lead_21 : decode cX10_lead 21 = .ok (.ifCond .eq 7, 3) := by decide +kernel
theorem dX10_lead_24 : decode cX10_lead 24 = .ok (.iconst 1, 1) := by decide +kernel
theorem dX10_lead_25 : decode cX10_lead 25 = .ok (.goto 4, 3) := by decide +kernel
theorem dX10_lead_28 : decode cX10_lead 28 = .ok (.iconst 0, 1) := by decide +kernel
theorem dX10_lead_29 : decode cX10_lead 29 = .ok (.istore 4, 2) := by decide +kernel
theorem dX10_lead_31 : decode cX10_lead 31 = .ok (.iload 4, 2) := by decide +kernel
theorem dX10_lead_33 : decode cX10_lead 33 = .ok (.iload_n 2, 1) := by decide +kernel
theorem dX10_lead_34 : decode cX10_lead 34 = .ok (.if_icmp .eq 11, 3) := by decide +kernel
theorem dX10_lead_37 : decode cX10_lead 37 = .ok (.aload_n 0, 1) := by decide +kernel
theorem dX10_lead_38 : decode cX10_lead 38 = .ok (.iload_n 1, 1) := by decide +kernel
theorem dX10_lead_39 : decode cX10_lead 39 = .ok (.invokevirtual 166, 3) := by decide +kernel
theorem dX10_lead_42 : decode cX10_lead 42 = .ok (.ifCond .eq 14, 3) := by decide +kernel
theorem dX10_lead_45 : decode cX10_lead 45 = .ok (.aload_n 0, 1) := by decide +kernel
theorem dX10_lead_46 : decode cX10_lead 46 = .ok (.getfield 43, 3) := by decide +kernel
theorem dX10_lead_49 : decode cX10_lead 49 = .ok (.iconst 1, 1) := by decide +kernel
theorem dX10_lead_50 : decode cX10_lead 50 = .ok (.invokevirtual 104, 3) := by decide +kernel
theorem dX10_lead_53 : decode cX10_lead 53 = .ok (.pop, 1) := by decide +kernel
theorem dX10_lead_54 : decode cX10_lead 54 = .ok (.iconst 0, 1) := by decide +kernel
theorem dX10_lead_55 : decode cX10_lead 55 = .ok (.ireturn, 1) := by decide +kernel
theorem dX10_lead_56 : decode cX10_lead 56 = .ok (.aload_n 0, 1) := by decide +kernel
theorem dX10_lead_57 : decode cX10_lead 57 = .ok (.getfield 43, 3) := by decide +kernel
theorem dX10_lead_60 : decode cX10_lead 60 = .ok (.bipush 61, 2) := by decide +kernel
theorem dX10_lead_62 : decode cX10_lead 62 = .ok (.aload_n 0, 1) := by decide +kernel
theorem dX10_lead_63 : decode cX10_lead 63 = .ok (.getfield 43, 3) := by decide +kernel
theorem dX10_lead_66 : decode cX10_lead 66 = .ok (.getfield 122, 3) := by decide +kernel
theorem dX10_lead_69 : decode cX10_lead 69 = .ok (.bipush 61, 2) := by decide +kernel
theorem dX10_lead_71 : decode cX10_lead 71 = .ok (.iaload, 1) := by decide +kernel
theorem dX10_lead_72 : decode cX10_lead 72 = .ok (.iload_n 3, 1) := by decide +kernel
theorem dX10_lead_73 : decode cX10_lead 73 = .ok (.ixor, 1) := by decide +kernel
theorem dX10_lead_74 : decode cX10_lead 74 = .ok (.invokevirtual 200, 3) := by decide +kernel
theorem dX10_lead_77 : decode cX10_lead 77 = .ok (.pop, 1) := by decide +kernel
theorem dX10_lead_78 : decode cX10_lead 78 = .ok (.iconst 1, 1) := by decide +kernel
theorem dX10_lead_79 : decode cX10_lead 79 = .ok (.ireturn, 1) := by decide +kernel
theorem dX10_temper_0 : decode cX10_temper 0 = .ok (.aload_n 0, 1) := by decide +kernel
theorem dX10_temper_1 : decode cX10_temper 1 = .ok (.iload_n 1, 1) := by decide +kernel
theorem dX10_temper_2 : decode cX10_temper 2 = .ok (.invokevirtual 157, 3) := by decide +kernel
theorem dX10_temper_5 : decode cX10_temper 5 = .ok (.iload_n 2, 1) := by decide +kernel
theorem dX10_temper_6 : decode cX10_temper 6 = .ok (.ifCond .lt 17, 3) := by decide +kernel
theorem dX10_temper_9 : decode cX10_temper 9 = .ok (.iload_n 2, 1) := by decide +kernel
theorem dX10_temper_10 : decode cX10_temper 10 = .ok (.bipush 9, 2) := by decide +kernel
theorem dX10_temper_12 : decode cX10_temper 12 = .ok (.if_icmp .gt 11, 3) := by decide +kernel
theorem dX10_temper_15 : decode cX10_temper 15 = .ok (.aload_n 0, 1) := by decide +kernel
theorem dX10_temper_16 : decode cX10_temper 16 = .ok (.iload_n 1, 1) := by decide +kernel
theorem dX10_temper_17 : decode cX10_temper 17 = .ok (.invokevirtual 166, 3) := by decide +kernel
theorem dX10_temper_20 : decode cX10_temper 20 = .ok (.ifCond .eq 12, 3) := by decide +kernel
theorem dX10_temper_23 : decode cX10_temper 23 = .ok (.aload_n 0, 1) := by decide +kernel
theorem dX10_temper_24 : decode cX10_temper 24 = .ok (.getfield 43, 3) := by decide +kernel
theorem dX10_temper_27 : decode cX10_temper 27 = .ok (.iconst 1, 1) := by decide +kernel
theorem dX10_temper_28 : decode cX10_temper 28 = .ok (.invokevirtual 104, 3) := by decide +kernel
theorem dX10_temper_31 : decode cX10_temper 31 = .ok (.ireturn, 1) := by decide +kernel
theorem dX10_temper_32 : decode cX10_temper 32 = .ok (.aload_n 0, 1) := by decide +kernel
theorem dX10_temper_33 : decode cX10_temper 33 = .ok (.getfield 43, 3) := by decide +kernel
theorem dX10_temper_36 : decode cX10_temper 36 = .ok (.bipush 8, 2) := by decide +kernel
theorem dX10_temper_38 : decode cX10_temper 38 = .ok (.iload_n 1, 1) := by decide +kernel
theorem dX10_temper_39 : decode cX10_temper 39 = .ok (.iadd, 1) := by decide +kernel
theorem dX10_temper_40 : decode cX10_temper 40 = .ok (.iload_n 2, 1) := by decide +kernel
theorem dX10_temper_41 : decode cX10_temper 41 = .ok (.invokevirtual 200, 3) := by decide +kernel
theorem dX10_temper_44 : decode cX10_temper 44 = .ok (.ireturn, 1) := by decide +kernel
theorem dX10_undo_0 : decode cX10_undo 0 = .ok (.aload_n 0, 1) := by decide +kernel
theorem dX10_undo_1 : decode cX10_undo 1 = .ok (.getfield 43, 3) := by decide +kernel
theorem dX10_undo_4 : decode cX10_undo 4 = .ok (.getfield 133, 3) := by decide +kernel
theorem dX10_undo_7 : decode cX10_undo 7 = .ok (.aload_n 0, 1) := by decide +kernel
theorem dX10_undo_8 : decode cX10_undo 8 = .ok (.getfield 43, 3) := by decide +kernel
theorem dX10_undo_11 : decode cX10_undo 11 = .ok (.getfield 122, 3) := by decide +kernel
theorem dX10_undo_14 : decode cX10_undo 14 = .ok (.invokevirtual 203, 3) := by decide +kernel
theorem dX10_undo_17 : decode cX10_undo 17 = .ok (.ireturn, 1) := by decide +kernel
theorem dX10_then_0 : decode cX10_then 0 = .ok (.aload_n 0, 1) := by decide +kernel
theorem dX10_then_1 : decode cX10_then 1 = .ok (.iload_n 1, 1) := by decide +kernel
theorem dX10_then_2 : decode cX10_then 2 = .ok (.invokevirtual 157, 3) := by decide +kernel
theorem dX10_then_5 : decode cX10_then 5 = .ok (.aload_n 0, 1) := by decide +kernel
theorem dX10_then_6 : decode cX10_then 6 = .ok (.iload_n 2, 1) := by decide +kernel
theorem dX10_then_7 : decode cX10_then 7 = .ok (.invokevirtual 206, 3) := by decide +kernel
theorem dX10_then_10 : decode cX10_then 10 = .ok (.aload_n 0, 1) := by decide +kernel
theorem dX10_then_11 : decode cX10_then 11 = .ok (.iload_n 2, 1) := by decide +kernel
theorem dX10_then_12 : decode cX10_then 12 = .ok (.invokevirtual 209, 3) := by decide +kernel
theorem dX10_then_15 : decode cX10_then 15 = .ok (.aload_n 0, 1) := by decide +kernel
theorem dX10_then_16 : decode cX10_then 16 = .ok (.getfield 58, 3) := by decide +kernel
theorem dX10_then_19 : decode cX10_then 19 = .ok (.bipush 24, 2) := by decide +kernel
theorem dX10_then_21 : decode cX10_then 21 = .ok (.iload_n 1, 1) := by decide +kernel
theorem dX10_then_22 : decode cX10_then 22 = .ok (.iadd, 1) := by decide +kernel
theorem dX10_then_23 : decode cX10_then 23 = .ok (.iaload, 1) := by decide +kernel
theorem dX10_then_24 : decode cX10_then 24 = .ok (.ireturn, 1) := by decide +kernel
theorem dX10_purse_0 : decode cX10_purse 0 = .ok (.aload_n 0, 1) := by decide +kernel
theorem dX10_purse_1 : decode cX10_purse 1 = .ok (.iload_n 1, 1) := by decide +kernel
theorem dX10_purse_2 : decode cX10_purse 2 = .ok (.invokevirtual 176, 3) := by decide +kernel
theorem dX10_purse_5 : decode cX10_purse 5 = .ok (.aload_n 0, 1) := by decide +kernel
theorem dX10_purse_6 : decode cX10_purse 6 = .ok (.iload_n 3, 1) := by decide +kernel
theorem dX10_purse_7 : decode cX10_purse 7 = .ok (.iconst 1, 1) := by decide +kernel
theorem dX10_purse_8 : decode cX10_purse 8 = .ok (.invokevirtual 212, 3) := by decide +kernel
theorem dX10_purse_11 : decode cX10_purse 11 = .ok (.aload_n 0, 1) := by decide +kernel
theorem dX10_purse_12 : decode cX10_purse 12 = .ok (.iload_n 2, 1) := by decide +kernel
theorem dX10_purse_13 : decode cX10_purse 13 = .ok (.invokevirtual 206, 3) := by decide +kernel
theorem dX10_purse_16 : decode cX10_purse 16 = .ok (.aload_n 0, 1) := by decide +kernel
theorem dX10_purse_17 : decode cX10_purse 17 = .ok (.iload_n 2, 1) := by decide +kernel
theorem dX10_purse_18 : decode cX10_purse 18 = .ok (.invokevirtual 209, 3) := by decide +kernel
theorem dX10_purse_21 : decode cX10_purse 21 = .ok (.iload_n 3, 1) := by decide +kernel
theorem dX10_purse_22 : decode cX10_purse 22 = .ok (.ifCond .ne 15, 3) := by decide +kernel
theorem dX10_purse_25 : decode cX10_purse 25 = .ok (.aload_n 0, 1) := by decide +kernel
theorem dX10_purse_26 : decode cX10_purse 26 = .ok (.getfield 58, 3) := by decide +kernel
theorem dX10_purse_29 : decode cX10_purse 29 = .ok (.bipush 54, 2) := by decide +kernel
theorem dX10_purse_31 : decode cX10_purse 31 = .ok (.iload_n 1, 1) := by decide +kernel
theorem dX10_purse_32 : decode cX10_purse 32 = .ok (.iadd, 1) := by decide +kernel
theorem dX10_purse_33 : decode cX10_purse 33 = .ok (.iaload, 1) := by decide +kernel
theorem dX10_purse_34 : decode cX10_purse 34 = .ok (.goto 12, 3) := by decide +kernel
theorem dX10_purse_37 : decode cX10_purse 37 = .ok (.aload_n 0, 1) := by decide +kernel
theorem dX10_purse_38 : decode cX10_purse 38 = .ok (.getfield 58, 3) := by decide +kernel
theorem dX10_purse_41 : decode cX10_purse 41 = .ok (.bipush 40, 2) := by decide +kernel
theorem dX10_purse_43 : decode cX10_purse 43 = .ok (.iload_n 1, 1) := by decide +kernel
theorem dX10_purse_44 : decode cX10_purse 44 = .ok (.iadd, 1) := by decide +kernel
theorem dX10_purse_45 : decode cX10_purse 45 = .ok (.iaload, 1) := by decide +kernel
theorem dX10_purse_46 : decode cX10_purse 46 = .ok (.ireturn, 1) := by decide +kernel
theorem dX10_sealed_0 : decode cX10_sealed 0 = .ok (.aload_n 0, 1) := by decide +kernel
theorem dX10_sealed_1 : decode cX10_sealed 1 = .ok (.iload_n 1, 1) := by decide +kernel
theorem dX10_sealed_2 : decode cX10_sealed 2 = .ok (.invokevirtual 157, 3) := by decide +kernel
theorem dX10_sealed_5 : decode cX10_sealed 5 = .ok (.aload_n 0, 1) := by decide +kernel
theorem dX10_sealed_6 : decode cX10_sealed 6 = .ok (.iload_n 1, 1) := by decide +kernel
theorem dX10_sealed_7 : decode cX10_sealed 7 = .ok (.invokevirtual 166, 3) := by decide +kernel
theorem dX10_sealed_10 : decode cX10_sealed 10 = .ok (.ifCond .eq 5, 3) := by decide +kernel
theorem dX10_sealed_13 : decode cX10_sealed 13 = .ok (.iconst 0, 1) := by decide +kernel
theorem dX10_sealed_14 : decode cX10_sealed 14 = .ok (.ireturn, 1) := by decide +kernel
theorem dX10_sealed_15 : decode cX10_sealed 15 = .ok (.aload_n 0, 1) := by decide +kernel
theorem dX10_sealed_16 : decode cX10_sealed 16 = .ok (.getfield 24, 3) := by decide +kernel
theorem dX10_sealed_19 : decode cX10_sealed 19 = .ok (.aload_n 0, 1) := by decide +kernel
theorem dX10_sealed_20 : decode cX10_sealed 20 = .ok (.getfield 43, 3) := by decide +kernel
theorem dX10_sealed_23 : decode cX10_sealed 23 = .ok (.getfield 122, 3) := by decide +kernel
theorem dX10_sealed_26 : decode cX10_sealed 26 = .ok (.iload_n 1, 1) := by decide +kernel
theorem dX10_sealed_27 : decode cX10_sealed 27 = .ok (.invokevirtual 216, 3) := by decide +kernel
theorem dX10_sealed_30 : decode cX10_sealed 30 = .ok (.aload_n 0, 1) := by decide +kernel
theorem dX10_sealed_31 : decode cX10_sealed 31 = .ok (.getfield 43, 3) := by decide +kernel
theorem dX10_sealed_34 : decode cX10_sealed 34 = .ok (.getfield 122, 3) := by decide +kernel
theorem dX10_sealed_37 : decode cX10_sealed 37 = .ok (.bipush 16, 2) := by decide +kernel
theorem dX10_sealed_39 : decode cX10_sealed 39 = .ok (.iload_n 1, 1) := by decide +kernel
theorem dX10_sealed_40 : decode cX10_sealed 40 = .ok (.iadd, 1) := by decide +kernel
theorem dX10_sealed_41 : decode cX10_sealed 41 = .ok (.iaload, 1) := by decide +kernel
theorem dX10_sealed_42 : decode cX10_sealed 42 = .ok (.aload_n 0, 1) := by decide +kernel
theorem dX10_sealed_43 : decode cX10_sealed 43 = .ok (.getfield 24, 3) := by decide +kernel
theorem dX10_sealed_46 : decode cX10_sealed 46 = .ok (.iload_n 1, 1) := by decide +kernel
theorem dX10_sealed_47 : decode cX10_sealed 47 = .ok (.invokevirtual 219, 3) := by decide +kernel
theorem dX10_sealed_50 : decode cX10_sealed 50 = .ok (.imul, 1) := by decide +kernel
theorem dX10_sealed_51 : decode cX10_sealed 51 = .ok (.iadd, 1) := by decide +kernel
theorem dX10_sealed_52 : decode cX10_sealed 52 = .ok (.istore_n 2, 1) := by decide +kernel
theorem dX10_sealed_53 : decode cX10_sealed 53 = .ok (.iload_n 2, 1) := by decide +kernel
theorem dX10_sealed_54 : decode cX10_sealed 54 = .ok (.bipush 99, 2) := by decide +kernel
theorem dX10_sealed_56 : decode cX10_sealed 56 = .ok (.if_icmp .gt 7, 3) := by decide +kernel
theorem dX10_sealed_59 : decode cX10_sealed 59 = .ok (.iload_n 2, 1) := by decide +kernel
theorem dX10_sealed_60 : decode cX10_sealed 60 = .ok (.goto 4, 3) := by decide +kernel
theorem dX10_sealed_63 : decode cX10_sealed 63 = .ok (.iconst (-1), 1) := by decide +kernel
theorem dX10_sealed_64 : decode cX10_sealed 64 = .ok (.ireturn, 1) := by decide +kernel
theorem dX10_gets_0 : decode cX10_gets 0 = .ok (.aload_n 0, 1) := by decide +kernel
theorem dX10_gets_1 : decode cX10_gets 1 = .ok (.iload_n 1, 1) := by decide +kernel
theorem dX10_gets_2 : decode cX10_gets 2 = .ok (.invokevirtual 176, 3) := by decide +kernel
theorem dX10_gets_5 : decode cX10_gets 5 = .ok (.aload_n 0, 1) := by decide +kernel
theorem dX10_gets_6 : decode cX10_gets 6 = .ok (.iload_n 2, 1) := by decide +kernel
theorem dX10_gets_7 : decode cX10_gets 7 = .ok (.invokevirtual 157, 3) := by decide +kernel
theorem dX10_gets_10 : decode cX10_gets 10 = .ok (.aload_n 0, 1) := by decide +kernel
theorem dX10_gets_11 : decode cX10_gets 11 = .ok (.iload_n 2, 1) := by decide +kernel
theorem dX10_gets_12 : decode cX10_gets 12 = .ok (.iload_n 1, 1) := by decide +kernel
theorem dX10_gets_13 : decode cX10_gets 13 = .ok (.iconst 1, 1) := by decide +kernel
theorem dX10_gets_14 : decode cX10_gets 14 = .ok (.invokevirtual 222, 3) := by decide +kernel
theorem dX10_gets_17 : decode cX10_gets 17 = .ok (.ireturn, 1) := by decide +kernel
theorem dX10_loses_0 : decode cX10_loses 0 = .ok (.aload_n 0, 1) := by decide +kernel
theorem dX10_loses_1 : decode cX10_loses 1 = .ok (.iload_n 1, 1) := by decide +kernel
theorem dX10_loses_2 : decode cX10_loses 2 = .ok (.invokevirtual 157, 3) := by decide +kernel
theorem dX10_loses_5 : decode cX10_loses 5 = .ok (.aload_n 0, 1) := by decide +kernel
theorem dX10_loses_6 : decode cX10_loses 6 = .ok (.getfield 43, 3) := by decide +kernel
theorem dX10_loses_9 : decode cX10_loses 9 = .ok (.getfield 122, 3) := by decide +kernel
theorem dX10_loses_12 : decode cX10_loses 12 = .ok (.bipush 24, 2) := by decide +kernel
theorem dX10_loses_14 : decode cX10_loses 14 = .ok (.iload_n 1, 1) := by decide +kernel
theorem dX10_loses_15 : decode cX10_loses 15 = .ok (.iadd, 1) := by decide +kernel
theorem dX10_loses_16 : decode cX10_loses 16 = .ok (.iaload, 1) := by decide +kernel
theorem dX10_loses_17 : decode cX10_loses 17 = .ok (.istore_n 2, 1) := by decide +kernel
theorem dX10_loses_18 : decode cX10_loses 18 = .ok (.iload_n 2, 1) := by decide +kernel
theorem dX10_loses_19 : decode cX10_loses 19 = .ok (.iconst (-1), 1) := by decide +kernel
theorem dX10_loses_20 : decode cX10_loses 20 = .ok (.if_icmp .ne 7, 3) := by decide +kernel
theorem dX10_loses_23 : decode cX10_loses 23 = .ok (.iconst (-1), 1) := by decide +kernel
theorem dX10_loses_24 : decode cX10_loses 24 = .ok (.goto 10, 3) := by decide +kernel
theorem dX10_loses_27 : decode cX10_loses 27 = .ok (.aload_n 0, 1) := by decide +kernel
theorem dX10_loses_28 : decode cX10_loses 28 = .ok (.iload_n 1, 1) := by decide +kernel
theorem dX10_loses_29 : decode cX10_loses 29 = .ok (.iload_n 2, 1) := by decide +kernel
theorem dX10_loses_30 : decode cX10_loses 30 = .ok (.iconst 0, 1) := by decide +kernel
theorem dX10_loses_31 : decode cX10_loses 31 = .ok (.invokevirtual 222, 3) := by decide +kernel
theorem dX10_loses_34 : decode cX10_loses 34 = .ok (.ireturn, 1) := by decide +kernel
theorem dX10_most_0 : decode cX10_most 0 = .ok (.aload_n 0, 1) := by decide +kernel
theorem dX10_most_1 : decode cX10_most 1 = .ok (.iload_n 1, 1) := by decide +kernel
theorem dX10_most_2 : decode cX10_most 2 = .ok (.invokevirtual 206, 3) := by decide +kernel
theorem dX10_most_5 : decode cX10_most 5 = .ok (.aload_n 0, 1) := by decide +kernel
theorem dX10_most_6 : decode cX10_most 6 = .ok (.iload_n 1, 1) := by decide +kernel
theorem dX10_most_7 : decode cX10_most 7 = .ok (.invokevirtual 209, 3) := by decide +kernel
theorem dX10_most_10 : decode cX10_most 10 = .ok (.iconst (-1), 1) := by decide +kernel
theorem dX10_most_11 : decode cX10_most 11 = .ok (.istore_n 2, 1) := by decide +kernel
theorem dX10_most_12 : decode cX10_most 12 = .ok (.iconst 0, 1) := by decide +kernel
theorem dX10_most_13 : decode cX10_most 13 = .ok (.istore_n 3, 1) := by decide +kernel
theorem dX10_most_14 : decode cX10_most 14 = .ok (.iconst 0, 1) := by decide +kernel
theorem dX10_most_15 : decode cX10_most 15 = .ok (.istore 4, 2) := by decide +kernel
theorem dX10_most_17 : decode cX10_most 17 = .ok (.iload 4, 2) := by decide +kernel
theorem dX10_most_19 : decode cX10_most 19 = .ok (.aload_n 0, 1) := by decide +kernel
theorem dX10_most_20 : decode cX10_most 20 = .ok (.getfield 32, 3) := by decide +kernel
theorem dX10_most_23 : decode cX10_most 23 = .ok (.getfield 116, 3) := by decide +kernel
theorem dX10_most_26 : decode cX10_most 26 = .ok (.if_icmp .ge 39, 3) := by decide +kernel
theorem dX10_most_29 : decode cX10_most 29 = .ok (.aload_n 0, 1) := by decide +kernel
theorem dX10_most_30 : decode cX10_most 30 = .ok (.getfield 24, 3) := by decide +kernel
theorem dX10_most_33 : decode cX10_most 33 = .ok (.aload_n 0, 1) := by decide +kernel
theorem dX10_most_34 : decode cX10_most 34 = .ok (.getfield 58, 3) := by decide +kernel
theorem dX10_most_37 : decode cX10_most 37 = .ok (.iload 4, 2) := by decide +kernel
theorem dX10_most_39 : decode cX10_most 39 = .ok (.invokevirtual 125, 3) := by decide +kernel
theorem dX10_most_42 : decode cX10_most 42 = .ok (.invokestatic 226, 3) := by decide +kernel
theorem dX10_most_45 : decode cX10_most 45 = .ok (.istore 5, 2) := by decide +kernel
theorem dX10_most_47 : decode cX10_most 47 = .ok (.iload 5, 2) := by decide +kernel
theorem dX10_most_49 : decode cX10_most 49 = .ok (.iload_n 3, 1) := by decide +kernel
theorem dX10_most_50 : decode cX10_most 50 = .ok (.if_icmp .le 9, 3) := by decide +kernel
theorem dX10_most_53 : decode cX10_most 53 = .ok (.iload 5, 2) := by decide +kernel
theorem dX10_most_55 : decode cX10_most 55 = .ok (.istore_n 3, 1) := by decide +kernel
theorem dX10_most_56 : decode cX10_most 56 = .ok (.iload 4, 2) := by decide +kernel
theorem dX10_most_58 : decode cX10_most 58 = .ok (.istore_n 2, 1) := by decide +kernel
theorem dX10_most_59 : decode cX10_most 59 = .ok (.iinc 4 1, 3) := by decide +kernel
theorem dX10_most_62 : decode cX10_most 62 = .ok (.goto (-45), 3) := by decide +kernel
theorem dX10_most_65 : decode cX10_most 65 = .ok (.iload_n 2, 1) := by decide +kernel
theorem dX10_most_66 : decode cX10_most 66 = .ok (.ireturn, 1) := by decide +kernel
theorem dX10_row_0 : decode cX10_row 0 = .ok (.aload_n 0, 1) := by decide +kernel
theorem dX10_row_1 : decode cX10_row 1 = .ok (.iload_n 1, 1) := by decide +kernel
theorem dX10_row_2 : decode cX10_row 2 = .ok (.invokevirtual 176, 3) := by decide +kernel
theorem dX10_row_5 : decode cX10_row 5 = .ok (.aload_n 0, 1) := by decide +kernel
theorem dX10_row_6 : decode cX10_row 6 = .ok (.iload_n 2, 1) := by decide +kernel
theorem dX10_row_7 : decode cX10_row 7 = .ok (.iconst 1, 1) := by decide +kernel
theorem dX10_row_8 : decode cX10_row 8 = .ok (.invokevirtual 212, 3) := by decide +kernel
theorem dX10_row_11 : decode cX10_row 11 = .ok (.iconst 0, 1) := by decide +kernel
theorem dX10_row_12 : decode cX10_row 12 = .ok (.istore_n 3, 1) := by decide +kernel
theorem dX10_row_13 : decode cX10_row 13 = .ok (.iconst (-1), 1) := by decide +kernel
theorem dX10_row_14 : decode cX10_row 14 = .ok (.istore 4, 2) := by decide +kernel
theorem dX10_row_16 : decode cX10_row 16 = .ok (.iconst 0, 1) := by decide +kernel
theorem dX10_row_17 : decode cX10_row 17 = .ok (.istore 5, 2) := by decide +kernel
theorem dX10_row_19 : decode cX10_row 19 = .ok (.iconst 0, 1) := by decide +kernel
theorem dX10_row_20 : decode cX10_row 20 = .ok (.istore 6, 2) := by decide +kernel
theorem dX10_row_22 : decode cX10_row 22 = .ok (.iload 6, 2) := by decide +kernel
theorem dX10_row_24 : decode cX10_row 24 = .ok (.aload_n 0, 1) := by decide +kernel
theorem dX10_row_25 : decode cX10_row 25 = .ok (.getfield 32, 3) := by decide +kernel
theorem dX10_row_28 : decode cX10_row 28 = .ok (.getfield 113, 3) := by decide +kernel
theorem dX10_row_31 : decode cX10_row 31 = .ok (.if_icmp .ge 54, 3) := by decide +kernel
theorem dX10_row_34 : decode cX10_row 34 = .ok (.aload_n 0, 1) := by decide +kernel
theorem dX10_row_35 : decode cX10_row 35 = .ok (.getfield 43, 3) := by decide +kernel
theorem dX10_row_38 : decode cX10_row 38 = .ok (.getfield 122, 3) := by decide +kernel
theorem dX10_row_41 : decode cX10_row 41 = .ok (.bipush 24, 2) := by decide +kernel
theorem dX10_row_43 : decode cX10_row 43 = .ok (.iload 6, 2) := by decide +kernel
theorem dX10_row_45 : decode cX10_row 45 = .ok (.iadd, 1) := by decide +kernel
theorem dX10_row_46 : decode cX10_row 46 = .ok (.iaload, 1) := by decide +kernel
theorem dX10_row_47 : decode cX10_row 47 = .ok (.iload_n 1, 1) := by decide +kernel
theorem dX10_row_48 : decode cX10_row 48 = .ok (.if_icmp .ne 10, 3) := by decide +kernel
theorem dX10_row_51 : decode cX10_row 51 = .ok (.iload 5, 2) := by decide +kernel
theorem dX10_row_53 : decode cX10_row 53 = .ok (.iconst 1, 1) := by decide +kernel
theorem dX10_row_54 : decode cX10_row 54 = .ok (.iadd, 1) := by decide +kernel
theorem dX10_row_55 : decode cX10_row 55 = .ok (.goto 4, 3) := by decide +kernel
theorem dX10_row_58 : decode cX10_row 58 = .ok (.iconst 0, 1) := by decide +kernel
theorem dX10_row_59 : decode cX10_row 59 = .ok (.istore 5, 2) := by decide +kernel
theorem dX10_row_61 : decode cX10_row 61 = .ok (.iload 5, 2) := by decide +kernel
theorem dX10_row_63 : decode cX10_row 63 = .ok (.iload_n 3, 1) := by decide +kernel
theorem dX10_row_64 : decode cX10_row 64 = .ok (.if_icmp .le 15, 3) := by decide +kernel
theorem dX10_row_67 : decode cX10_row 67 = .ok (.iload 5, 2) := by decide +kernel
theorem dX10_row_69 : decode cX10_row 69 = .ok (.istore_n 3, 1) := by decide +kernel
theorem dX10_row_70 : decode cX10_row 70 = .ok (.iload 6, 2) := by decide +kernel
theorem dX10_row_72 : decode cX10_row 72 = .ok (.iload 5, 2) := by decide +kernel
theorem dX10_row_74 : decode cX10_row 74 = .ok (.isub, 1) := by decide +kernel
theorem dX10_row_75 : decode cX10_row 75 = .ok (.iconst 1, 1) := by decide +kernel
theorem dX10_row_76 : decode cX10_row 76 = .ok (.iadd, 1) := by decide +kernel
theorem dX10_row_77 : decode cX10_row 77 = .ok (.istore 4, 2) := by decide +kernel
theorem dX10_row_79 : decode cX10_row 79 = .ok (.iinc 6 1, 3) := by decide +kernel
theorem dX10_row_82 : decode cX10_row 82 = .ok (.goto (-60), 3) := by decide +kernel
theorem dX10_row_85 : decode cX10_row 85 = .ok (.iload_n 2, 1) := by decide +kernel
theorem dX10_row_86 : decode cX10_row 86 = .ok (.ifCond .ne 7, 3) := by decide +kernel
theorem dX10_row_89 : decode cX10_row 89 = .ok (.iload_n 3, 1) := by decide +kernel
theorem dX10_row_90 : decode cX10_row 90 = .ok (.goto 5, 3) := by decide +kernel
theorem dX10_row_93 : decode cX10_row 93 = .ok (.iload 4, 2) := by decide +kernel
theorem dX10_row_95 : decode cX10_row 95 = .ok (.ireturn, 1) := by decide +kernel
theorem dX10_empty_0 : decode cX10_empty 0 = .ok (.aload_n 0, 1) := by decide +kernel
theorem dX10_empty_1 : decode cX10_empty 1 = .ok (.iload_n 1, 1) := by decide +kernel
theorem dX10_empty_2 : decode cX10_empty 2 = .ok (.invokevirtual 206, 3) := by decide +kernel
theorem dX10_empty_5 : decode cX10_empty 5 = .ok (.aload_n 0, 1) := by decide +kernel
theorem dX10_empty_6 : decode cX10_empty 6 = .ok (.iload_n 1, 1) := by decide +kernel
theorem dX10_empty_7 : decode cX10_empty 7 = .ok (.invokevirtual 209, 3) := by decide +kernel
theorem dX10_empty_10 : decode cX10_empty 10 = .ok (.aload_n 0, 1) := by decide +kernel
theorem dX10_empty_11 : decode cX10_empty 11 = .ok (.getfield 24, 3) := by decide +kernel
theorem dX10_empty_14 : decode cX10_empty 14 = .ok (.aload_n 0, 1) := by decide +kernel
theorem dX10_empty_15 : decode cX10_empty 15 = .ok (.getfield 58, 3) := by decide +kernel
theorem dX10_empty_18 : decode cX10_empty 18 = .ok (.iconst (-1), 1) := by decide +kernel
theorem dX10_empty_19 : decode cX10_empty 19 = .ok (.invokevirtual 125, 3) := by decide +kernel
theorem dX10_empty_22 : decode cX10_empty 22 = .ok (.ireturn, 1) := by decide +kernel
theorem dX10_liking_0 : decode cX10_liking 0 = .ok (.aload_n 0, 1) := by decide +kernel
theorem dX10_liking_1 : decode cX10_liking 1 = .ok (.iload_n 1, 1) := by decide +kernel
theorem dX10_liking_2 : decode cX10_liking 2 = .ok (.invokevirtual 157, 3) := by decide +kernel
theorem dX10_liking_5 : decode cX10_liking 5 = .ok (.aload_n 0, 1) := by decide +kernel
theorem dX10_liking_6 : decode cX10_liking 6 = .ok (.iload_n 2, 1) := by decide +kernel
theorem dX10_liking_7 : decode cX10_liking 7 = .ok (.invokevirtual 176, 3) := by decide +kernel
theorem dX10_liking_10 : decode cX10_liking 10 = .ok (.aload_n 0, 1) := by decide +kernel
theorem dX10_liking_11 : decode cX10_liking 11 = .ok (.getfield 24, 3) := by decide +kernel
theorem dX10_liking_14 : decode cX10_liking 14 = .ok (.aload_n 0, 1) := by decide +kernel
theorem dX10_liking_15 : decode cX10_liking 15 = .ok (.getfield 43, 3) := by decide +kernel
theorem dX10_liking_18 : decode cX10_liking 18 = .ok (.getfield 122, 3) := by decide +kernel
theorem dX10_liking_21 : decode cX10_liking 21 = .ok (.iload_n 1, 1) := by decide +kernel
theorem dX10_liking_22 : decode cX10_liking 22 = .ok (.iload_n 2, 1) := by decide +kernel
theorem dX10_liking_23 : decode cX10_liking 23 = .ok (.invokevirtual 231, 3) := by decide +kernel
theorem dX10_liking_26 : decode cX10_liking 26 = .ok (.ireturn, 1) := by decide +kernel
theorem dX10_leastChops_0 : decode cX10_leastChops 0 = .ok (.aload_n 0, 1) := by decide +kernel
theorem dX10_leastChops_1 : decode cX10_leastChops 1 = .ok (.iload_n 1, 1) := by decide +kernel
theorem dX10_leastChops_2 : decode cX10_leastChops 2 = .ok (.invokevirtual 176, 3) := by decide +kernel
theorem dX10_leastChops_5 : decode cX10_leastChops 5 = .ok (.aload_n 0, 1) := by decide +kernel
theorem dX10_leastChops_6 : decode cX10_leastChops 6 = .ok (.iload_n 2, 1) := by decide +kernel
theorem dX10_leastChops_7 : decode cX10_leastChops 7 = .ok (.invokevirtual 157, 3) := by decide +kernel
theorem dX10_leastChops_10 : decode cX10_leastChops 10 = .ok (.iconst 0, 1) := by decide +kernel
theorem dX10_leastChops_11 : decode cX10_leastChops 11 = .ok (.istore_n 3, 1) := by decide +kernel
theorem dX10_leastChops_12 : decode cX10_leastChops 12 = .ok (.iload_n 3, 1) := by decide +kernel
theorem dX10_leastChops_13 : decode cX10_leastChops 13 = .ok (.bipush 20, 2) := by decide +kernel
theorem dX10_leastChops_15 : decode cX10_leastChops 15 = .ok (.if_icmp .gt 33, 3) := by decide +kernel
theorem dX10_leastChops_18 : decode cX10_leastChops 18 = .ok (.aload_n 0, 1) := by decide +kernel
theorem dX10_leastChops_19 : decode cX10_leastChops 19 = .ok (.bipush 40, 2) := by decide +kernel
theorem dX10_leastChops_21 : decode cX10_leastChops 21 = .ok (.iload_n 1, 1) := by decide +kernel
theorem dX10_leastChops_22 : decode cX10_leastChops 22 = .ok (.iadd, 1) := by decide +kernel
theorem dX10_leastChops_23 : decode cX10_leastChops 23 = .ok (.iload_n 3, 1) := by decide +kernel
theorem dX10_leastChops_24 : decode cX10_leastChops 24 = .ok (.invokevirtual 235, 3) := by decide +kernel
theorem dX10_leastChops_27 : decode cX10_leastChops 27 = .ok (.aload_n 0, 1) := by decide +kernel
theorem dX10_leastChops_28 : decode cX10_leastChops 28 = .ok (.getfield 58, 3) := by decide +kernel
theorem dX10_leastChops_31 : decode cX10_leastChops 31 = .ok (.bipush 24, 2) := by decide +kernel
theorem dX10_leastChops_33 : decode cX10_leastChops 33 = .ok (.iload_n 2, 1) := by decide +kernel
theorem dX10_leastChops_34 : decode cX10_leastChops 34 = .ok (.iadd, 1) := by decide +kernel
theorem dX10_leastChops_35 : decode cX10_leastChops 35 = .ok (.iaload, 1) := by decide +kernel
theorem dX10_leastChops_36 : decode cX10_leastChops 36 = .ok (.iload_n 1, 1) := by decide +kernel
theorem dX10_leastChops_37 : decode cX10_leastChops 37 = .ok (.if_icmp .ne 5, 3) := by decide +kernel
theorem dX10_leastChops_40 : decode cX10_leastChops 40 = .ok (.iload_n 3, 1) := by decide +kernel
theorem dX10_leastChops_41 : decode cX10_leastChops 41 = .ok (.ireturn, 1) := by decide +kernel
theorem dX10_leastChops_42 : decode cX10_leastChops 42 = .ok (.iinc 3 1, 3) := by decide +kernel
theorem dX10_leastChops_45 : decode cX10_leastChops 45 = .ok (.goto (-33), 3) := by decide +kernel
theorem dX10_leastChops_48 : decode cX10_leastChops 48 = .ok (.iconst (-1), 1) := by decide +kernel
theorem dX10_leastChops_49 : decode cX10_leastChops 49 = .ok (.ireturn, 1) := by decide +kernel
theorem dX10_toWin_0 : decode cX10_toWin 0 = .ok (.aload_n 0, 1) := by decide +kernel
theorem dX10_toWin_1 : decode cX10_toWin 1 = .ok (.iload_n 1, 1) := by decide +kernel
theorem dX10_toWin_2 : decode cX10_toWin 2 = .ok (.invokevirtual 176, 3) := by decide +kernel
theorem dX10_toWin_5 : decode cX10_toWin 5 = .ok (.aload_n 0, 1) := by decide +kernel
theorem dX10_toWin_6 : decode cX10_toWin 6 = .ok (.iload_n 2, 1) := by decide +kernel
theorem dX10_toWin_7 : decode cX10_toWin 7 = .ok (.iconst 1, 1) := by decide +kernel
theorem dX10_toWin_8 : decode cX10_toWin 8 = .ok (.invokevirtual 212, 3) := by decide +kernel
theorem dX10_toWin_11 : decode cX10_toWin 11 = .ok (.iconst (-1), 1) := by decide +kernel
theorem dX10_toWin_12 : decode cX10_toWin 12 = .ok (.istore_n 3, 1) := by decide +kernel
theorem dX10_toWin_13 : decode cX10_toWin 13 = .ok (.iconst 0, 1) := by decide +kernel
theorem dX10_toWin_14 : decode cX10_toWin 14 = .ok (.istore 4, 2) := by decide +kernel
theorem dX10_toWin_16 : decode cX10_toWin 16 = .ok (.iconst 0, 1) := by decide +kernel
theorem dX10_toWin_17 : decode cX10_toWin 17 = .ok (.istore 5, 2) := by decide +kernel
theorem dX10_toWin_19 : decode cX10_toWin 19 = .ok (.iload 5, 2) := by decide +kernel
theorem dX10_toWin_21 : decode cX10_toWin 21 = .ok (.bipush 20, 2) := by decide +kernel
theorem dX10_toWin_23 : decode cX10_toWin 23 = .ok (.if_icmp .gt 49, 3) := by decide +kernel
theorem dX10_toWin_26 : decode cX10_toWin 26 = .ok (.aload_n 0, 1) := by decide +kernel
theorem dX10_toWin_27 : decode cX10_toWin 27 = .ok (.bipush 40, 2) := by decide +kernel
theorem dX10_toWin_29 : decode cX10_toWin 29 = .ok (.iload_n 1, 1) := by decide +kernel
theorem dX10_toWin_30 : decode cX10_toWin 30 = .ok (.iadd, 1) := by decide +kernel
theorem dX10_toWin_31 : decode cX10_toWin 31 = .ok (.iload 5, 2) := by decide +kernel
theorem dX10_toWin_33 : decode cX10_toWin 33 = .ok (.invokevirtual 235, 3) := by decide +kernel
theorem dX10_toWin_36 : decode cX10_toWin 36 = .ok (.aload_n 0, 1) := by decide +kernel
theorem dX10_toWin_37 : decode cX10_toWin 37 = .ok (.getfield 24, 3) := by decide +kernel
theorem dX10_toWin_40 : decode cX10_toWin 40 = .ok (.aload_n 0, 1) := by decide +kernel
theorem dX10_toWin_41 : decode cX10_toWin 41 = .ok (.getfield 58, 3) := by decide +kernel
theorem dX10_toWin_44 : decode cX10_toWin 44 = .ok (.iload_n 1, 1) := by decide +kernel
theorem dX10_toWin_45 : decode cX10_toWin 45 = .ok (.invokevirtual 125, 3) := by decide +kernel
theorem dX10_toWin_48 : decode cX10_toWin 48 = .ok (.invokestatic 226, 3) := by decide +kernel
theorem dX10_toWin_51 : decode cX10_toWin 51 = .ok (.istore 6, 2) := by decide +kernel
theorem dX10_toWin_53 : decode cX10_toWin 53 = .ok (.iload 6, 2) := by decide +kernel
theorem dX10_toWin_55 : decode cX10_toWin 55 = .ok (.iload_n 3, 1) := by decide +kernel
theorem dX10_toWin_56 : decode cX10_toWin 56 = .ok (.if_icmp .le 10, 3) := by decide +kernel
theorem dX10_toWin_59 : decode cX10_toWin 59 = .ok (.iload 6, 2) := by decide +kernel
theorem dX10_toWin_61 : decode cX10_toWin 61 = .ok (.istore_n 3, 1) := by decide +kernel
theorem dX10_toWin_62 : decode cX10_toWin 62 = .ok (.iload 5, 2) := by decide +kernel
theorem dX10_toWin_64 : decode cX10_toWin 64 = .ok (.istore 4, 2) := by decide +kernel
theorem dX10_toWin_66 : decode cX10_toWin 66 = .ok (.iinc 5 1, 3) := by decide +kernel
theorem dX10_toWin_69 : decode cX10_toWin 69 = .ok (.goto (-50), 3) := by decide +kernel
theorem dX10_toWin_72 : decode cX10_toWin 72 = .ok (.iload_n 2, 1) := by decide +kernel
theorem dX10_toWin_73 : decode cX10_toWin 73 = .ok (.ifCond .ne 7, 3) := by decide +kernel
theorem dX10_toWin_76 : decode cX10_toWin 76 = .ok (.iload_n 3, 1) := by decide +kernel
theorem dX10_toWin_77 : decode cX10_toWin 77 = .ok (.goto 5, 3) := by decide +kernel
theorem dX10_toWin_80 : decode cX10_toWin 80 = .ok (.iload 4, 2) := by decide +kernel
theorem dX10_toWin_82 : decode cX10_toWin 82 = .ok (.ireturn, 1) := by decide +kernel
theorem dX10_ruin_0 : decode cX10_ruin 0 = .ok (.aload_n 0, 1) := by decide +kernel
theorem dX10_ruin_1 : decode cX10_ruin 1 = .ok (.iload_n 1, 1) := by decide +kernel
theorem dX10_ruin_2 : decode cX10_ruin 2 = .ok (.invokevirtual 176, 3) := by decide +kernel
theorem dX10_ruin_5 : decode cX10_ruin 5 = .ok (.aload_n 0, 1) := by decide +kernel
theorem dX10_ruin_6 : decode cX10_ruin 6 = .ok (.iconst 1, 1) := by decide +kernel
theorem dX10_ruin_7 : decode cX10_ruin 7 = .ok (.invokevirtual 209, 3) := by decide +kernel
theorem dX10_ruin_10 : decode cX10_ruin 10 = .ok (.aload_n 0, 1) := by decide +kernel
theorem dX10_ruin_11 : decode cX10_ruin 11 = .ok (.getfield 24, 3) := by decide +kernel
theorem dX10_ruin_14 : decode cX10_ruin 14 = .ok (.aload_n 0, 1) := by decide +kernel
theorem dX10_ruin_15 : decode cX10_ruin 15 = .ok (.getfield 58, 3) := by decide +kernel
theorem dX10_ruin_18 : decode cX10_ruin 18 = .ok (.iload_n 1, 1) := by decide +kernel
theorem dX10_ruin_19 : decode cX10_ruin 19 = .ok (.invokevirtual 125, 3) := by decide +kernel
theorem dX10_ruin_22 : decode cX10_ruin 22 = .ok (.invokestatic 226, 3) := by decide +kernel
theorem dX10_ruin_25 : decode cX10_ruin 25 = .ok (.istore_n 2, 1) := by decide +kernel
theorem dX10_ruin_26 : decode cX10_ruin 26 = .ok (.iconst (-1), 1) := by decide +kernel
theorem dX10_ruin_27 : decode cX10_ruin 27 = .ok (.istore_n 3, 1) := by decide +kernel
theorem dX10_ruin_28 : decode cX10_ruin 28 = .ok (.iconst 0, 1) := by decide +kernel
theorem dX10_ruin_29 : decode cX10_ruin 29 = .ok (.istore 4, 2) := by decide +kernel
theorem dX10_ruin_31 : decode cX10_ruin 31 = .ok (.iload 4, 2) := by decide +kernel
theorem dX10_ruin_33 : decode cX10_ruin 33 = .ok (.aload_n 0, 1) := by decide +kernel
theorem dX10_ruin_34 : decode cX10_ruin 34 = .ok (.getfield 32, 3) := by decide +kernel
theorem dX10_ruin_37 : decode cX10_ruin 37 = .ok (.getfield 116, 3) := by decide +kernel
theorem dX10_ruin_40 : decode cX10_ruin 40 = .ok (.if_icmp .ge 57, 3) := by decide +kernel
theorem dX10_ruin_43 : decode cX10_ruin 43 = .ok (.iload 4, 2) := by decide +kernel
theorem dX10_ruin_45 : decode cX10_ruin 45 = .ok (.iload_n 1, 1) := by decide +kernel
theorem dX10_ruin_46 : decode cX10_ruin 46 = .ok (.if_icmp .ne 6, 3) := by decide +kernel
theorem dX10_ruin_49 : decode cX10_ruin 49 = .ok (.goto 42, 3) := by decide +kernel
theorem dX10_ruin_52 : decode cX10_ruin 52 = .ok (.aload_n 0, 1) := by decide +kernel
theorem dX10_ruin_53 : decode cX10_ruin 53 = .ok (.bipush 47, 2) := by decide +kernel
theorem dX10_ruin_55 : decode cX10_ruin 55 = .ok (.iload 4, 2) := by decide +kernel
theorem dX10_ruin_57 : decode cX10_ruin 57 = .ok (.iadd, 1) := by decide +kernel
theorem dX10_ruin_58 : decode cX10_ruin 58 = .ok (.iconst 0, 1) := by decide +kernel
theorem dX10_ruin_59 : decode cX10_ruin 59 = .ok (.invokevirtual 235, 3) := by decide +kernel
theorem dX10_ruin_62 : decode cX10_ruin 62 = .ok (.aload_n 0, 1) := by decide +kernel
theorem dX10_ruin_63 : decode cX10_ruin 63 = .ok (.getfield 24, 3) := by decide +kernel
theorem dX10_ruin_66 : decode cX10_ruin 66 = .ok (.aload_n 0, 1) := by decide +kernel
theorem dX10_ruin_67 : decode cX10_ruin 67 = .ok (.getfield 58, 3) := by decide +kernel
theorem dX10_ruin_70 : decode cX10_ruin 70 = .ok (.iload_n 1, 1) := by decide +kernel
theorem dX10_ruin_71 : decode cX10_ruin 71 = .ok (.invokevirtual 125, 3) := by decide +kernel
theorem dX10_ruin_74 : decode cX10_ruin 74 = .ok (.invokestatic 226, 3) := by decide +kernel
theorem dX10_ruin_77 : decode cX10_ruin 77 = .ok (.istore 5, 2) := by decide +kernel
theorem dX10_ruin_79 : decode cX10_ruin 79 = .ok (.iload 5, 2) := by decide +kernel
theorem dX10_ruin_81 : decode cX10_ruin 81 = .ok (.iload_n 2, 1) := by decide +kernel
theorem dX10_ruin_82 : decode cX10_ruin 82 = .ok (.if_icmp .ge 9, 3) := by decide +kernel
theorem dX10_ruin_85 : decode cX10_ruin 85 = .ok (.iload 5, 2) := by decide +kernel
theorem dX10_ruin_87 : decode cX10_ruin 87 = .ok (.istore_n 2, 1) := by decide +kernel
theorem dX10_ruin_88 : decode cX10_ruin 88 = .ok (.iload 4, 2) := by decide +kernel
theorem dX10_ruin_90 : decode cX10_ruin 90 = .ok (.istore_n 3, 1) := by decide +kernel
theorem dX10_ruin_91 : decode cX10_ruin 91 = .ok (.iinc 4 1, 3) := by decide +kernel
theorem dX10_ruin_94 : decode cX10_ruin 94 = .ok (.goto (-63), 3) := by decide +kernel
theorem dX10_ruin_97 : decode cX10_ruin 97 = .ok (.iload_n 3, 1) := by decide +kernel
theorem dX10_ruin_98 : decode cX10_ruin 98 = .ok (.ireturn, 1) := by decide +kernel
theorem dX10_share_0 : decode cX10_share 0 = .ok (.iload_n 1, 1) := by decide +kernel
theorem dX10_share_1 : decode cX10_share 1 = .ok (.iconst (-1), 1) := by decide +kernel
theorem dX10_share_2 : decode cX10_share 2 = .ok (.if_icmp .eq 8, 3) := by decide +kernel
theorem dX10_share_5 : decode cX10_share 5 = .ok (.aload_n 0, 1) := by decide +kernel
theorem dX10_share_6 : decode cX10_share 6 = .ok (.iload_n 1, 1) := by decide +kernel
theorem dX10_share_7 : decode cX10_share 7 = .ok (.invokevirtual 157, 3) := by decide +kernel
theorem dX10_share_10 : decode cX10_share 10 = .ok (.iload_n 2, 1) := by decide +kernel
theorem dX10_share_11 : decode cX10_share 11 = .ok (.iconst 1, 1) := by decide +kernel
theorem dX10_share_12 : decode cX10_share 12 = .ok (.if_icmp .lt 9, 3) := by decide +kernel
theorem dX10_share_15 : decode cX10_share 15 = .ok (.iload_n 2, 1) := by decide +kernel
theorem dX10_share_16 : decode cX10_share 16 = .ok (.bipush 8, 2) := by decide +kernel
theorem dX10_share_18 : decode cX10_share 18 = .ok (.if_icmp .le 13, 3) := by decide +kernel
theorem dX10_share_21 : decode cX10_share 21 = .ok (.new 89, 3) := by decide +kernel
theorem dX10_share_24 : decode cX10_share 24 = .ok (.dup, 1) := by decide +kernel
theorem dX10_share_25 : decode cX10_share 25 = .ok (.ldc 238, 2) := by decide +kernel
theorem dX10_share_27 : decode cX10_share 27 = .ok (.invokespecial 93, 3) := by decide +kernel
theorem dX10_share_30 : decode cX10_share 30 = .ok (.athrow, 1) := by decide +kernel
theorem dX10_share_31 : decode cX10_share 31 = .ok (.aload_n 0, 1) := by decide +kernel
theorem dX10_share_32 : decode cX10_share 32 = .ok (.getfield 36, 3) := by decide +kernel
theorem dX10_share_35 : decode cX10_share 35 = .ok (.aload_n 0, 1) := by decide +kernel
theorem dX10_share_36 : decode cX10_share 36 = .ok (.getfield 32, 3) := by decide +kernel
theorem dX10_share_39 : decode cX10_share 39 = .ok (.getfield 113, 3) := by decide +kernel
theorem dX10_share_42 : decode cX10_share 42 = .ok (.aload_n 0, 1) := by decide +kernel
theorem dX10_share_43 : decode cX10_share 43 = .ok (.getfield 32, 3) := by decide +kernel
theorem dX10_share_46 : decode cX10_share 46 = .ok (.getfield 116, 3) := by decide +kernel
theorem dX10_share_49 : decode cX10_share 49 = .ok (.iload_n 2, 1) := by decide +kernel
theorem dX10_share_50 : decode cX10_share 50 = .ok (.invokevirtual 240, 3) := by decide +kernel
theorem dX10_share_53 : decode cX10_share 53 = .ok (.iconst 0, 1) := by decide +kernel
theorem dX10_share_54 : decode cX10_share 54 = .ok (.istore_n 3, 1) := by decide +kernel
theorem dX10_share_55 : decode cX10_share 55 = .ok (.iload_n 3, 1) := by decide +kernel
theorem dX10_share_56 : decode cX10_share 56 = .ok (.aload_n 0, 1) := by decide +kernel
theorem dX10_share_57 : decode cX10_share 57 = .ok (.getfield 32, 3) := by decide +kernel
theorem dX10_share_60 : decode cX10_share 60 = .ok (.getfield 116, 3) := by decide +kernel
theorem dX10_share_63 : decode cX10_share 63 = .ok (.if_icmp .ge 57, 3) := by decide +kernel
theorem dX10_share_66 : decode cX10_share 66 = .ok (.iconst 0, 1) := by decide +kernel
theorem dX10_share_67 : decode cX10_share 67 = .ok (.istore 4, 2) := by decide +kernel
theorem dX10_share_69 : decode cX10_share 69 = .ok (.iload 4, 2) := by decide +kernel
theorem dX10_share_71 : decode cX10_share 71 = .ok (.aload_n 0, 1) := by decide +kernel
theorem dX10_share_72 : decode cX10_share 72 = .ok (.getfield 32, 3) := by decide +kernel
theorem dX10_share_75 : decode cX10_share 75 = .ok (.getfield 113, 3) := by decide +kernel
theorem dX10_share_78 : decode cX10_share 78 = .ok (.if_icmp .ge 36, 3) := by decide +kernel
theorem dX10_share_81 : decode cX10_share 81 = .ok (.aload_n 0, 1) := by decide +kernel
theorem dX10_share_82 : decode cX10_share 82 = .ok (.getfield 36, 3) := by decide +kernel
theorem dX10_share_85 : decode cX10_share 85 = .ok (.iload_n 3, 1) := by decide +kernel
theorem dX10_share_86 : decode cX10_share 86 = .ok (.iload 4, 2) := by decide +kernel
theorem dX10_share_88 : decode cX10_share 88 = .ok (.aload_n 0, 1) := by decide +kernel
theorem dX10_share_89 : decode cX10_share 89 = .ok (.getfield 24, 3) := by decide +kernel
theorem dX10_share_92 : decode cX10_share 92 = .ok (.aload_n 0, 1) := by decide +kernel
theorem dX10_share_93 : decode cX10_share 93 = .ok (.getfield 43, 3) := by decide +kernel
theorem dX10_share_96 : decode cX10_share 96 = .ok (.getfield 122, 3) := by decide +kernel
theorem dX10_share_99 : decode cX10_share 99 = .ok (.iload 4, 2) := by decide +kernel
theorem dX10_share_101 : decode cX10_share 101 = .ok (.iload_n 3, 1) := by decide +kernel
theorem dX10_share_102 : decode cX10_share 102 = .ok (.invokevirtual 231, 3) := by decide +kernel
theorem dX10_share_105 : decode cX10_share 105 = .ok (.invokevirtual 243, 3) := by decide +kernel
theorem dX10_share_108 : decode cX10_share 108 = .ok (.iinc 4 1, 3) := by decide +kernel
theorem dX10_share_111 : decode cX10_share 111 = .ok (.goto (-42), 3) := by decide +kernel
theorem dX10_share_114 : decode cX10_share 114 = .ok (.iinc 3 1, 3) := by decide +kernel
theorem dX10_share_117 : decode cX10_share 117 = .ok (.goto (-62), 3) := by decide +kernel
theorem dX10_share_120 : decode cX10_share 120 = .ok (.aload_n 0, 1) := by decide +kernel
theorem dX10_share_121 : decode cX10_share 121 = .ok (.getfield 36, 3) := by decide +kernel
theorem dX10_share_124 : decode cX10_share 124 = .ok (.invokevirtual 246, 3) := by decide +kernel
theorem dX10_share_127 : decode cX10_share 127 = .ok (.iload_n 1, 1) := by decide +kernel
theorem dX10_share_128 : decode cX10_share 128 = .ok (.iconst (-1), 1) := by decide +kernel
theorem dX10_share_129 : decode cX10_share 129 = .ok (.if_icmp .ne 13, 3) := by decide +kernel
theorem dX10_share_132 : decode cX10_share 132 = .ok (.aload_n 0, 1) := by decide +kernel
theorem dX10_share_133 : decode cX10_share 133 = .ok (.getfield 36, 3) := by decide +kernel
theorem dX10_share_136 : decode cX10_share 136 = .ok (.invokevirtual 249, 3) := by decide +kernel
theorem dX10_share_139 : decode cX10_share 139 = .ok (.goto 11, 3) := by decide +kernel
theorem dX10_share_142 : decode cX10_share 142 = .ok (.aload_n 0, 1) := by decide +kernel
theorem dX10_share_143 : decode cX10_share 143 = .ok (.getfield 36, 3) := by decide +kernel
theorem dX10_share_146 : decode cX10_share 146 = .ok (.iload_n 1, 1) := by decide +kernel
theorem dX10_share_147 : decode cX10_share 147 = .ok (.invokevirtual 252, 3) := by decide +kernel
theorem dX10_share_150 : decode cX10_share 150 = .ok (.ireturn, 1) := by decide +kernel
theorem dX10_beside_0 : decode cX10_beside 0 = .ok (.aload_n 0, 1) := by decide +kernel
theorem dX10_beside_1 : decode cX10_beside 1 = .ok (.iload_n 1, 1) := by decide +kernel
theorem dX10_beside_2 : decode cX10_beside 2 = .ok (.invokevirtual 176, 3) := by decide +kernel
theorem dX10_beside_5 : decode cX10_beside 5 = .ok (.aload_n 0, 1) := by decide +kernel
theorem dX10_beside_6 : decode cX10_beside 6 = .ok (.getfield 24, 3) := by decide +kernel
theorem dX10_beside_9 : decode cX10_beside 9 = .ok (.aload_n 0, 1) := by decide +kernel
theorem dX10_beside_10 : decode cX10_beside 10 = .ok (.getfield 43, 3) := by decide +kernel
theorem dX10_beside_13 : decode cX10_beside 13 = .ok (.getfield 122, 3) := by decide +kernel
theorem dX10_beside_16 : decode cX10_beside 16 = .ok (.iload_n 1, 1) := by decide +kernel
theorem dX10_beside_17 : decode cX10_beside 17 = .ok (.invokevirtual 125, 3) := by decide +kernel
theorem dX10_beside_20 : decode cX10_beside 20 = .ok (.istore_n 2, 1) := by decide +kernel
theorem dX10_beside_21 : decode cX10_beside 21 = .ok (.iload_n 2, 1) := by decide +kernel
theorem dX10_beside_22 : decode cX10_beside 22 = .ok (.iconst 1, 1) := by decide +kernel
theorem dX10_beside_23 : decode cX10_beside 23 = .ok (.ishl, 1) := by decide +kernel
theorem dX10_beside_24 : decode cX10_beside 24 = .ok (.iload_n 2, 1) := by decide +kernel
theorem dX10_beside_25 : decode cX10_beside 25 = .ok (.iconst 1, 1) := by decide +kernel
theorem dX10_beside_26 : decode cX10_beside 26 = .ok (.ishr, 1) := by decide +kernel
theorem dX10_beside_27 : decode cX10_beside 27 = .ok (.ior, 1) := by decide +kernel
theorem dX10_beside_28 : decode cX10_beside 28 = .ok (.iconst 1, 1) := by decide +kernel
theorem dX10_beside_29 : decode cX10_beside 29 = .ok (.aload_n 0, 1) := by decide +kernel
theorem dX10_beside_30 : decode cX10_beside 30 = .ok (.getfield 32, 3) := by decide +kernel
theorem dX10_beside_33 : decode cX10_beside 33 = .ok (.getfield 113, 3) := by decide +kernel
theorem dX10_beside_36 : decode cX10_beside 36 = .ok (.ishl, 1) := by decide +kernel
theorem dX10_beside_37 : decode cX10_beside 37 = .ok (.iconst 1, 1) := by decide +kernel
theorem dX10_beside_38 : decode cX10_beside 38 = .ok (.isub, 1) := by decide +kernel
theorem dX10_beside_39 : decode cX10_beside 39 = .ok (.iand, 1) := by decide +kernel
theorem dX10_beside_40 : decode cX10_beside 40 = .ok (.istore_n 3, 1) := by decide +kernel
theorem dX10_beside_41 : decode cX10_beside 41 = .ok (.iload_n 3, 1) := by decide +kernel
theorem dX10_beside_42 : decode cX10_beside 42 = .ok (.iload_n 2, 1) := by decide +kernel
theorem dX10_beside_43 : decode cX10_beside 43 = .ok (.iconst (-1), 1) := by decide +kernel
theorem dX10_beside_44 : decode cX10_beside 44 = .ok (.ixor, 1) := by decide +kernel
theorem dX10_beside_45 : decode cX10_beside 45 = .ok (.iand, 1) := by decide +kernel
theorem dX10_beside_46 : decode cX10_beside 46 = .ok (.aload_n 0, 1) := by decide +kernel
theorem dX10_beside_47 : decode cX10_beside 47 = .ok (.getfield 43, 3) := by decide +kernel
theorem dX10_beside_50 : decode cX10_beside 50 = .ok (.getfield 122, 3) := by decide +kernel
theorem dX10_beside_53 : decode cX10_beside 53 = .ok (.bipush 62, 2) := by decide +kernel
theorem dX10_beside_55 : decode cX10_beside 55 = .ok (.iaload, 1) := by decide +kernel
theorem dX10_beside_56 : decode cX10_beside 56 = .ok (.iconst (-1), 1) := by decide +kernel
theorem dX10_beside_57 : decode cX10_beside 57 = .ok (.ixor, 1) := by decide +kernel
theorem dX10_beside_58 : decode cX10_beside 58 = .ok (.iand, 1) := by decide +kernel
theorem dX10_beside_59 : decode cX10_beside 59 = .ok (.ireturn, 1) := by decide +kernel
theorem dX10_oldest_0 : decode cX10_oldest 0 = .ok (.aload_n 0, 1) := by decide +kernel
theorem dX10_oldest_1 : decode cX10_oldest 1 = .ok (.iload_n 1, 1) := by decide +kernel
theorem dX10_oldest_2 : decode cX10_oldest 2 = .ok (.iconst 1, 1) := by decide +kernel
theorem dX10_oldest_3 : decode cX10_oldest 3 = .ok (.invokevirtual 212, 3) := by decide +kernel
theorem dX10_oldest_6 : decode cX10_oldest 6 = .ok (.iconst (-1), 1) := by decide +kernel
theorem dX10_oldest_7 : decode cX10_oldest 7 = .ok (.istore_n 2, 1) := by decide +kernel
theorem dX10_oldest_8 : decode cX10_oldest 8 = .ok (.iconst (-1), 1) := by decide +kernel
theorem dX10_oldest_9 : decode cX10_oldest 9 = .ok (.istore_n 3, 1) := by decide +kernel
theorem dX10_oldest_10 : decode cX10_oldest 10 = .ok (.iconst 0, 1) := by decide +kernel
theorem dX10_oldest_11 : decode cX10_oldest 11 = .ok (.istore 4, 2) := by decide +kernel
theorem dX10_oldest_13 : decode cX10_oldest 13 = .ok (.iload 4, 2) := by decide +kernel
theorem dX10_oldest_15 : decode cX10_oldest 15 = .ok (.aload_n 0, 1) := by decide +kernel
theorem dX10_oldest_16 : decode cX10_oldest 16 = .ok (.getfield 32, 3) := by decide +kernel
theorem dX10_oldest_19 : decode cX10_oldest 19 = .ok (.getfield 113, 3) := by decide +kernel
theorem dX10_oldest_22 : decode cX10_oldest 22 = .ok (.if_icmp .ge 53, 3) := by decide +kernel
theorem dX10_oldest_25 : decode cX10_oldest 25 = .ok (.aload_n 0, 1) := by decide +kernel
theorem dX10_oldest_26 : decode cX10_oldest 26 = .ok (.getfield 24, 3) := by decide +kernel
theorem dX10_oldest_29 : decode cX10_oldest 29 = .ok (.aload_n 0, 1) := by decide +kernel
theorem dX10_oldest_30 : decode cX10_oldest 30 = .ok (.getfield 43, 3) := by decide +kernel
theorem dX10_oldest_33 : decode cX10_oldest 33 = .ok (.getfield 122, 3) := by decide +kernel
theorem dX10_oldest_36 : decode cX10_oldest 36 = .ok (.iload 4, 2) := by decide +kernel
theorem dX10_oldest_38 : decode cX10_oldest 38 = .ok (.invokevirtual 216, 3) := by decide +kernel
theorem dX10_oldest_41 : decode cX10_oldest 41 = .ok (.istore 5, 2) := by decide +kernel
theorem dX10_oldest_43 : decode cX10_oldest 43 = .ok (.aload_n 0, 1) := by decide +kernel
theorem dX10_oldest_44 : decode cX10_oldest 44 = .ok (.iload 4, 2) := by decide +kernel
theorem dX10_oldest_46 : decode cX10_oldest 46 = .ok (.invokevirtual 166, 3) := by decide +kernel
theorem dX10_oldest_49 : decode cX10_oldest 49 = .ok (.ifCond .ne 20, 3) := by decide +kernel
theorem dX10_oldest_52 : decode cX10_oldest 52 = .ok (.iload_n 2, 1) := by decide +kernel
theorem dX10_oldest_53 : decode cX10_oldest 53 = .ok (.iconst (-1), 1) := by decide +kernel
theorem dX10_oldest_54 : decode cX10_oldest 54 = .ok (.if_icmp .eq 9, 3) := by decide +kernel
theorem dX10_oldest_57 : decode cX10_oldest 57 = .ok (.iload 5, 2) := by decide +kernel
theorem dX10_oldest_59 : decode cX10_oldest 59 = .ok (.iload_n 3, 1) := by decide +kernel
theorem dX10_oldest_60 : decode cX10_oldest 60 = .ok (.if_icmp .ge 9, 3) := by decide +kernel
theorem dX10_oldest_63 : decode cX10_oldest 63 = .ok (.iload 4, 2) := by decide +kernel
theorem dX10_oldest_65 : decode cX10_oldest 65 = .ok (.istore_n 2, 1) := by decide +kernel
theorem dX10_oldest_66 : decode cX10_oldest 66 = .ok (.iload 5, 2) := by decide +kernel
theorem dX10_oldest_68 : decode cX10_oldest 68 = .ok (.istore_n 3, 1) := by decide +kernel
theorem dX10_oldest_69 : decode cX10_oldest 69 = .ok (.iinc 4 1, 3) := by decide +kernel
theorem dX10_oldest_72 : decode cX10_oldest 72 = .ok (.goto (-59), 3) := by decide +kernel
theorem dX10_oldest_75 : decode cX10_oldest 75 = .ok (.iload_n 1, 1) := by decide +kernel
theorem dX10_oldest_76 : decode cX10_oldest 76 = .ok (.ifCond .ne 7, 3) := by decide +kernel
theorem dX10_oldest_79 : decode cX10_oldest 79 = .ok (.iload_n 2, 1) := by decide +kernel
theorem dX10_oldest_80 : decode cX10_oldest 80 = .ok (.goto 4, 3) := by decide +kernel
theorem dX10_oldest_83 : decode cX10_oldest 83 = .ok (.iload_n 3, 1) := by decide +kernel
theorem dX10_oldest_84 : decode cX10_oldest 84 = .ok (.ireturn, 1) := by decide +kernel
theorem dX10_envy_0 : decode cX10_envy 0 = .ok (.aload_n 0, 1) := by decide +kernel
theorem dX10_envy_1 : decode cX10_envy 1 = .ok (.iload_n 1, 1) := by decide +kernel
theorem dX10_envy_2 : decode cX10_envy 2 = .ok (.invokevirtual 176, 3) := by decide +kernel
theorem dX10_envy_5 : decode cX10_envy 5 = .ok (.iconst 0, 1) := by decide +kernel
theorem dX10_envy_6 : decode cX10_envy 6 = .ok (.istore_n 2, 1) := by decide +kernel
theorem dX10_envy_7 : decode cX10_envy 7 = .ok (.iconst 0, 1) := by decide +kernel
theorem dX10_envy_8 : decode cX10_envy 8 = .ok (.istore_n 3, 1) := by decide +kernel
theorem dX10_envy_9 : decode cX10_envy 9 = .ok (.iload_n 3, 1) := by decide +kernel
theorem dX10_envy_10 : decode cX10_envy 10 = .ok (.aload_n 0, 1) := by decide +kernel
theorem dX10_envy_11 : decode cX10_envy 11 = .ok (.getfield 32, 3) := by decide +kernel
theorem dX10_envy_14 : decode cX10_envy 14 = .ok (.getfield 113, 3) := by decide +kernel
theorem dX10_envy_17 : decode cX10_envy 17 = .ok (.if_icmp .ge 77, 3) := by decide +kernel
theorem dX10_envy_20 : decode cX10_envy 20 = .ok (.aload_n 0, 1) := by decide +kernel
theorem dX10_envy_21 : decode cX10_envy 21 = .ok (.getfield 43, 3) := by decide +kernel
theorem dX10_envy_24 : decode cX10_envy 24 = .ok (.getfield 122, 3) := by decide +kernel
theorem dX10_envy_27 : decode cX10_envy 27 = .ok (.bipush 24, 2) := by decide +kernel
theorem dX10_envy_29 : decode cX10_envy 29 = .ok (.iload_n 3, 1) := by decide +kernel
theorem dX10_envy_30 : decode cX10_envy 30 = .ok (.iadd, 1) := by decide +kernel
theorem dX10_envy_31 : decode cX10_envy 31 = .ok (.iaload, 1) := by decide +kernel
theorem dX10_envy_32 : decode cX10_envy 32 = .ok (.istore 4, 2) := by decide +kernel
theorem dX10_envy_34 : decode cX10_envy 34 = .ok (.iload 4, 2) := by decide +kernel
theorem dX10_envy_36 : decode cX10_envy 36 = .ok (.iconst (-1), 1) := by decide +kernel
theorem dX10_envy_37 : decode cX10_envy 37 = .ok (.if_icmp .eq 51, 3) := by decide +kernel
theorem dX10_envy_40 : decode cX10_envy 40 = .ok (.iload 4, 2) := by decide +kernel
theorem dX10_envy_42 : decode cX10_envy 42 = .ok (.iload_n 1, 1) := by decide +kernel
theorem dX10_envy_43 : decode cX10_envy 43 = .ok (.if_icmp .eq 45, 3) := by decide +kernel
theorem dX10_envy_46 : decode cX10_envy 46 = .ok (.aload_n 0, 1) := by decide +kernel
theorem dX10_envy_47 : decode cX10_envy 47 = .ok (.getfield 24, 3) := by decide +kernel
theorem dX10_envy_50 : decode cX10_envy 50 = .ok (.aload_n 0, 1) := by decide +kernel
theorem dX10_envy_51 : decode cX10_envy 51 = .ok (.getfield 43, 3) := by decide +kernel
theorem dX10_envy_54 : decode cX10_envy 54 = .ok (.getfield 122, 3) := by decide +kernel
theorem dX10_envy_57 : decode cX10_envy 57 = .ok (.iload_n 3, 1) := by decide +kernel
theorem dX10_envy_58 : decode cX10_envy 58 = .ok (.iload_n 1, 1) := by decide +kernel
theorem dX10_envy_59 : decode cX10_envy 59 = .ok (.invokevirtual 231, 3) := by decide +kernel
theorem dX10_envy_62 : decode cX10_envy 62 = .ok (.aload_n 0, 1) := by decide +kernel
theorem dX10_envy_63 : decode cX10_envy 63 = .ok (.getfield 24, 3) := by decide +kernel
theorem dX10_envy_66 : decode cX10_envy 66 = .ok (.aload_n 0, 1) := by decide +kernel
theorem dX10_envy_67 : decode cX10_envy 67 = .ok (.getfield 43, 3) := by decide +kernel
theorem dX10_envy_70 : decode cX10_envy 70 = .ok (.getfield 122, 3) := by decide +kernel
theorem dX10_envy_73 : decode cX10_envy 73 = .ok (.iload_n 3, 1) := by decide +kernel
theorem dX10_envy_74 : decode cX10_envy 74 = .ok (.iload 4, 2) := by decide +kernel
theorem dX10_envy_76 : decode cX10_envy 76 = .ok (.invokevirtual 231, 3) := by decide +kernel
theorem dX10_envy_79 : decode cX10_envy 79 = .ok (.if_icmp .le 9, 3) := by decide +kernel
theorem dX10_envy_82 : decode cX10_envy 82 = .ok (.iload_n 2, 1) := by decide +kernel
theorem dX10_envy_83 : decode cX10_envy 83 = .ok (.iconst 1, 1) := by decide +kernel
theorem dX10_envy_84 : decode cX10_envy 84 = .ok (.iload_n 3, 1) := by decide +kernel
theorem dX10_envy_85 : decode cX10_envy 85 = .ok (.ishl, 1) := by decide +kernel
theorem dX10_envy_86 : decode cX10_envy 86 = .ok (.ior, 1) := by decide +kernel
theorem dX10_envy_87 : decode cX10_envy 87 = .ok (.istore_n 2, 1) := by decide +kernel
theorem dX10_envy_88 : decode cX10_envy 88 = .ok (.iinc 3 1, 3) := by decide +kernel
theorem dX10_envy_91 : decode cX10_envy 91 = .ok (.goto (-82), 3) := by decide +kernel
theorem dX10_envy_94 : decode cX10_envy 94 = .ok (.iload_n 2, 1) := by decide +kernel
theorem dX10_envy_95 : decode cX10_envy 95 = .ok (.ireturn, 1) := by decide +kernel
theorem dX10_see_0 : decode cX10_see 0 = .ok (.aload_n 0, 1) := by decide +kernel
theorem dX10_see_1 : decode cX10_see 1 = .ok (.iload_n 1, 1) := by decide +kernel
theorem dX10_see_2 : decode cX10_see 2 = .ok (.invokevirtual 176, 3) := by decide +kernel
theorem dX10_see_5 : decode cX10_see 5 = .ok (.aload_n 0, 1) := by decide +kernel
theorem dX10_see_6 : decode cX10_see 6 = .ok (.iload_n 2, 1) := by decide +kernel
theorem dX10_see_7 : decode cX10_see 7 = .ok (.invokevirtual 157, 3) := by decide +kernel
theorem dX10_see_10 : decode cX10_see 10 = .ok (.aload_n 0, 1) := by decide +kernel
theorem dX10_see_11 : decode cX10_see 11 = .ok (.getfield 43, 3) := by decide +kernel
theorem dX10_see_14 : decode cX10_see 14 = .ok (.getfield 142, 3) := by decide +kernel
theorem dX10_see_17 : decode cX10_see 17 = .ok (.getfield 146, 3) := by decide +kernel
theorem dX10_see_20 : decode cX10_see 20 = .ok (.bipush 8, 2) := by decide +kernel
theorem dX10_see_22 : decode cX10_see 22 = .ok (.if_icmp .ge 14, 3) := by decide +kernel
theorem dX10_see_25 : decode cX10_see 25 = .ok (.iload_n 3, 1) := by decide +kernel
theorem dX10_see_26 : decode cX10_see 26 = .ok (.iconst 1, 1) := by decide +kernel
theorem dX10_see_27 : decode cX10_see 27 = .ok (.if_icmp .lt 9, 3) := by decide +kernel
theorem dX10_see_30 : decode cX10_see 30 = .ok (.iload_n 3, 1) := by decide +kernel
theorem dX10_see_31 : decode cX10_see 31 = .ok (.bipush 12, 2) := by decide +kernel
theorem dX10_see_33 : decode cX10_see 33 = .ok (.if_icmp .le 12, 3) := by decide +kernel
theorem dX10_see_36 : decode cX10_see 36 = .ok (.aload_n 0, 1) := by decide +kernel
theorem dX10_see_37 : decode cX10_see 37 = .ok (.getfield 43, 3) := by decide +kernel
theorem dX10_see_40 : decode cX10_see 40 = .ok (.iconst 2, 1) := by decide +kernel
theorem dX10_see_41 : decode cX10_see 41 = .ok (.invokevirtual 104, 3) := by decide +kernel
theorem dX10_see_44 : decode cX10_see 44 = .ok (.ireturn, 1) := by decide +kernel
theorem dX10_see_45 : decode cX10_see 45 = .ok (.aload_n 0, 1) := by decide +kernel
theorem dX10_see_46 : decode cX10_see 46 = .ok (.getfield 43, 3) := by decide +kernel
theorem dX10_see_49 : decode cX10_see 49 = .ok (.getfield 142, 3) := by decide +kernel
theorem dX10_see_52 : decode cX10_see 52 = .ok (.iload_n 1, 1) := by decide +kernel
theorem dX10_see_53 : decode cX10_see 53 = .ok (.iload_n 2, 1) := by decide +kernel
theorem dX10_see_54 : decode cX10_see 54 = .ok (.iload_n 3, 1) := by decide +kernel
theorem dX10_see_55 : decode cX10_see 55 = .ok (.iload 4, 2) := by decide +kernel
theorem dX10_see_57 : decode cX10_see 57 = .ok (.invokevirtual 255, 3) := by decide +kernel
theorem dX10_see_60 : decode cX10_see 60 = .ok (.aload_n 0, 1) := by decide +kernel
theorem dX10_see_61 : decode cX10_see 61 = .ok (.getfield 43, 3) := by decide +kernel
theorem dX10_see_64 : decode cX10_see 64 = .ok (.getfield 142, 3) := by decide +kernel
theorem dX10_see_67 : decode cX10_see 67 = .ok (.getfield 146, 3) := by decide +kernel
theorem dX10_see_70 : decode cX10_see 70 = .ok (.ireturn, 1) := by decide +kernel
theorem dX10_pockets_0 : decode cX10_pockets 0 = .ok (.aload_n 0, 1) := by decide +kernel
theorem dX10_pockets_1 : decode cX10_pockets 1 = .ok (.iload_n 1, 1) := by decide +kernel
theorem dX10_pockets_2 : decode cX10_pockets 2 = .ok (.iconst 2, 1) := by decide +kernel
theorem dX10_pockets_3 : decode cX10_pockets 3 = .ok (.invokevirtual 212, 3) := by decide +kernel
theorem dX10_pockets_6 : decode cX10_pockets 6 = .ok (.iload_n 1, 1) := by decide +kernel
theorem dX10_pockets_7 : decode cX10_pockets 7 = .ok (.iconst 2, 1) := by decide +kernel
theorem dX10_pockets_8 : decode cX10_pockets 8 = .ok (.if_icmp .ne 18, 3) := by decide +kernel
theorem dX10_pockets_11 : decode cX10_pockets 11 = .ok (.aload_n 0, 1) := by decide +kernel
theorem dX10_pockets_12 : decode cX10_pockets 12 = .ok (.iconst (-1), 1) := by decide +kernel
theorem dX10_pockets_13 : decode cX10_pockets 13 = .ok (.iconst 0, 1) := by decide +kernel
theorem dX10_pockets_14 : decode cX10_pockets 14 = .ok (.invokevirtual 258, 3) := by decide +kernel
theorem dX10_pockets_17 : decode cX10_pockets 17 = .ok (.ifCond .eq 7, 3) := by decide +kernel
theorem dX10_pockets_20 : decode cX10_pockets 20 = .ok (.iconst 1, 1) := by decide +kernel
theorem dX10_pockets_21 : decode cX10_pockets 21 = .ok (.goto 4, 3) := by decide +kernel
theorem dX10_pockets_24 : decode cX10_pockets 24 = .ok (.iconst 0, 1) := by decide +kernel
theorem dX10_pockets_25 : decode cX10_pockets 25 = .ok (.ireturn, 1) := by decide +kernel
theorem dX10_pockets_26 : decode cX10_pockets 26 = .ok (.iconst 0, 1) := by decide +kernel
theorem dX10_pockets_27 : decode cX10_pockets 27 = .ok (.istore_n 2, 1) := by decide +kernel
theorem dX10_pockets_28 : decode cX10_pockets 28 = .ok (.iconst (-1), 1) := by decide +kernel
theorem dX10_pockets_29 : decode cX10_pockets 29 = .ok (.istore_n 3, 1) := by decide +kernel
theorem dX10_pockets_30 : decode cX10_pockets 30 = .ok (.iconst 0, 1) := by decide +kernel
theorem dX10_pockets_31 : decode cX10_pockets 31 = .ok (.istore 4, 2) := by decide +kernel
theorem dX10_pockets_33 : decode cX10_pockets 33 = .ok (.iload 4, 2) := by decide +kernel
theorem dX10_pockets_35 : decode cX10_pockets 35 = .ok (.aload_n 0, 1) := by decide +kernel
theorem dX10_pockets_36 : decode cX10_pockets 36 = .ok (.getfield 32, 3) := by decide +kernel
theorem dX10_pockets_39 : decode cX10_pockets 39 = .ok (.getfield 116, 3) := by decide +kernel
theorem dX10_pockets_42 : decode cX10_pockets 42 = .ok (.if_icmp .ge 74, 3) := by decide +kernel
theorem dX10_pockets_45 : decode cX10_pockets 45 = .ok (.iconst 0, 1) := by decide +kernel
theorem dX10_pockets_46 : decode cX10_pockets 46 = .ok (.istore 5, 2) := by decide +kernel
theorem dX10_pockets_48 : decode cX10_pockets 48 = .ok (.iload 5, 2) := by decide +kernel
theorem dX10_pockets_50 : decode cX10_pockets 50 = .ok (.bipush 20, 2) := by decide +kernel
theorem dX10_pockets_52 : decode cX10_pockets 52 = .ok (.if_icmp .gt 58, 3) := by decide +kernel
theorem dX10_pockets_55 : decode cX10_pockets 55 = .ok (.iload 5, 2) := by decide +kernel
theorem dX10_pockets_57 : decode cX10_pockets 57 = .ok (.aload_n 0, 1) := by decide +kernel
theorem dX10_pockets_58 : decode cX10_pockets 58 = .ok (.getfield 43, 3) := by decide +kernel
theorem dX10_pockets_61 : decode cX10_pockets 61 = .ok (.getfield 122, 3) := by decide +kernel
theorem dX10_pockets_64 : decode cX10_pockets 64 = .ok (.bipush 40, 2) := by decide +kernel
theorem dX10_pockets_66 : decode cX10_pockets 66 = .ok (.iload 4, 2) := by decide +kernel
theorem dX10_pockets_68 : decode cX10_pockets 68 = .ok (.iadd, 1) := by decide +kernel
theorem dX10_pockets_69 : decode cX10_pockets 69 = .ok (.iaload, 1) := by decide +kernel
theorem dX10_pockets_70 : decode cX10_pockets 70 = .ok (.if_icmp .eq 34, 3) := by decide +kernel
theorem dX10_pockets_73 : decode cX10_pockets 73 = .ok (.aload_n 0, 1) := by decide +kernel
theorem dX10_pockets_74 : decode cX10_pockets 74 = .ok (.iload 4, 2) := by decide +kernel
theorem dX10_pockets_76 : decode cX10_pockets 76 = .ok (.iload 5, 2) := by decide +kernel
theorem dX10_pockets_78 : decode cX10_pockets 78 = .ok (.invokevirtual 258, 3) := by decide +kernel
theorem dX10_pockets_81 : decode cX10_pockets 81 = .ok (.ifCond .eq 23, 3) := by decide +kernel
theorem dX10_pockets_84 : decode cX10_pockets 84 = .ok (.iload_n 2, 1) := by decide +kernel
theorem dX10_pockets_85 : decode cX10_pockets 85 = .ok (.ifCond .ne 14, 3) := by decide +kernel
theorem dX10_pockets_88 : decode cX10_pockets 88 = .ok (.bipush 100, 2) := by decide +kernel
theorem dX10_pockets_90 : decode cX10_pockets 90 = .ok (.iload 4, 2) := by decide +kernel
theorem dX10_pockets_92 : decode cX10_pockets 92 = .ok (.imul, 1) := by decide +kernel
theorem dX10_pockets_93 : decode cX10_pockets 93 = .ok (.iload 5, 2) := by decide +kernel
theorem dX10_pockets_95 : decode cX10_pockets 95 = .ok (.iadd, 1) := by decide +kernel
theorem dX10_pockets_96 : decode cX10_pockets 96 = .ok (.goto 4, 3) := by decide +kernel
theorem dX10_pockets_99 : decode cX10_pockets 99 = .ok (.iload_n 3, 1) := by decide +kernel
theorem dX10_pockets_100 : decode cX10_pockets 100 = .ok (.istore_n 3, 1) := by decide +kernel
theorem dX10_pockets_101 : decode cX10_pockets 101 = .ok (.iinc 2 1, 3) := by decide +kernel
theorem dX10_pockets_104 : decode cX10_pockets 104 = .ok (.iinc 5 1, 3) := by decide +kernel
theorem dX10_pockets_107 : decode cX10_pockets 107 = .ok (.goto (-59), 3) := by decide +kernel
theorem dX10_pockets_110 : decode cX10_pockets 110 = .ok (.iinc 4 1, 3) := by decide +kernel
theorem dX10_pockets_113 : decode cX10_pockets 113 = .ok (.goto (-80), 3) := by decide +kernel
theorem dX10_pockets_116 : decode cX10_pockets 116 = .ok (.iload_n 1, 1) := by decide +kernel
theorem dX10_pockets_117 : decode cX10_pockets 117 = .ok (.ifCond .ne 7, 3) := by decide +kernel
theorem dX10_pockets_120 : decode cX10_pockets 120 = .ok (.iload_n 2, 1) := by decide +kernel
theorem dX10_pockets_121 : decode cX10_pockets 121 = .ok (.goto 4, 3) := by decide +kernel
theorem dX10_pockets_124 : decode cX10_pockets 124 = .ok (.iload_n 3, 1) := by decide +kernel
theorem dX10_pockets_125 : decode cX10_pockets 125 = .ok (.ireturn, 1) := by decide +kernel
theorem dX10_look_0 : decode cX10_look 0 = .ok (.aload_n 0, 1) := by decide +kernel
theorem dX10_look_1 : decode cX10_look 1 = .ok (.iload_n 1, 1) := by decide +kernel
theorem dX10_look_2 : decode cX10_look 2 = .ok (.iconst 1, 1) := by decide +kernel
theorem dX10_look_3 : decode cX10_look 3 = .ok (.invokevirtual 212, 3) := by decide +kernel
theorem dX10_look_6 : decode cX10_look 6 = .ok (.aload_n 0, 1) := by decide +kernel
theorem dX10_look_7 : decode cX10_look 7 = .ok (.invokevirtual 262, 3) := by decide +kernel
theorem dX10_look_10 : decode cX10_look 10 = .ok (.iconst (-1), 1) := by decide +kernel
theorem dX10_look_11 : decode cX10_look 11 = .ok (.istore_n 2, 1) := by decide +kernel
theorem dX10_look_12 : decode cX10_look 12 = .ok (.iconst 0, 1) := by decide +kernel
theorem dX10_look_13 : decode cX10_look 13 = .ok (.istore_n 3, 1) := by decide +kernel
theorem dX10_look_14 : decode cX10_look 14 = .ok (.iconst 0, 1) := by decide +kernel
theorem dX10_look_15 : decode cX10_look 15 = .ok (.istore 4, 2) := by decide +kernel
theorem dX10_look_17 : decode cX10_look 17 = .ok (.iload 4, 2) := by decide +kernel
theorem dX10_look_19 : decode cX10_look 19 = .ok (.aload_n 0, 1) := by decide +kernel
theorem dX10_look_20 : decode cX10_look 20 = .ok (.getfield 32, 3) := by decide +kernel
theorem dX10_look_23 : decode cX10_look 23 = .ok (.getfield 113, 3) := by decide +kernel
theorem dX10_look_26 : decode cX10_look 26 = .ok (.if_icmp .ge 33, 3) := by decide +kernel
theorem dX10_look_29 : decode cX10_look 29 = .ok (.aload_n 0, 1) := by decide +kernel
theorem dX10_look_30 : decode cX10_look 30 = .ok (.getfield 62, 3) := by decide +kernel
theorem dX10_look_33 : decode cX10_look 33 = .ok (.iload 4, 2) := by decide +kernel
theorem dX10_look_35 : decode cX10_look 35 = .ok (.iaload, 1) := by decide +kernel
theorem dX10_look_36 : decode cX10_look 36 = .ok (.invokestatic 226, 3) := by decide +kernel
theorem dX10_look_39 : decode cX10_look 39 = .ok (.istore 5, 2) := by decide +kernel
theorem dX10_look_41 : decode cX10_look 41 = .ok (.iload 5, 2) := by decide +kernel
theorem dX10_look_43 : decode cX10_look 43 = .ok (.iload_n 3, 1) := by decide +kernel
theorem dX10_look_44 : decode cX10_look 44 = .ok (.if_icmp .le 9, 3) := by decide +kernel
theorem dX10_look_47 : decode cX10_look 47 = .ok (.iload 5, 2) := by decide +kernel
theorem dX10_look_49 : decode cX10_look 49 = .ok (.istore_n 3, 1) := by decide +kernel
theorem dX10_look_50 : decode cX10_look 50 = .ok (.iload 4, 2) := by decide +kernel
theorem dX10_look_52 : decode cX10_look 52 = .ok (.istore_n 2, 1) := by decide +kernel
theorem dX10_look_53 : decode cX10_look 53 = .ok (.iinc 4 1, 3) := by decide +kernel
theorem dX10_look_56 : decode cX10_look 56 = .ok (.goto (-39), 3) := by decide +kernel
theorem dX10_look_59 : decode cX10_look 59 = .ok (.iload_n 1, 1) := by decide +kernel
theorem dX10_look_60 : decode cX10_look 60 = .ok (.ifCond .ne 7, 3) := by decide +kernel
theorem dX10_look_63 : decode cX10_look 63 = .ok (.iload_n 2, 1) := by decide +kernel
theorem dX10_look_64 : decode cX10_look 64 = .ok (.goto 4, 3) := by decide +kernel
theorem dX10_look_67 : decode cX10_look 67 = .ok (.iload_n 3, 1) := by decide +kernel
theorem dX10_look_68 : decode cX10_look 68 = .ok (.ireturn, 1) := by decide +kernel
theorem dX10_forget_0 : decode cX10_forget 0 = .ok (.aload_n 0, 1) := by decide +kernel
theorem dX10_forget_1 : decode cX10_forget 1 = .ok (.getfield 43, 3) := by decide +kernel
theorem dX10_forget_4 : decode cX10_forget 4 = .ok (.getfield 142, 3) := by decide +kernel
theorem dX10_forget_7 : decode cX10_forget 7 = .ok (.iconst 0, 1) := by decide +kernel
theorem dX10_forget_8 : decode cX10_forget 8 = .ok (.putfield 146, 3) := by decide +kernel
theorem dX10_forget_11 : decode cX10_forget 11 = .ok (.return_, 1) := by decide +kernel
theorem dX10_game_0 : decode cX10_game 0 = .ok (.aload_n 0, 1) := by decide +kernel
theorem dX10_game_1 : decode cX10_game 1 = .ok (.iload_n 1, 1) := by decide +kernel
theorem dX10_game_2 : decode cX10_game 2 = .ok (.invokevirtual 176, 3) := by decide +kernel
theorem dX10_game_5 : decode cX10_game 5 = .ok (.aload_n 0, 1) := by decide +kernel
theorem dX10_game_6 : decode cX10_game 6 = .ok (.iload_n 2, 1) := by decide +kernel
theorem dX10_game_7 : decode cX10_game 7 = .ok (.invokevirtual 176, 3) := by decide +kernel
theorem dX10_game_10 : decode cX10_game 10 = .ok (.aload_n 0, 1) := by decide +kernel
theorem dX10_game_11 : decode cX10_game 11 = .ok (.iload_n 3, 1) := by decide +kernel
theorem dX10_game_12 : decode cX10_game 12 = .ok (.iconst 1, 1) := by decide +kernel
theorem dX10_game_13 : decode cX10_game 13 = .ok (.invokevirtual 212, 3) := by decide +kernel
theorem dX10_game_16 : decode cX10_game 16 = .ok (.iload_n 1, 1) := by decide +kernel
theorem dX10_game_17 : decode cX10_game 17 = .ok (.iload_n 2, 1) := by decide +kernel
theorem dX10_game_18 : decode cX10_game 18 = .ok (.if_icmp .ne 14, 3) := by decide +kernel
theorem dX10_game_21 : decode cX10_game 21 = .ok (.new 89, 3) := by decide +kernel
theorem dX10_game_24 : decode cX10_game 24 = .ok (.dup, 1) := by decide +kernel
theorem dX10_game_25 : decode cX10_game 25 = .ok (.ldc_w 265, 3) := by decide +kernel
theorem dX10_game_28 : decode cX10_game 28 = .ok (.invokespecial 93, 3) := by decide +kernel
theorem dX10_game_31 : decode cX10_game 31 = .ok (.athrow, 1) := by decide +kernel
theorem dX10_game_32 : decode cX10_game 32 = .ok (.iconst 0, 1) := by decide +kernel
theorem dX10_game_33 : decode cX10_game 33 = .ok (.istore 4, 2) := by decide +kernel
theorem dX10_game_35 : decode cX10_game 35 = .ok (.iload 4, 2) := by decide +kernel
theorem dX10_game_37 : decode cX10_game 37 = .ok (.iconst 4, 1) := by decide +kernel
theorem dX10_game_38 : decode cX10_game 38 = .ok (.if_icmp .ge 17, 3) := by decide +kernel
theorem dX10_game_41 : decode cX10_game 41 = .ok (.aload_n 0, 1) := by decide +kernel
theorem dX10_game_42 : decode cX10_game 42 = .ok (.iload_n 1, 1) := by decide +kernel
theorem dX10_game_43 : decode cX10_game 43 = .ok (.iload_n 2, 1) := by decide +kernel
theorem dX10_game_44 : decode cX10_game 44 = .ok (.iload 4, 2) := by decide +kernel
theorem dX10_game_46 : decode cX10_game 46 = .ok (.invokevirtual 267, 3) := by decide +kernel
theorem dX10_game_49 : decode cX10_game 49 = .ok (.iinc 4 1, 3) := by decide +kernel
theorem dX10_game_52 : decode cX10_game 52 = .ok (.goto (-17), 3) := by decide +kernel
theorem dX10_game_55 : decode cX10_game 55 = .ok (.iconst 0, 1) := by decide +kernel
theorem dX10_game_56 : decode cX10_game 56 = .ok (.istore 4, 2) := by decide +kernel
theorem dX10_game_58 : decode cX10_game 58 = .ok (.iconst (-1), 1) := by decide +kernel
theorem dX10_game_59 : decode cX10_game 59 = .ok (.istore 5, 2) := by decide +kernel
theorem dX10_game_61 : decode cX10_game 61 = .ok (.iconst 0, 1) := by decide +kernel
theorem dX10_game_62 : decode cX10_game 62 = .ok (.istore 6, 2) := by decide +kernel
theorem dX10_game_64 : decode cX10_game 64 = .ok (.iload 6, 2) := by decide +kernel
theorem dX10_game_66 : decode cX10_game 66 = .ok (.iconst 4, 1) := by decide +kernel
theorem dX10_game_67 : decode cX10_game 67 = .ok (.if_icmp .ge 90, 3) := by decide +kernel
theorem dX10_game_70 : decode cX10_game 70 = .ok (.aload_n 0, 1) := by decide +kernel
theorem dX10_game_71 : decode cX10_game 71 = .ok (.getfield 65, 3) := by decide +kernel
theorem dX10_game_74 : decode cX10_game 74 = .ok (.iload 6, 2) := by decide +kernel
theorem dX10_game_76 : decode cX10_game 76 = .ok (.iaload, 1) := by decide +kernel
theorem dX10_game_77 : decode cX10_game 77 = .ok (.aload_n 0, 1) := by decide +kernel
theorem dX10_game_78 : decode cX10_game 78 = .ok (.getfield 65, 3) := by decide +kernel
theorem dX10_game_81 : decode cX10_game 81 = .ok (.iload 6, 2) := by decide +kernel
theorem dX10_game_83 : decode cX10_game 83 = .ok (.iconst 2, 1) := by decide +kernel
theorem dX10_game_84 : decode cX10_game 84 = .ok (.ixor, 1) := by decide +kernel
theorem dX10_game_85 : decode cX10_game 85 = .ok (.iaload, 1) := by decide +kernel
theorem dX10_game_86 : decode cX10_game 86 = .ok (.if_icmp .lt 30, 3) := by decide +kernel
theorem dX10_game_89 : decode cX10_game 89 = .ok (.aload_n 0, 1) := by decide +kernel
theorem dX10_game_90 : decode cX10_game 90 = .ok (.getfield 65, 3) := by decide +kernel
theorem dX10_game_93 : decode cX10_game 93 = .ok (.iconst 4, 1) := by decide +kernel
theorem dX10_game_94 : decode cX10_game 94 = .ok (.iload 6, 2) := by decide +kernel
theorem dX10_game_96 : decode cX10_game 96 = .ok (.iadd, 1) := by decide +kernel
theorem dX10_game_97 : decode cX10_game 97 = .ok (.iaload, 1) := by decide +kernel
theorem dX10_game_98 : decode cX10_game 98 = .ok (.aload_n 0, 1) := by decide +kernel
theorem dX10_game_99 : decode cX10_game 99 = .ok (.getfield 65, 3) := by decide +kernel
theorem dX10_game_102 : decode cX10_game 102 = .ok (.iconst 4, 1) := by decide +kernel
theorem dX10_game_103 : decode cX10_game 103 = .ok (.iload 6, 2) := by decide +kernel
theorem dX10_game_105 : decode cX10_game 105 = .ok (.iconst 1, 1) := by decide +kernel
theorem dX10_game_106 : decode cX10_game 106 = .ok (.ixor, 1) := by decide +kernel
theorem dX10_game_107 : decode cX10_game 107 = .ok (.iadd, 1) := by decide +kernel
theorem dX10_game_108 : decode cX10_game 108 = .ok (.iaload, 1) := by decide +kernel
theorem dX10_game_109 : decode cX10_game 109 = .ok (.if_icmp .lt 7, 3) := by decide +kernel
theorem dX10_game_112 : decode cX10_game 112 = .ok (.iconst 1, 1) := by decide +kernel
theorem dX10_game_113 : decode cX10_game 113 = .ok (.goto 4, 3) := by decide +kernel
theorem dX10_game_116 : decode cX10_game 116 = .ok (.iconst 0, 1) := by decide +kernel
theorem dX10_game_117 : decode cX10_game 117 = .ok (.istore 7, 2) := by decide +kernel
theorem dX10_game_119 : decode cX10_game 119 = .ok (.iload 7, 2) := by decide +kernel
theorem dX10_game_121 : decode cX10_game 121 = .ok (.ifCond .eq 30, 3) := by decide +kernel
theorem dX10_game_124 : decode cX10_game 124 = .ok (.iload 4, 2) := by decide +kernel
theorem dX10_game_126 : decode cX10_game 126 = .ok (.ifCond .ne 18, 3) := by decide +kernel
theorem dX10_game_129 : decode cX10_game 129 = .ok (.bipush 10, 2) := by decide +kernel
theorem dX10_game_131 : decode cX10_game 131 = .ok (.iload 6, 2) := by decide +kernel
theorem dX10_game_133 : decode cX10_game 133 = .ok (.iconst 1, 1) := by decide +kernel
theorem dX10_game_134 : decode cX10_game 134 = .ok (.ishr, 1) := by decide +kernel
theorem dX10_game_135 : decode cX10_game 135 = .ok (.imul, 1) := by decide +kernel
theorem dX10_game_136 : decode cX10_game 136 = .ok (.iload 6, 2) := by decide +kernel
theorem dX10_game_138 : decode cX10_game 138 = .ok (.iconst 1, 1) := by decide +kernel
theorem dX10_game_139 : decode cX10_game 139 = .ok (.iand, 1) := by decide +kernel
theorem dX10_game_140 : decode cX10_game 140 = .ok (.iadd, 1) := by decide +kernel
theorem dX10_game_141 : decode cX10_game 141 = .ok (.goto 5, 3) := by decide +kernel
theorem dX10_game_144 : decode cX10_game 144 = .ok (.iload 5, 2) := by decide +kernel
theorem dX10_game_146 : decode cX10_game 146 = .ok (.istore 5, 2) := by decide +kernel
theorem dX10_game_148 : decode cX10_game 148 = .ok (.iinc 4 1, 3) := by decide +kernel
theorem dX10_game_151 : decode cX10_game 151 = .ok (.iinc 6 1, 3) := by decide +kernel
theorem dX10_game_154 : decode cX10_game 154 = .ok (.goto (-90), 3) := by decide +kernel
theorem dX10_game_157 : decode cX10_game 157 = .ok (.iload_n 3, 1) := by decide +kernel
theorem dX10_game_158 : decode cX10_game 158 = .ok (.ifCond .ne 8, 3) := by decide +kernel
theorem dX10_game_161 : decode cX10_game 161 = .ok (.iload 4, 2) := by decide +kernel
theorem dX10_game_163 : decode cX10_game 163 = .ok (.goto 5, 3) := by decide +kernel
theorem dX10_game_166 : decode cX10_game 166 = .ok (.iload 5, 2) := by decide +kernel
theorem dX10_game_168 : decode cX10_game 168 = .ok (.ireturn, 1) := by decide +kernel
theorem dX10_years_0 : decode cX10_years 0 = .ok (.aload_n 0, 1) := by decide +kernel
theorem dX10_years_1 : decode cX10_years 1 = .ok (.iload_n 3, 1) := by decide +kernel
theorem dX10_years_2 : decode cX10_years 2 = .ok (.iconst 2, 1) := by decide +kernel
theorem dX10_years_3 : decode cX10_years 3 = .ok (.invokevirtual 212, 3) := by decide +kernel
theorem dX10_years_6 : decode cX10_years 6 = .ok (.aload_n 0, 1) := by decide +kernel
theorem dX10_years_7 : decode cX10_years 7 = .ok (.iload_n 2, 1) := by decide +kernel
theorem dX10_years_8 : decode cX10_years 8 = .ok (.invokevirtual 206, 3) := by decide +kernel
theorem dX10_years_11 : decode cX10_years 11 = .ok (.aload_n 0, 1) := by decide +kernel
theorem dX10_years_12 : decode cX10_years 12 = .ok (.invokevirtual 270, 3) := by decide +kernel
theorem dX10_years_15 : decode cX10_years 15 = .ok (.aload_n 0, 1) := by decide +kernel
theorem dX10_years_16 : decode cX10_years 16 = .ok (.getfield 24, 3) := by decide +kernel
theorem dX10_years_19 : decode cX10_years 19 = .ok (.aload_n 0, 1) := by decide +kernel
theorem dX10_years_20 : decode cX10_years 20 = .ok (.getfield 58, 3) := by decide +kernel
theorem dX10_years_23 : decode cX10_years 23 = .ok (.iload_n 1, 1) := by decide +kernel
theorem dX10_years_24 : decode cX10_years 24 = .ok (.iload_n 2, 1) := by decide +kernel
theorem dX10_years_25 : decode cX10_years 25 = .ok (.invokevirtual 273, 3) := by decide +kernel
theorem dX10_years_28 : decode cX10_years 28 = .ok (.istore 4, 2) := by decide +kernel
theorem dX10_years_30 : decode cX10_years 30 = .ok (.iload_n 3, 1) := by decide +kernel
theorem dX10_years_31 : decode cX10_years 31 = .ok (.lookupswitch 39 #[(0, 25), (1, 28)], 25) := by decide +kernel
theorem dX10_years_56 : decode cX10_years 56 = .ok (.iload 4, 2) := by decide +kernel
theorem dX10_years_58 : decode cX10_years 58 = .ok (.ireturn, 1) := by decide +kernel
theorem dX10_years_59 : decode cX10_years 59 = .ok (.aload_n 0, 1) := by decide +kernel
theorem dX10_years_60 : decode cX10_years 60 = .ok (.getfield 58, 3) := by decide +kernel
theorem dX10_years_63 : decode cX10_years 63 = .ok (.bipush 62, 2) := by decide +kernel
theorem dX10_years_65 : decode cX10_years 65 = .ok (.iaload, 1) := by decide +kernel
theorem dX10_years_66 : decode cX10_years 66 = .ok (.invokestatic 226, 3) := by decide +kernel
theorem dX10_years_69 : decode cX10_years 69 = .ok (.ireturn, 1) := by decide +kernel
theorem dX10_years_70 : decode cX10_years 70 = .ok (.aload_n 0, 1) := by decide +kernel
theorem dX10_years_71 : decode cX10_years 71 = .ok (.getfield 24, 3) := by decide +kernel
theorem dX10_years_74 : decode cX10_years 74 = .ok (.aload_n 0, 1) := by decide +kernel
theorem dX10_years_75 : decode cX10_years 75 = .ok (.getfield 58, 3) := by decide +kernel
theorem dX10_years_78 : decode cX10_years 78 = .ok (.invokevirtual 129, 3) := by decide +kernel
theorem dX10_years_81 : decode cX10_years 81 = .ok (.ireturn, 1) := by decide +kernel
theorem dX10_image_0 : decode cX10_image 0 = .ok (.aload_n 0, 1) := by decide +kernel
theorem dX10_image_1 : decode cX10_image 1 = .ok (.getfield 47, 3) := by decide +kernel
theorem dX10_image_4 : decode cX10_image 4 = .ok (.aload_n 0, 1) := by decide +kernel
theorem dX10_image_5 : decode cX10_image 5 = .ok (.getfield 43, 3) := by decide +kernel
theorem dX10_image_8 : decode cX10_image 8 = .ok (.invokevirtual 276, 3) := by decide +kernel
theorem dX10_image_11 : decode cX10_image 11 = .ok (.aload_n 0, 1) := by decide +kernel
theorem dX10_image_12 : decode cX10_image 12 = .ok (.iconst 1, 1) := by decide +kernel
theorem dX10_image_13 : decode cX10_image 13 = .ok (.putfield 50, 3) := by decide +kernel
theorem dX10_image_16 : decode cX10_image 16 = .ok (.return_, 1) := by decide +kernel
theorem dX10_restore_0 : decode cX10_restore 0 = .ok (.aload_n 0, 1) := by decide +kernel
theorem dX10_restore_1 : decode cX10_restore 1 = .ok (.getfield 50, 3) := by decide +kernel
theorem dX10_restore_4 : decode cX10_restore 4 = .ok (.ifCond .eq 14, 3) := by decide +kernel
theorem dX10_restore_7 : decode cX10_restore 7 = .ok (.aload_n 0, 1) := by decide +kernel
theorem dX10_restore_8 : decode cX10_restore 8 = .ok (.getfield 43, 3) := by decide +kernel
theorem dX10_restore_11 : decode cX10_restore 11 = .ok (.aload_n 0, 1) := by decide +kernel
theorem dX10_restore_12 : decode cX10_restore 12 = .ok (.getfield 47, 3) := by decide +kernel
theorem dX10_restore_15 : decode cX10_restore 15 = .ok (.invokevirtual 276, 3) := by decide +kernel
theorem dX10_restore_18 : decode cX10_restore 18 = .ok (.aload_n 0, 1) := by decide +kernel
theorem dX10_restore_19 : decode cX10_restore 19 = .ok (.getfield 50, 3) := by decide +kernel
theorem dX10_restore_22 : decode cX10_restore 22 = .ok (.ireturn, 1) := by decide +kernel
theorem dX10_needHouse_0 : decode cX10_needHouse 0 = .ok (.iload_n 1, 1) := by decide +kernel
theorem dX10_needHouse_1 : decode cX10_needHouse 1 = .ok (.ifCond .lt 14, 3) := by decide +kernel
theorem dX10_needHouse_4 : decode cX10_needHouse 4 = .ok (.iload_n 1, 1) := by decide +kernel
theorem dX10_needHouse_5 : decode cX10_needHouse 5 = .ok (.aload_n 0, 1) := by decide +kernel
theorem dX10_needHouse_6 : decode cX10_needHouse 6 = .ok (.getfield 32, 3) := by decide +kernel
theorem dX10_needHouse_9 : decode cX10_needHouse 9 = .ok (.getfield 113, 3) := by decide +kernel
theorem dX10_needHouse_12 : decode cX10_needHouse 12 = .ok (.if_icmp .lt 14, 3) := by decide +kernel
theorem dX10_needHouse_15 : decode cX10_needHouse 15 = .ok (.new 152, 3) := by decide +kernel
theorem dX10_needHouse_18 : decode cX10_needHouse 18 = .ok (.dup, 1) := by decide +kernel
theorem dX10_needHouse_19 : decode cX10_needHouse 19 = .ok (.ldc_w 279, 3) := by decide +kernel
theorem dX10_needHouse_22 : decode cX10_needHouse 22 = .ok (.invokespecial 156, 3) := by decide +kernel
theorem dX10_needHouse_25 : decode cX10_needHouse 25 = .ok (.athrow, 1) := by decide +kernel
theorem dX10_needHouse_26 : decode cX10_needHouse 26 = .ok (.return_, 1) := by decide +kernel
theorem dX10_needTenant_0 : decode cX10_needTenant 0 = .ok (.iload_n 1, 1) := by decide +kernel
theorem dX10_needTenant_1 : decode cX10_needTenant 1 = .ok (.ifCond .lt 14, 3) := by decide +kernel
theorem dX10_needTenant_4 : decode cX10_needTenant 4 = .ok (.iload_n 1, 1) := by decide +kernel
theorem dX10_needTenant_5 : decode cX10_needTenant 5 = .ok (.aload_n 0, 1) := by decide +kernel
theorem dX10_needTenant_6 : decode cX10_needTenant 6 = .ok (.getfield 32, 3) := by decide +kernel
theorem dX10_needTenant_9 : decode cX10_needTenant 9 = .ok (.getfield 116, 3) := by decide +kernel
theorem dX10_needTenant_12 : decode cX10_needTenant 12 = .ok (.if_icmp .lt 14, 3) := by decide +kernel
theorem dX10_needTenant_15 : decode cX10_needTenant 15 = .ok (.new 152, 3) := by decide +kernel
theorem dX10_needTenant_18 : decode cX10_needTenant 18 = .ok (.dup, 1) := by decide +kernel
theorem dX10_needTenant_19 : decode cX10_needTenant 19 = .ok (.ldc_w 281, 3) := by decide +kernel
theorem dX10_needTenant_22 : decode cX10_needTenant 22 = .ok (.invokespecial 156, 3) := by decide +kernel
theorem dX10_needTenant_25 : decode cX10_needTenant 25 = .ok (.athrow, 1) := by decide +kernel
theorem dX10_needTenant_26 : decode cX10_needTenant 26 = .ok (.return_, 1) := by decide +kernel
theorem dX10_needWhat_0 : decode cX10_needWhat 0 = .ok (.iload_n 1, 1) := by decide +kernel
theorem dX10_needWhat_1 : decode cX10_needWhat 1 = .ok (.ifCond .lt 8, 3) := by decide +kernel
theorem dX10_needWhat_4 : decode cX10_needWhat 4 = .ok (.iload_n 1, 1) := by decide +kernel
theorem dX10_needWhat_5 : decode cX10_needWhat 5 = .ok (.iload_n 2, 1) := by decide +kernel
theorem dX10_needWhat_6 : decode cX10_needWhat 6 = .ok (.if_icmp .le 14, 3) := by decide +kernel
theorem dX10_needWhat_9 : decode cX10_needWhat 9 = .ok (.new 152, 3) := by decide +kernel
theorem dX10_needWhat_12 : decode cX10_needWhat 12 = .ok (.dup, 1) := by decide +kernel
theorem dX10_needWhat_13 : decode cX10_needWhat 13 = .ok (.ldc_w 283, 3) := by decide +kernel
theorem dX10_needWhat_16 : decode cX10_needWhat 16 = .ok (.invokespecial 156, 3) := by decide +kernel
theorem dX10_needWhat_19 : decode cX10_needWhat 19 = .ok (.athrow, 1) := by decide +kernel
theorem dX10_needWhat_20 : decode cX10_needWhat 20 = .ok (.return_, 1) := by decide +kernel
theorem dX10_needAhead_0 : decode cX10_needAhead 0 = .ok (.iload_n 1, 1) := by decide +kernel
theorem dX10_needAhead_1 : decode cX10_needAhead 1 = .ok (.ifCond .lt 9, 3) := by decide +kernel
theorem dX10_needAhead_4 : decode cX10_needAhead 4 = .ok (.iload_n 1, 1) := by decide +kernel
theorem dX10_needAhead_5 : decode cX10_needAhead 5 = .ok (.bipush 40, 2) := by decide +kernel
theorem dX10_needAhead_7 : decode cX10_needAhead 7 = .ok (.if_icmp .le 14, 3) := by decide +kernel
theorem dX10_needAhead_10 : decode cX10_needAhead 10 = .ok (.new 89, 3) := by decide +kernel
theorem dX10_needAhead_13 : decode cX10_needAhead 13 = .ok (.dup, 1) := by decide +kernel
theorem dX10_needAhead_14 : decode cX10_needAhead 14 = .ok (.ldc_w 285, 3) := by decide +kernel
theorem dX10_needAhead_17 : decode cX10_needAhead 17 = .ok (.invokespecial 93, 3) := by decide +kernel
theorem dX10_needAhead_20 : decode cX10_needAhead 20 = .ok (.athrow, 1) := by decide +kernel
theorem dX10_needAhead_21 : decode cX10_needAhead 21 = .ok (.return_, 1) := by decide +kernel
theorem dX10_isSealedNow_0 : decode cX10_isSealedNow 0 = .ok (.aload_n 0, 1) := by decide +kernel
theorem dX10_isSealedNow_1 : decode cX10_isSealedNow 1 = .ok (.getfield 43, 3) := by decide +kernel
theorem dX10_isSealedNow_4 : decode cX10_isSealedNow 4 = .ok (.getfield 122, 3) := by decide +kernel
theorem dX10_isSealedNow_7 : decode cX10_isSealedNow 7 = .ok (.bipush 62, 2) := by decide +kernel
theorem dX10_isSealedNow_9 : decode cX10_isSealedNow 9 = .ok (.iaload, 1) := by decide +kernel
theorem dX10_isSealedNow_10 : decode cX10_isSealedNow 10 = .ok (.iload_n 1, 1) := by decide +kernel
theorem dX10_isSealedNow_11 : decode cX10_isSealedNow 11 = .ok (.ishr, 1) := by decide +kernel
theorem dX10_isSealedNow_12 : decode cX10_isSealedNow 12 = .ok (.iconst 1, 1) := by decide +kernel
theorem dX10_isSealedNow_13 : decode cX10_isSealedNow 13 = .ok (.iand, 1) := by decide +kernel
theorem dX10_isSealedNow_14 : decode cX10_isSealedNow 14 = .ok (.iconst 1, 1) := by decide +kernel
theorem dX10_isSealedNow_15 : decode cX10_isSealedNow 15 = .ok (.if_icmp .ne 7, 3) := by decide +kernel
theorem dX10_isSealedNow_18 : decode cX10_isSealedNow 18 = .ok (.iconst 1, 1) := by decide +kernel
theorem dX10_isSealedNow_19 : decode cX10_isSealedNow 19 = .ok (.goto 4, 3) := by decide +kernel
theorem dX10_isSealedNow_22 : decode cX10_isSealedNow 22 = .ok (.iconst 0, 1) := by decide +kernel
theorem dX10_isSealedNow_23 : decode cX10_isSealedNow 23 = .ok (.ireturn, 1) := by decide +kernel
theorem dX10_copyToTrial_0 : decode cX10_copyToTrial 0 = .ok (.aload_n 0, 1) := by decide +kernel
theorem dX10_copyToTrial_1 : decode cX10_copyToTrial 1 = .ok (.getfield 43, 3) := by decide +kernel
theorem dX10_copyToTrial_4 : decode cX10_copyToTrial 4 = .ok (.getfield 122, 3) := by decide +kernel
theorem dX10_copyToTrial_7 : decode cX10_copyToTrial 7 = .ok (.iconst 0, 1) := by decide +kernel
theorem dX10_copyToTrial_8 : decode cX10_copyToTrial 8 = .ok (.aload_n 0, 1) := by decide +kernel
theorem dX10_copyToTrial_9 : decode cX10_copyToTrial 9 = .ok (.getfield 58, 3) := by decide +kernel
theorem dX10_copyToTrial_12 : decode cX10_copyToTrial 12 = .ok (.iconst 0, 1) := by decide +kernel
theorem dX10_copyToTrial_13 : decode cX10_copyToTrial 13 = .ok (.bipush 64, 2) := by decide +kernel
theorem dX10_copyToTrial_15 : decode cX10_copyToTrial 15 = .ok (.invokestatic 287, 3) := by decide +kernel
theorem dX10_copyToTrial_18 : decode cX10_copyToTrial 18 = .ok (.return_, 1) := by decide +kernel
theorem dX10_tryAhead_0 : decode cX10_tryAhead 0 = .ok (.aload_n 0, 1) := by decide +kernel
theorem dX10_tryAhead_1 : decode cX10_tryAhead 1 = .ok (.invokevirtual 270, 3) := by decide +kernel
theorem dX10_tryAhead_4 : decode cX10_tryAhead 4 = .ok (.aload_n 0, 1) := by decide +kernel
theorem dX10_tryAhead_5 : decode cX10_tryAhead 5 = .ok (.getfield 24, 3) := by decide +kernel
theorem dX10_tryAhead_8 : decode cX10_tryAhead 8 = .ok (.aload_n 0, 1) := by decide +kernel
theorem dX10_tryAhead_9 : decode cX10_tryAhead 9 = .ok (.getfield 58, 3) := by decide +kernel
theorem dX10_tryAhead_12 : decode cX10_tryAhead 12 = .ok (.iload_n 1, 1) := by decide +kernel
theorem dX10_tryAhead_13 : decode cX10_tryAhead 13 = .ok (.invokevirtual 190, 3) := by decide +kernel
theorem dX10_tryAhead_16 : decode cX10_tryAhead 16 = .ok (.return_, 1) := by decide +kernel
theorem dX10_tryQuarterWith_0 : decode cX10_tryQuarterWith 0 = .ok (.aload_n 0, 1) := by decide +kernel
theorem dX10_tryQuarterWith_1 : decode cX10_tryQuarterWith 1 = .ok (.invokevirtual 270, 3) := by decide +kernel
theorem dX10_tryQuarterWith_4 : decode cX10_tryQuarterWith 4 = .ok (.aload_n 0, 1) := by decide +kernel
theorem dX10_tryQuarterWith_5 : decode cX10_tryQuarterWith 5 = .ok (.getfield 58, 3) := by decide +kernel
theorem dX10_tryQuarterWith_8 : decode cX10_tryQuarterWith 8 = .ok (.iload_n 1, 1) := by decide +kernel
theorem dX10_tryQuarterWith_9 : decode cX10_tryQuarterWith 9 = .ok (.iload_n 2, 1) := by decide +kernel
theorem dX10_tryQuarterWith_10 : decode cX10_tryQuarterWith 10 = .ok (.iastore, 1) := by decide +kernel
theorem dX10_tryQuarterWith_11 : decode cX10_tryQuarterWith 11 = .ok (.aload_n 0, 1) := by decide +kernel
theorem dX10_tryQuarterWith_12 : decode cX10_tryQuarterWith 12 = .ok (.getfield 24, 3) := by decide +kernel
theorem dX10_tryQuarterWith_15 : decode cX10_tryQuarterWith 15 = .ok (.aload_n 0, 1) := by decide +kernel
theorem dX10_tryQuarterWith_16 : decode cX10_tryQuarterWith 16 = .ok (.getfield 58, 3) := by decide +kernel
theorem dX10_tryQuarterWith_19 : decode cX10_tryQuarterWith 19 = .ok (.invokevirtual 293, 3) := by decide +kernel
theorem dX10_tryQuarterWith_22 : decode cX10_tryQuarterWith 22 = .ok (.return_, 1) := by decide +kernel
theorem dX10_firstWhen_0 : decode cX10_firstWhen 0 = .ok (.aload_n 0, 1) := by decide +kernel
theorem dX10_firstWhen_1 : decode cX10_firstWhen 1 = .ok (.invokevirtual 270, 3) := by decide +kernel
theorem dX10_firstWhen_4 : decode cX10_firstWhen 4 = .ok (.iconst 0, 1) := by decide +kernel
theorem dX10_firstWhen_5 : decode cX10_firstWhen 5 = .ok (.istore 4, 2) := by decide +kernel
theorem dX10_firstWhen_7 : decode cX10_firstWhen 7 = .ok (.iload 4, 2) := by decide +kernel
theorem dX10_firstWhen_9 : decode cX10_firstWhen 9 = .ok (.bipush 40, 2) := by decide +kernel
theorem dX10_firstWhen_11 : decode cX10_firstWhen 11 = .ok (.if_icmp .gt 52, 3) := by decide +kernel
theorem dX10_firstWhen_14 : decode cX10_firstWhen 14 = .ok (.aload_n 0, 1) := by decide +kernel
theorem dX10_firstWhen_15 : decode cX10_firstWhen 15 = .ok (.getfield 58, 3) := by decide +kernel
theorem dX10_firstWhen_18 : decode cX10_firstWhen 18 = .ok (.bipush 24, 2) := by decide +kernel
theorem dX10_firstWhen_20 : decode cX10_firstWhen 20 = .ok (.iload_n 1, 1) := by decide +kernel
theorem dX10_firstWhen_21 : decode cX10_firstWhen 21 = .ok (.iadd, 1) := by decide +kernel
theorem dX10_firstWhen_22 : decode cX10_firstWhen 22 = .ok (.iaload, 1) := by decide +kernel
theorem dX10_firstWhen_23 : decode cX10_firstWhen 23 = .ok (.iload_n 2, 1) := by decide +kernel
theorem dX10_firstWhen_24 : decode cX10_firstWhen 24 = .ok (.if_icmp .ne 7, 3) := by decide +kernel
theorem dX10_firstWhen_27 : decode cX10_firstWhen 27 = .ok (.iconst 1, 1) := by decide +kernel
theorem dX10_firstWhen_28 : decode cX10_firstWhen 28 = .ok (.goto 4, 3) := by decide +kernel
theorem dX10_firstWhen_31 : decode cX10_firstWhen 31 = .ok (.iconst 0, 1) := by decide +kernel
theorem dX10_firstWhen_32 : decode cX10_firstWhen 32 = .ok (.iload_n 3, 1) := by decide +kernel
theorem dX10_firstWhen_33 : decode cX10_firstWhen 33 = .ok (.if_icmp .ne 6, 3) := by decide +kernel
theorem dX10_firstWhen_36 : decode cX10_firstWhen 36 = .ok (.iload 4, 2) := by decide +kernel
theorem dX10_firstWhen_38 : decode cX10_firstWhen 38 = .ok (.ireturn, 1) := by decide +kernel
theorem dX10_firstWhen_39 : decode cX10_firstWhen 39 = .ok (.iload 4, 2) := by decide +kernel
theorem dX10_firstWhen_41 : decode cX10_firstWhen 41 = .ok (.bipush 40, 2) := by decide +kernel
theorem dX10_firstWhen_43 : decode cX10_firstWhen 43 = .ok (.if_icmp .ge 14, 3) := by decide +kernel
theorem dX10_firstWhen_46 : decode cX10_firstWhen 46 = .ok (.aload_n 0, 1) := by decide +kernel
theorem dX10_firstWhen_47 : decode cX10_firstWhen 47 = .ok (.getfield 24, 3) := by decide +kernel
theorem dX10_firstWhen_50 : decode cX10_firstWhen 50 = .ok (.aload_n 0, 1) := by decide +kernel
theorem dX10_firstWhen_51 : decode cX10_firstWhen 51 = .ok (.getfield 58, 3) := by decide +kernel
theorem dX10_firstWhen_54 : decode cX10_firstWhen 54 = .ok (.invokevirtual 293, 3) := by decide +kernel
theorem dX10_firstWhen_57 : decode cX10_firstWhen 57 = .ok (.iinc 4 1, 3) := by decide +kernel
theorem dX10_firstWhen_60 : decode cX10_firstWhen 60 = .ok (.goto (-53), 3) := by decide +kernel
theorem dX10_firstWhen_63 : decode cX10_firstWhen 63 = .ok (.iconst (-1), 1) := by decide +kernel
theorem dX10_firstWhen_64 : decode cX10_firstWhen 64 = .ok (.ireturn, 1) := by decide +kernel
theorem dX10_isAsSeen_0 : decode cX10_isAsSeen 0 = .ok (.aload_n 0, 1) := by decide +kernel
theorem dX10_isAsSeen_1 : decode cX10_isAsSeen 1 = .ok (.invokevirtual 270, 3) := by decide +kernel
theorem dX10_isAsSeen_4 : decode cX10_isAsSeen 4 = .ok (.iload_n 1, 1) := by decide +kernel
theorem dX10_isAsSeen_5 : decode cX10_isAsSeen 5 = .ok (.iconst (-1), 1) := by decide +kernel
theorem dX10_isAsSeen_6 : decode cX10_isAsSeen 6 = .ok (.if_icmp .eq 13, 3) := by decide +kernel
theorem dX10_isAsSeen_9 : decode cX10_isAsSeen 9 = .ok (.aload_n 0, 1) := by decide +kernel
theorem dX10_isAsSeen_10 : decode cX10_isAsSeen 10 = .ok (.getfield 58, 3) := by decide +kernel
theorem dX10_isAsSeen_13 : decode cX10_isAsSeen 13 = .ok (.bipush 40, 2) := by decide +kernel
theorem dX10_isAsSeen_15 : decode cX10_isAsSeen 15 = .ok (.iload_n 1, 1) := by decide +kernel
theorem dX10_isAsSeen_16 : decode cX10_isAsSeen 16 = .ok (.iadd, 1) := by decide +kernel
theorem dX10_isAsSeen_17 : decode cX10_isAsSeen 17 = .ok (.iload_n 2, 1) := by decide +kernel
theorem dX10_isAsSeen_18 : decode cX10_isAsSeen 18 = .ok (.iastore, 1) := by decide +kernel
theorem dX10_isAsSeen_19 : decode cX10_isAsSeen 19 = .ok (.aload_n 0, 1) := by decide +kernel
theorem dX10_isAsSeen_20 : decode cX10_isAsSeen 20 = .ok (.getfield 43, 3) := by decide +kernel
theorem dX10_isAsSeen_23 : decode cX10_isAsSeen 23 = .ok (.getfield 142, 3) := by decide +kernel
theorem dX10_isAsSeen_26 : decode cX10_isAsSeen 26 = .ok (.invokevirtual 296, 3) := by decide +kernel
theorem dX10_isAsSeen_29 : decode cX10_isAsSeen 29 = .ok (.istore_n 3, 1) := by decide +kernel
theorem dX10_isAsSeen_30 : decode cX10_isAsSeen 30 = .ok (.iconst 1, 1) := by decide +kernel
theorem dX10_isAsSeen_31 : decode cX10_isAsSeen 31 = .ok (.istore 4, 2) := by decide +kernel
theorem dX10_isAsSeen_33 : decode cX10_isAsSeen 33 = .ok (.iload 4, 2) := by decide +kernel
theorem dX10_isAsSeen_35 : decode cX10_isAsSeen 35 = .ok (.iload_n 3, 1) := by decide +kernel
theorem dX10_isAsSeen_36 : decode cX10_isAsSeen 36 = .ok (.if_icmp .gt 41, 3) := by decide +kernel
theorem dX10_isAsSeen_39 : decode cX10_isAsSeen 39 = .ok (.aload_n 0, 1) := by decide +kernel
theorem dX10_isAsSeen_40 : decode cX10_isAsSeen 40 = .ok (.getfield 24, 3) := by decide +kernel
theorem dX10_isAsSeen_43 : decode cX10_isAsSeen 43 = .ok (.aload_n 0, 1) := by decide +kernel
theorem dX10_isAsSeen_44 : decode cX10_isAsSeen 44 = .ok (.getfield 58, 3) := by decide +kernel
theorem dX10_isAsSeen_47 : decode cX10_isAsSeen 47 = .ok (.invokevirtual 293, 3) := by decide +kernel
theorem dX10_isAsSeen_50 : decode cX10_isAsSeen 50 = .ok (.aload_n 0, 1) := by decide +kernel
theorem dX10_isAsSeen_51 : decode cX10_isAsSeen 51 = .ok (.getfield 43, 3) := by decide +kernel
theorem dX10_isAsSeen_54 : decode cX10_isAsSeen 54 = .ok (.getfield 142, 3) := by decide +kernel
theorem dX10_isAsSeen_57 : decode cX10_isAsSeen 57 = .ok (.aload_n 0, 1) := by decide +kernel
theorem dX10_isAsSeen_58 : decode cX10_isAsSeen 58 = .ok (.getfield 58, 3) := by decide +kernel
theorem dX10_isAsSeen_61 : decode cX10_isAsSeen 61 = .ok (.iload 4, 2) := by decide +kernel
theorem dX10_isAsSeen_63 : decode cX10_isAsSeen 63 = .ok (.invokevirtual 299, 3) := by decide +kernel
theorem dX10_isAsSeen_66 : decode cX10_isAsSeen 66 = .ok (.ifCond .ne 5, 3) := by decide +kernel
theorem dX10_isAsSeen_69 : decode cX10_isAsSeen 69 = .ok (.iconst 0, 1) := by decide +kernel
theorem dX10_isAsSeen_70 : decode cX10_isAsSeen 70 = .ok (.ireturn, 1) := by decide +kernel
theorem dX10_isAsSeen_71 : decode cX10_isAsSeen 71 = .ok (.iinc 4 1, 3) := by decide +kernel
theorem dX10_isAsSeen_74 : decode cX10_isAsSeen 74 = .ok (.goto (-41), 3) := by decide +kernel
theorem dX10_isAsSeen_77 : decode cX10_isAsSeen 77 = .ok (.iconst 1, 1) := by decide +kernel
theorem dX10_isAsSeen_78 : decode cX10_isAsSeen 78 = .ok (.ireturn, 1) := by decide +kernel
theorem dX10_meetOwners_0 : decode cX10_meetOwners 0 = .ok (.iconst 0, 1) := by decide +kernel
theorem dX10_meetOwners_1 : decode cX10_meetOwners 1 = .ok (.istore_n 1, 1) := by decide +kernel
theorem dX10_meetOwners_2 : decode cX10_meetOwners 2 = .ok (.iload_n 1, 1) := by decide +kernel
theorem dX10_meetOwners_3 : decode cX10_meetOwners 3 = .ok (.bipush 8, 2) := by decide +kernel
theorem dX10_meetOwners_5 : decode cX10_meetOwners 5 = .ok (.if_icmp .ge 16, 3) := by decide +kernel
theorem dX10_meetOwners_8 : decode cX10_meetOwners 8 = .ok (.aload_n 0, 1) := by decide +kernel
theorem dX10_meetOwners_9 : decode cX10_meetOwners 9 = .ok (.getfield 62, 3) := by decide +kernel
theorem dX10_meetOwners_12 : decode cX10_meetOwners 12 = .ok (.iload_n 1, 1) := by decide +kernel
theorem dX10_meetOwners_13 : decode cX10_meetOwners 13 = .ok (.iconst 0, 1) := by decide +kernel
theorem dX10_meetOwners_14 : decode cX10_meetOwners 14 = .ok (.iastore, 1) := by decide +kernel
theorem dX10_meetOwners_15 : decode cX10_meetOwners 15 = .ok (.iinc 1 1, 3) := by decide +kernel
theorem dX10_meetOwners_18 : decode cX10_meetOwners 18 = .ok (.goto (-16), 3) := by decide +kernel
theorem dX10_meetOwners_21 : decode cX10_meetOwners 21 = .ok (.iconst 0, 1) := by decide +kernel
theorem dX10_meetOwners_22 : decode cX10_meetOwners 22 = .ok (.istore_n 1, 1) := by decide +kernel
theorem dX10_meetOwners_23 : decode cX10_meetOwners 23 = .ok (.iload_n 1, 1) := by decide +kernel
theorem dX10_meetOwners_24 : decode cX10_meetOwners 24 = .ok (.aload_n 0, 1) := by decide +kernel
theorem dX10_meetOwners_25 : decode cX10_meetOwners 25 = .ok (.getfield 32, 3) := by decide +kernel
theorem dX10_meetOwners_28 : decode cX10_meetOwners 28 = .ok (.getfield 116, 3) := by decide +kernel
theorem dX10_meetOwners_31 : decode cX10_meetOwners 31 = .ok (.if_icmp .ge 61, 3) := by decide +kernel
theorem dX10_meetOwners_34 : decode cX10_meetOwners 34 = .ok (.iconst 0, 1) := by decide +kernel
theorem dX10_meetOwners_35 : decode cX10_meetOwners 35 = .ok (.istore_n 2, 1) := by decide +kernel
theorem dX10_meetOwners_36 : decode cX10_meetOwners 36 = .ok (.iload_n 2, 1) := by decide +kernel
theorem dX10_meetOwners_37 : decode cX10_meetOwners 37 = .ok (.bipush 20, 2) := by decide +kernel
theorem dX10_meetOwners_39 : decode cX10_meetOwners 39 = .ok (.if_icmp .gt 47, 3) := by decide +kernel
theorem dX10_meetOwners_42 : decode cX10_meetOwners 42 = .ok (.iload_n 2, 1) := by decide +kernel
theorem dX10_meetOwners_43 : decode cX10_meetOwners 43 = .ok (.aload_n 0, 1) := by decide +kernel
theorem dX10_meetOwners_44 : decode cX10_meetOwners 44 = .ok (.getfield 43, 3) := by decide +kernel
theorem dX10_meetOwners_47 : decode cX10_meetOwners 47 = .ok (.getfield 122, 3) := by decide +kernel
theorem dX10_meetOwners_50 : decode cX10_meetOwners 50 = .ok (.bipush 40, 2) := by decide +kernel
theorem dX10_meetOwners_52 : decode cX10_meetOwners 52 = .ok (.iload_n 1, 1) := by decide +kernel
theorem dX10_meetOwners_53 : decode cX10_meetOwners 53 = .ok (.iadd, 1) := by decide +kernel
theorem dX10_meetOwners_54 : decode cX10_meetOwners 54 = .ok (.iaload, 1) := by decide +kernel
theorem dX10_meetOwners_55 : decode cX10_meetOwners 55 = .ok (.if_icmp .eq 25, 3) := by decide +kernel
theorem dX10_meetOwners_58 : decode cX10_meetOwners 58 = .ok (.aload_n 0, 1) := by decide +kernel
theorem dX10_meetOwners_59 : decode cX10_meetOwners 59 = .ok (.iload_n 1, 1) := by decide +kernel
theorem dX10_meetOwners_60 : decode cX10_meetOwners 60 = .ok (.iload_n 2, 1) := by decide +kernel
theorem dX10_meetOwners_61 : decode cX10_meetOwners 61 = .ok (.invokevirtual 258, 3) := by decide +kernel
theorem dX10_meetOwners_64 : decode cX10_meetOwners 64 = .ok (.ifCond .eq 16, 3) := by decide +kernel
theorem dX10_meetOwners_67 : decode cX10_meetOwners 67 = .ok (.aload_n 0, 1) := by decide +kernel
theorem dX10_meetOwners_68 : decode cX10_meetOwners 68 = .ok (.bipush 40, 2) := by decide +kernel
theorem dX10_meetOwners_70 : decode cX10_meetOwners 70 = .ok (.iload_n 1, 1) := by decide +kernel
theorem dX10_meetOwners_71 : decode cX10_meetOwners 71 = .ok (.iadd, 1) := by decide +kernel
theorem dX10_meetOwners_72 : decode cX10_meetOwners 72 = .ok (.iload_n 2, 1) := by decide +kernel
theorem dX10_meetOwners_73 : decode cX10_meetOwners 73 = .ok (.invokevirtual 235, 3) := by decide +kernel
theorem dX10_meetOwners_76 : decode cX10_meetOwners 76 = .ok (.aload_n 0, 1) := by decide +kernel
theorem dX10_meetOwners_77 : decode cX10_meetOwners 77 = .ok (.invokevirtual 302, 3) := by decide +kernel
theorem dX10_meetOwners_80 : decode cX10_meetOwners 80 = .ok (.iinc 2 1, 3) := by decide +kernel
theorem dX10_meetOwners_83 : decode cX10_meetOwners 83 = .ok (.goto (-47), 3) := by decide +kernel
theorem dX10_meetOwners_86 : decode cX10_meetOwners 86 = .ok (.iinc 1 1, 3) := by decide +kernel
theorem dX10_meetOwners_89 : decode cX10_meetOwners 89 = .ok (.goto (-66), 3) := by decide +kernel
theorem dX10_meetOwners_92 : decode cX10_meetOwners 92 = .ok (.return_, 1) := by decide +kernel
theorem dX10_meetOwnersOfTrial_0 : decode cX10_meetOwnersOfTrial 0 = .ok (.iconst 0, 1) := by decide +kernel
theorem dX10_meetOwnersOfTrial_1 : decode cX10_meetOwnersOfTrial 1 = .ok (.istore_n 1, 1) := by decide +kernel
theorem dX10_meetOwnersOfTrial_2 : decode cX10_meetOwnersOfTrial 2 = .ok (.iload_n 1, 1) := by decide +kernel
theorem dX10_meetOwnersOfTrial_3 : decode cX10_meetOwnersOfTrial 3 = .ok (.aload_n 0, 1) := by decide +kernel
theorem dX10_meetOwnersOfTrial_4 : decode cX10_meetOwnersOfTrial 4 = .ok (.getfield 32, 3) := by decide +kernel
theorem dX10_meetOwnersOfTrial_7 : decode cX10_meetOwnersOfTrial 7 = .ok (.getfield 113, 3) := by decide +kernel
theorem dX10_meetOwnersOfTrial_10 : decode cX10_meetOwnersOfTrial 10 = .ok (.if_icmp .ge 31, 3) := by decide +kernel
theorem dX10_meetOwnersOfTrial_13 : decode cX10_meetOwnersOfTrial 13 = .ok (.aload_n 0, 1) := by decide +kernel
theorem dX10_meetOwnersOfTrial_14 : decode cX10_meetOwnersOfTrial 14 = .ok (.getfield 62, 3) := by decide +kernel
theorem dX10_meetOwnersOfTrial_17 : decode cX10_meetOwnersOfTrial 17 = .ok (.iload_n 1, 1) := by decide +kernel
theorem dX10_meetOwnersOfTrial_18 : decode cX10_meetOwnersOfTrial 18 = .ok (.dup2, 1) := by decide +kernel
theorem dX10_meetOwnersOfTrial_19 : decode cX10_meetOwnersOfTrial 19 = .ok (.iaload, 1) := by decide +kernel
theorem dX10_meetOwnersOfTrial_20 : decode cX10_meetOwnersOfTrial 20 = .ok (.iconst 1, 1) := by decide +kernel
theorem dX10_meetOwnersOfTrial_21 : decode cX10_meetOwnersOfTrial 21 = .ok (.aload_n 0, 1) := by decide +kernel
theorem dX10_meetOwnersOfTrial_22 : decode cX10_meetOwnersOfTrial 22 = .ok (.getfield 58, 3) := by decide +kernel
theorem dX10_meetOwnersOfTrial_25 : decode cX10_meetOwnersOfTrial 25 = .ok (.bipush 24, 2) := by decide +kernel
theorem dX10_meetOwnersOfTrial_27 : decode cX10_meetOwnersOfTrial 27 = .ok (.iload_n 1, 1) := by decide +kernel
theorem dX10_meetOwnersOfTrial_28 : decode cX10_meetOwnersOfTrial 28 = .ok (.iadd, 1) := by decide +kernel
theorem dX10_meetOwnersOfTrial_29 : decode cX10_meetOwnersOfTrial 29 = .ok (.iaload, 1) := by decide +kernel
theorem dX10_meetOwnersOfTrial_30 : decode cX10_meetOwnersOfTrial 30 = .ok (.iconst 1, 1) := by decide +kernel
theorem dX10_meetOwnersOfTrial_31 : decode cX10_meetOwnersOfTrial 31 = .ok (.iadd, 1) := by decide +kernel
theorem dX10_meetOwnersOfTrial_32 : decode cX10_meetOwnersOfTrial 32 = .ok (.ishl, 1) := by decide +kernel
theorem dX10_meetOwnersOfTrial_33 : decode cX10_meetOwnersOfTrial 33 = .ok (.ior, 1) := by decide +kernel
theorem dX10_meetOwnersOfTrial_34 : decode cX10_meetOwnersOfTrial 34 = .ok (.iastore, 1) := by decide +kernel
theorem dX10_meetOwnersOfTrial_35 : decode cX10_meetOwnersOfTrial 35 = .ok (.iinc 1 1, 3) := by decide +kernel
theorem dX10_meetOwnersOfTrial_38 : decode cX10_meetOwnersOfTrial 38 = .ok (.goto (-36), 3) := by decide +kernel
theorem dX10_meetOwnersOfTrial_41 : decode cX10_meetOwnersOfTrial 41 = .ok (.return_, 1) := by decide +kernel
theorem dX10_playCouple_0 : decode cX10_playCouple 0 = .ok (.aload_n 0, 1) := by decide +kernel
theorem dX10_playCouple_1 : decode cX10_playCouple 1 = .ok (.invokevirtual 270, 3) := by decide +kernel
theorem dX10_playCouple_4 : decode cX10_playCouple 4 = .ok (.aload_n 0, 1) := by decide +kernel
theorem dX10_playCouple_5 : decode cX10_playCouple 5 = .ok (.iload_n 1, 1) := by decide +kernel
theorem dX10_playCouple_6 : decode cX10_playCouple 6 = .ok (.iload_n 3, 1) := by decide +kernel
theorem dX10_playCouple_7 : decode cX10_playCouple 7 = .ok (.iconst 1, 1) := by decide +kernel
theorem dX10_playCouple_8 : decode cX10_playCouple 8 = .ok (.ishr, 1) := by decide +kernel
theorem dX10_playCouple_9 : decode cX10_playCouple 9 = .ok (.invokevirtual 305, 3) := by decide +kernel
theorem dX10_playCouple_12 : decode cX10_playCouple 12 = .ok (.aload_n 0, 1) := by decide +kernel
theorem dX10_playCouple_13 : decode cX10_playCouple 13 = .ok (.iload_n 2, 1) := by decide +kernel
theorem dX10_playCouple_14 : decode cX10_playCouple 14 = .ok (.iload_n 3, 1) := by decide +kernel
theorem dX10_playCouple_15 : decode cX10_playCouple 15 = .ok (.iconst 1, 1) := by decide +kernel
theorem dX10_playCouple_16 : decode cX10_playCouple 16 = .ok (.iand, 1) := by decide +kernel
theorem dX10_playCouple_17 : decode cX10_playCouple 17 = .ok (.invokevirtual 305, 3) := by decide +kernel
theorem dX10_playCouple_20 : decode cX10_playCouple 20 = .ok (.aload_n 0, 1) := by decide +kernel
theorem dX10_playCouple_21 : decode cX10_playCouple 21 = .ok (.getfield 24, 3) := by decide +kernel
theorem dX10_playCouple_24 : decode cX10_playCouple 24 = .ok (.aload_n 0, 1) := by decide +kernel
theorem dX10_playCouple_25 : decode cX10_playCouple 25 = .ok (.getfield 58, 3) := by decide +kernel
theorem dX10_playCouple_28 : decode cX10_playCouple 28 = .ok (.invokevirtual 293, 3) := by decide +kernel
theorem dX10_playCouple_31 : decode cX10_playCouple 31 = .ok (.aload_n 0, 1) := by decide +kernel
theorem dX10_playCouple_32 : decode cX10_playCouple 32 = .ok (.getfield 65, 3) := by decide +kernel
theorem dX10_playCouple_35 : decode cX10_playCouple 35 = .ok (.iload_n 3, 1) := by decide +kernel
theorem dX10_playCouple_36 : decode cX10_playCouple 36 = .ok (.aload_n 0, 1) := by decide +kernel
theorem dX10_playCouple_37 : decode cX10_playCouple 37 = .ok (.iload_n 1, 1) := by decide +kernel
theorem dX10_playCouple_38 : decode cX10_playCouple 38 = .ok (.iload_n 3, 1) := by decide +kernel
theorem dX10_playCouple_39 : decode cX10_playCouple 39 = .ok (.iconst 1, 1) := by decide +kernel
theorem dX10_playCouple_40 : decode cX10_playCouple 40 = .ok (.ishr, 1) := by decide +kernel
theorem dX10_playCouple_41 : decode cX10_playCouple 41 = .ok (.invokevirtual 308, 3) := by decide +kernel
theorem dX10_playCouple_44 : decode cX10_playCouple 44 = .ok (.iastore, 1) := by decide +kernel
theorem dX10_playCouple_45 : decode cX10_playCouple 45 = .ok (.aload_n 0, 1) := by decide +kernel
theorem dX10_playCouple_46 : decode cX10_playCouple 46 = .ok (.getfield 65, 3) := by decide +kernel
theorem dX10_playCouple_49 : decode cX10_playCouple 49 = .ok (.iconst 4, 1) := by decide +kernel
theorem dX10_playCouple_50 : decode cX10_playCouple 50 = .ok (.iload_n 3, 1) := by decide +kernel
theorem dX10_playCouple_51 : decode cX10_playCouple 51 = .ok (.iadd, 1) := by decide +kernel
theorem dX10_playCouple_52 : decode cX10_playCouple 52 = .ok (.aload_n 0, 1) := by decide +kernel
theorem dX10_playCouple_53 : decode cX10_playCouple 53 = .ok (.iload_n 2, 1) := by decide +kernel
theorem dX10_playCouple_54 : decode cX10_playCouple 54 = .ok (.iload_n 3, 1) := by decide +kernel
theorem dX10_playCouple_55 : decode cX10_playCouple 55 = .ok (.iconst 1, 1) := by decide +kernel
theorem dX10_playCouple_56 : decode cX10_playCouple 56 = .ok (.iand, 1) := by decide +kernel
theorem dX10_playCouple_57 : decode cX10_playCouple 57 = .ok (.invokevirtual 308, 3) := by decide +kernel
theorem dX10_playCouple_60 : decode cX10_playCouple 60 = .ok (.iastore, 1) := by decide +kernel
theorem dX10_playCouple_61 : decode cX10_playCouple 61 = .ok (.return_, 1) := by decide +kernel
theorem dX10_choose_0 : decode cX10_choose 0 = .ok (.iload_n 2, 1) := by decide +kernel
theorem dX10_choose_1 : decode cX10_choose 1 = .ok (.ifCond .ne 31, 3) := by decide +kernel
theorem dX10_choose_4 : decode cX10_choose 4 = .ok (.aload_n 0, 1) := by decide +kernel
theorem dX10_choose_5 : decode cX10_choose 5 = .ok (.getfield 58, 3) := by decide +kernel
theorem dX10_choose_8 : decode cX10_choose 8 = .ok (.bipush 40, 2) := by decide +kernel
theorem dX10_choose_10 : decode cX10_choose 10 = .ok (.iload_n 1, 1) := by decide +kernel
theorem dX10_choose_11 : decode cX10_choose 11 = .ok (.iadd, 1) := by decide +kernel
theorem dX10_choose_12 : decode cX10_choose 12 = .ok (.bipush 20, 2) := by decide +kernel
theorem dX10_choose_14 : decode cX10_choose 14 = .ok (.aload_n 0, 1) := by decide +kernel
theorem dX10_choose_15 : decode cX10_choose 15 = .ok (.getfield 58, 3) := by decide +kernel
theorem dX10_choose_18 : decode cX10_choose 18 = .ok (.bipush 40, 2) := by decide +kernel
theorem dX10_choose_20 : decode cX10_choose 20 = .ok (.iload_n 1, 1) := by decide +kernel
theorem dX10_choose_21 : decode cX10_choose 21 = .ok (.iadd, 1) := by decide +kernel
theorem dX10_choose_22 : decode cX10_choose 22 = .ok (.iaload, 1) := by decide +kernel
theorem dX10_choose_23 : decode cX10_choose 23 = .ok (.iconst 3, 1) := by decide +kernel
theorem dX10_choose_24 : decode cX10_choose 24 = .ok (.iadd, 1) := by decide +kernel
theorem dX10_choose_25 : decode cX10_choose 25 = .ok (.invokestatic 194, 3) := by decide +kernel
theorem dX10_choose_28 : decode cX10_choose 28 = .ok (.iastore, 1) := by decide +kernel
theorem dX10_choose_29 : decode cX10_choose 29 = .ok (.goto 27, 3) := by decide +kernel
theorem dX10_choose_32 : decode cX10_choose 32 = .ok (.aload_n 0, 1) := by decide +kernel
theorem dX10_choose_33 : decode cX10_choose 33 = .ok (.getfield 58, 3) := by decide +kernel
theorem dX10_choose_36 : decode cX10_choose 36 = .ok (.bipush 47, 2) := by decide +kernel
theorem dX10_choose_38 : decode cX10_choose 38 = .ok (.iload_n 1, 1) := by decide +kernel
theorem dX10_choose_39 : decode cX10_choose 39 = .ok (.iadd, 1) := by decide +kernel
theorem dX10_choose_40 : decode cX10_choose 40 = .ok (.iconst 0, 1) := by decide +kernel
theorem dX10_choose_41 : decode cX10_choose 41 = .ok (.aload_n 0, 1) := by decide +kernel
theorem dX10_choose_42 : decode cX10_choose 42 = .ok (.getfield 58, 3) := by decide +kernel
theorem dX10_choose_45 : decode cX10_choose 45 = .ok (.bipush 47, 2) := by decide +kernel
theorem dX10_choose_47 : decode cX10_choose 47 = .ok (.iload_n 1, 1) := by decide +kernel
theorem dX10_choose_48 : decode cX10_choose 48 = .ok (.iadd, 1) := by decide +kernel
theorem dX10_choose_49 : decode cX10_choose 49 = .ok (.iaload, 1) := by decide +kernel
theorem dX10_choose_50 : decode cX10_choose 50 = .ok (.iconst 1, 1) := by decide +kernel
theorem dX10_choose_51 : decode cX10_choose 51 = .ok (.isub, 1) := by decide +kernel
theorem dX10_choose_52 : decode cX10_choose 52 = .ok (.invokestatic 311, 3) := by decide +kernel
theorem dX10_choose_55 : decode cX10_choose 55 = .ok (.iastore, 1) := by decide +kernel
theorem dX10_choose_56 : decode cX10_choose 56 = .ok (.return_, 1) := by decide +kernel
theorem dX10_gainOf_0 : decode cX10_gainOf 0 = .ok (.aload_n 0, 1) := by decide +kernel
theorem dX10_gainOf_1 : decode cX10_gainOf 1 = .ok (.getfield 24, 3) := by decide +kernel
theorem dX10_gainOf_4 : decode cX10_gainOf 4 = .ok (.aload_n 0, 1) := by decide +kernel
theorem dX10_gainOf_5 : decode cX10_gainOf 5 = .ok (.getfield 58, 3) := by decide +kernel
theorem dX10_gainOf_8 : decode cX10_gainOf 8 = .ok (.iload_n 1, 1) := by decide +kernel
theorem dX10_gainOf_9 : decode cX10_gainOf 9 = .ok (.invokevirtual 314, 3) := by decide +kernel
theorem dX10_gainOf_12 : decode cX10_gainOf 12 = .ok (.istore_n 3, 1) := by decide +kernel
theorem dX10_gainOf_13 : decode cX10_gainOf 13 = .ok (.iload_n 2, 1) := by decide +kernel
theorem dX10_gainOf_14 : decode cX10_gainOf 14 = .ok (.ifCond .ne 10, 3) := by decide +kernel
theorem dX10_gainOf_17 : decode cX10_gainOf 17 = .ok (.iload_n 3, 1) := by decide +kernel
theorem dX10_gainOf_18 : decode cX10_gainOf 18 = .ok (.bipush 6, 2) := by decide +kernel
theorem dX10_gainOf_20 : decode cX10_gainOf 20 = .ok (.isub, 1) := by decide +kernel
theorem dX10_gainOf_21 : decode cX10_gainOf 21 = .ok (.goto 4, 3) := by decide +kernel
theorem dX10_gainOf_24 : decode cX10_gainOf 24 = .ok (.iload_n 3, 1) := by decide +kernel
theorem dX10_gainOf_25 : decode cX10_gainOf 25 = .ok (.ireturn, 1) := by decide +kernel
theorem dX11_init_0 : decode cX11_init 0 = .ok (.aload_n 0, 1) := by decide +kernel
theorem dX11_init_1 : decode cX11_init 1 = .ok (.invokespecial 3, 3) := by decide +kernel
theorem dX11_init_4 : decode cX11_init 4 = .ok (.aload_n 0, 1) := by decide +kernel
theorem dX11_init_5 : decode cX11_init 5 = .ok (.iconst 2, 1) := by decide +kernel
theorem dX11_init_6 : decode cX11_init 6 = .ok (.anewarray 9, 3) := by decide +kernel
theorem dX11_init_9 : decode cX11_init 9 = .ok (.dup, 1) := by decide +kernel
theorem dX11_init_10 : decode cX11_init 10 = .ok (.iconst 0, 1) := by decide +kernel
theorem dX11_init_11 : decode cX11_init 11 = .ok (.ldc 11, 2) := by decide +kernel
theorem dX11_init_13 : decode cX11_init 13 = .ok (.aastore, 1) := by decide +kernel
theorem dX11_init_14 : decode cX11_init 14 = .ok (.dup, 1) := by decide +kernel
theorem dX11_init_15 : decode cX11_init 15 = .ok (.iconst 1, 1) := by decide +kernel
theorem dX11_init_16 : decode cX11_init 16 = .ok (.ldc 13, 2) := by decide +kernel
theorem dX11_init_18 : decode cX11_init 18 = .ok (.aastore, 1) := by decide +kernel
theorem dX11_init_19 : decode cX11_init 19 = .ok (.putfield 15, 3) := by decide +kernel
theorem dX11_init_22 : decode cX11_init 22 = .ok (.aload_n 0, 1) := by decide +kernel
theorem dX11_init_23 : decode cX11_init 23 = .ok (.iconst 2, 1) := by decide +kernel
theorem dX11_init_24 : decode cX11_init 24 = .ok (.anewarray 9, 3) := by decide +kernel
theorem dX11_init_27 : decode cX11_init 27 = .ok (.dup, 1) := by decide +kernel
theorem dX11_init_28 : decode cX11_init 28 = .ok (.iconst 0, 1) := by decide +kernel
theorem dX11_init_29 : decode cX11_init 29 = .ok (.ldc 19, 2) := by decide +kernel
theorem dX11_init_31 : decode cX11_init 31 = .ok (.aastore, 1) := by decide +kernel
theorem dX11_init_32 : decode cX11_init 32 = .ok (.dup, 1) := by decide +kernel
theorem dX11_init_33 : decode cX11_init 33 = .ok (.iconst 1, 1) := by decide +kernel
theorem dX11_init_34 : decode cX11_init 34 = .ok (.ldc 21, 2) := by decide +kernel
theorem dX11_init_36 : decode cX11_init 36 = .ok (.aastore, 1) := by decide +kernel
theorem dX11_init_37 : decode cX11_init 37 = .ok (.putfield 23, 3) := by decide +kernel
theorem dX11_init_40 : decode cX11_init 40 = .ok (.aload_n 0, 1) := by decide +kernel
theorem dX11_init_41 : decode cX11_init 41 = .ok (.bipush 10, 2) := by decide +kernel
theorem dX11_init_43 : decode cX11_init 43 = .ok (.anewarray 9, 3) := by decide +kernel
theorem dX11_init_46 : decode cX11_init 46 = .ok (.dup, 1) := by decide +kernel
theorem dX11_init_47 : decode cX11_init 47 = .ok (.iconst 0, 1) := by decide +kernel
theorem dX11_init_48 : decode cX11_init 48 = .ok (.ldc 26, 2) := by decide +kernel
theorem dX11_init_50 : decode cX11_init 50 = .ok (.aastore, 1) := by decide +kernel
theorem dX11_init_51 : decode cX11_init 51 = .ok (.dup, 1) := by decide +kernel
theorem dX11_init_52 : decode cX11_init 52 = .ok (.iconst 1, 1) := by decide +kernel
theorem dX11_init_53 : decode cX11_init 53 = .ok (.ldc 28, 2) := by decide +kernel
theorem dX11_init_55 : decode cX11_init 55 = .ok (.aastore, 1) := by decide +kernel
theorem dX11_init_56 : decode cX11_init 56 = .ok (.dup, 1) := by decide +kernel
theorem dX11_init_57 : decode cX11_init 57 = .ok (.iconst 2, 1) := by decide +kernel
theorem dX11_init_58 : decode cX11_init 58 = .ok (.ldc 30, 2) := by decide +kernel
theorem dX11_init_60 : decode cX11_init 60 = .ok (.aastore, 1) := by decide +kernel
theorem dX11_init_61 : decode cX11_init 61 = .ok (.dup, 1) := by decide +kernel
theorem dX11_init_62 : decode cX11_init 62 = .ok (.iconst 3, 1) := by decide +kernel
theorem dX11_init_63 : decode cX11_init 63 = .ok (.ldc 32, 2) := by decide +kernel
theorem dX11_init_65 : decode cX11_init 65 = .ok (.aastore, 1) := by decide +kernel
theorem dX11_init_66 : decode cX11_init 66 = .ok (.dup, 1) := by decide +kernel
theorem dX11_init_67 : decode cX11_init 67 = .ok (.iconst 4, 1) := by decide +kernel
theorem dX11_init_68 : decode cX11_init 68 = .ok (.ldc 34, 2) := by decide +kernel
theorem dX11_init_70 : decode cX11_init 70 = .ok (.aastore, 1) := by decide +kernel
theorem dX11_init_71 : decode cX11_init 71 = .ok (.dup, 1) := by decide +kernel
theorem dX11_init_72 : decode cX11_init 72 = .ok (.iconst 5, 1) := by decide +kernel
theorem dX11_init_73 : decode cX11_init 73 = .ok (.ldc 36, 2) := by decide +kernel
theorem dX11_init_75 : decode cX11_init 75 = .ok (.aastore, 1) := by decide +kernel
theorem dX11_init_76 : decode cX11_init 76 = .ok (.dup, 1) := by decide +kernel
theorem dX11_init_77 : decode cX11_init 77 = .ok (.bipush 6, 2) := by decide +kernel
theorem dX11_init_79 : decode cX11_init 79 = .ok (.ldc 38, 2) := by decide +kernel
theorem dX11_init_81 : decode cX11_init 81 = .ok (.aastore, 1) := by decide +kernel
theorem dX11_init_82 : decode cX11_init 82 = .ok (.dup, 1) := by decide +kernel
theorem dX11_init_83 : decode cX11_init 83 = .ok (.bipush 7, 2) := by decide +kernel
theorem dX11_init_85 : decode cX11_init 85 = .ok (.ldc 40, 2) := by decide +kernel
theorem dX11_init_87 : decode cX11_init 87 = .ok (.aastore, 1) := by decide +kernel
theorem dX11_init_88 : decode cX11_init 88 = .ok (.dup, 1) := by decide +kernel
theorem dX11_init_89 : decode cX11_init 89 = .ok (.bipush 8, 2) := by decide +kernel
theorem dX11_init_91 : decode cX11_init 91 = .ok (.ldc 42, 2) := by decide +kernel
theorem dX11_init_93 : decode cX11_init 93 = .ok (.aastore, 1) := by decide +kernel
theorem dX11_init_94 : decode cX11_init 94 = .ok (.dup, 1) := by decide +kernel
theorem dX11_init_95 : decode cX11_init 95 = .ok (.bipush 9, 2) := by decide +kernel
theorem dX11_init_97 : decode cX11_init 97 = .ok (.ldc 44, 2) := by decide +kernel
theorem dX11_init_99 : decode cX11_init 99 = .ok (.aastore, 1) := by decide +kernel
theorem dX11_init_100 : decode cX11_init 100 = .ok (.putfield 46, 3) := by decide +kernel
theorem dX11_init_103 : decode cX11_init 103 = .ok (.aload_n 0, 1) := by decide +kernel
theorem dX11_init_104 : decode cX11_init 104 = .ok (.iconst 4, 1) := by decide +kernel
theorem dX11_init_105 : decode cX11_init 105 = .ok (.anewarray 9, 3) := by decide +kernel
theorem dX11_init_108 : decode cX11_init 108 = .ok (.dup, 1) := by decide +kernel
theorem dX11_init_109 : decode cX11_init 109 = .ok (.iconst 0, 1) := by decide +kernel
theorem dX11_init_110 : decode cX11_init 110 = .ok (.ldc 26, 2) := by decide +kernel
theorem dX11_init_112 : decode cX11_init 112 = .ok (.aastore, 1) := by decide +kernel
theorem dX11_init_113 : decode cX11_init 113 = .ok (.dup, 1) := by decide +kernel
theorem dX11_init_114 : decode cX11_init 114 = .ok (.iconst 1, 1) := by decide +kernel
theorem dX11_init_115 : decode cX11_init 115 = .ok (.ldc 28, 2) := by decide +kernel
theorem dX11_init_117 : decode cX11_init 117 = .ok (.aastore, 1) := by decide +kernel
theorem dX11_init_118 : decode cX11_init 118 = .ok (.dup, 1) := by decide +kernel
theorem dX11_init_119 : decode cX11_init 119 = .ok (.iconst 2, 1) := by decide +kernel
theorem dX11_init_120 : decode cX11_init 120 = .ok (.ldc 30, 2) := by decide +kernel
theorem dX11_init_122 : decode cX11_init 122 = .ok (.aastore, 1) := by decide +kernel
theorem dX11_init_123 : decode cX11_init 123 = .ok (.dup, 1) := by decide +kernel
theorem dX11_init_124 : decode cX11_init 124 = .ok (.iconst 3, 1) := by decide +kernel
theorem dX11_init_125 : decode cX11_init 125 = .ok (.ldc 32, 2) := by decide +kernel
theorem dX11_init_127 : decode cX11_init 127 = .ok (.aastore, 1) := by decide +kernel
theorem dX11_init_128 : decode cX11_init 128 = .ok (.putfield 49, 3) := by decide +kernel
theorem dX11_init_131 : decode cX11_init 131 = .ok (.aload_n 0, 1) := by decide +kernel
theorem dX11_init_132 : decode cX11_init 132 = .ok (.aload_n 0, 1) := by decide +kernel
theorem dX11_init_133 : decode cX11_init 133 = .ok (.getfield 46, 3) := by decide +kernel
theorem dX11_init_136 : decode cX11_init 136 = .ok (.putfield 52, 3) := by decide +kernel
theorem dX11_init_139 : decode cX11_init 139 = .ok (.aload_n 0, 1) := by decide +kernel
theorem dX11_init_140 : decode cX11_init 140 = .ok (.bipush 10, 2) := by decide +kernel
theorem dX11_init_142 : decode cX11_init 142 = .ok (.newarray .int, 2) := by decide +kernel
theorem dX11_init_144 : decode cX11_init 144 = .ok (.putfield 55, 3) := by decide +kernel
theorem dX11_init_147 : decode cX11_init 147 = .ok (.aload_n 0, 1) := by decide +kernel
theorem dX11_init_148 : decode cX11_init 148 = .ok (.bipush 16, 2) := by decide +kernel
theorem dX11_init_150 : decode cX11_init 150 = .ok (.newarray .int, 2) := by decide +kernel
theorem dX11_init_152 : decode cX11_init 152 = .ok (.putfield 59, 3) := by decide +kernel
theorem dX11_init_155 : decode cX11_init 155 = .ok (.aload_n 0, 1) := by decide +kernel
theorem dX11_init_156 : decode cX11_init 156 = .ok (.bipush 16, 2) := by decide +kernel
theorem dX11_init_158 : decode cX11_init 158 = .ok (.newarray .int, 2) := by decide +kernel
theorem dX11_init_160 : decode cX11_init 160 = .ok (.putfield 61, 3) := by decide +kernel
theorem dX11_init_163 : decode cX11_init 163 = .ok (.aload_n 0, 1) := by decide +kernel
theorem dX11_init_164 : decode cX11_init 164 = .ok (.bipush 16, 2) := by decide +kernel
theorem dX11_init_166 : decode cX11_init 166 = .ok (.newarray .int, 2) := by decide +kernel
theorem dX11_init_168 : decode cX11_init 168 = .ok (.putfield 63, 3) := by decide +kernel
theorem dX11_init_171 : decode cX11_init 171 = .ok (.aload_n 0, 1) := by decide +kernel
theorem dX11_init_172 : decode cX11_init 172 = .ok (.bipush 16, 2) := by decide +kernel
theorem dX11_init_174 : decode cX11_init 174 = .ok (.newarray .int, 2) := by decide +kernel
theorem dX11_init_176 : decode cX11_init 176 = .ok (.putfield 66, 3) := by decide +kernel
theorem dX11_init_179 : decode cX11_init 179 = .ok (.aload_n 0, 1) := by decide +kernel
theorem dX11_init_180 : decode cX11_init 180 = .ok (.bipush 16, 2) := by decide +kernel
theorem dX11_init_182 : decode cX11_init 182 = .ok (.newarray .int, 2) := by decide +kernel
theorem dX11_init_184 : decode cX11_init 184 = .ok (.putfield 69, 3) := by decide +kernel
theorem dX11_init_187 : decode cX11_init 187 = .ok (.aload_n 0, 1) := by decide +kernel
theorem dX11_init_188 : decode cX11_init 188 = .ok (.bipush 14, 2) := by decide +kernel
theorem dX11_init_190 : decode cX11_init 190 = .ok (.newarray .int, 2) := by decide +kernel
theorem dX11_init_192 : decode cX11_init 192 = .ok (.putfield 72, 3) := by decide +kernel
theorem dX11_init_195 : decode cX11_init 195 = .ok (.aload_n 0, 1) := by decide +kernel
theorem dX11_init_196 : decode cX11_init 196 = .ok (.bipush 14, 2) := by decide +kernel
theorem dX11_init_198 : decode cX11_init 198 = .ok (.newarray .int, 2) := by decide +kernel
theorem dX11_init_200 : decode cX11_init 200 = .ok (.putfield 74, 3) := by decide +kernel
theorem dX11_init_203 : decode cX11_init 203 = .ok (.aload_n 0, 1) := by decide +kernel
theorem dX11_init_204 : decode cX11_init 204 = .ok (.bipush 14, 2) := by decide +kernel
theorem dX11_init_206 : decode cX11_init 206 = .ok (.newarray .int, 2) := by decide +kernel
theorem dX11_init_208 : decode cX11_init 208 = .ok (.putfield 77, 3) := by decide +kernel
theorem dX11_init_211 : decode cX11_init 211 = .ok (.aload_n 0, 1) := by decide +kernel
theorem dX11_init_212 : decode cX11_init 212 = .ok (.bipush 14, 2) := by decide +kernel
theorem dX11_init_214 : decode cX11_init 214 = .ok (.newarray .int, 2) := by decide +kernel
theorem dX11_init_216 : decode cX11_init 216 = .ok (.putfield 80, 3) := by decide +kernel
theorem dX11_init_219 : decode cX11_init 219 = .ok (.aload_n 0, 1) := by decide +kernel
theorem dX11_init_220 : decode cX11_init 220 = .ok (.bipush 14, 2) := by decide +kernel
theorem dX11_init_222 : decode cX11_init 222 = .ok (.newarray .int, 2) := by decide +kernel
theorem dX11_init_224 : decode cX11_init 224 = .ok (.putfield 83, 3) := by decide +kernel
theorem dX11_init_227 : decode cX11_init 227 = .ok (.aload_n 0, 1) := by decide +kernel
theorem dX11_init_228 : decode cX11_init 228 = .ok (.sipush 1400, 3) := by decide +kernel
theorem dX11_init_231 : decode cX11_init 231 = .ok (.newarray .int, 2) := by decide +kernel
theorem dX11_init_233 : decode cX11_init 233 = .ok (.putfield 86, 3) := by decide +kernel
theorem dX11_init_236 : decode cX11_init 236 = .ok (.aload_n 0, 1) := by decide +kernel
theorem dX11_init_237 : decode cX11_init 237 = .ok (.sipush 1400, 3) := by decide +kernel
theorem dX11_init_240 : decode cX11_init 240 = .ok (.newarray .int, 2) := by decide +kernel
theorem dX11_init_242 : decode cX11_init 242 = .ok (.putfield 89, 3) := by decide +kernel
theorem dX11_init_245 : decode cX11_init 245 = .ok (.aload_n 0, 1) := by decide +kernel
theorem dX11_init_246 : decode cX11_init 246 = .ok (.iconst 3, 1) := by decide +kernel
theorem dX11_init_247 : decode cX11_init 247 = .ok (.newarray .int, 2) := by decide +kernel
theorem dX11_init_249 : decode cX11_init 249 = .ok (.putfield 92, 3) := by decide +kernel
theorem dX11_init_252 : decode cX11_init 252 = .ok (.aload_n 0, 1) := by decide +kernel
theorem dX11_init_253 : decode cX11_init 253 = .ok (.sipush 700, 3) := by decide +kernel
theorem dX11_init_256 : decode cX11_init 256 = .ok (.newarray .int, 2) := by decide +kernel
theorem dX11_init_258 : decode cX11_init 258 = .ok (.putfield 95, 3) := by decide +kernel
theorem dX11_init_261 : decode cX11_init 261 = .ok (.aload_n 0, 1) := by decide +kernel
theorem dX11_init_262 : decode cX11_init 262 = .ok (.iconst (-1), 1) := by decide +kernel
theorem dX11_init_263 : decode cX11_init 263 = .ok (.putfield 98, 3) := by decide +kernel
theorem dX11_init_266 : decode cX11_init 266 = .ok (.aload_n 0, 1) := by decide +kernel
theorem dX11_init_267 : decode cX11_init 267 = .ok (.bipush 8, 2) := by decide +kernel
theorem dX11_init_269 : decode cX11_init 269 = .ok (.newarray .int, 2) := by decide +kernel
theorem dX11_init_271 : decode cX11_init 271 = .ok (.putfield 102, 3) := by decide +kernel
theorem dX11_init_274 : decode cX11_init 274 = .ok (.aload_n 0, 1) := by decide +kernel
theorem dX11_init_275 : decode cX11_init 275 = .ok (.bipush 8, 2) := by decide +kernel
theorem dX11_init_277 : decode cX11_init 277 = .ok (.newarray .int, 2) := by decide +kernel
theorem dX11_init_279 : decode cX11_init 279 = .ok (.putfield 104, 3) := by decide +kernel
theorem dX11_init_282 : decode cX11_init 282 = .ok (.aload_n 0, 1) := by decide +kernel
theorem dX11_init_283 : decode cX11_init 283 = .ok (.bipush 8, 2) := by decide +kernel
theorem dX11_init_285 : decode cX11_init 285 = .ok (.newarray .int, 2) := by decide +kernel
theorem dX11_init_287 : decode cX11_init 287 = .ok (.putfield 107, 3) := by decide +kernel
theorem dX11_init_290 : decode cX11_init 290 = .ok (.aload_n 0, 1) := by decide +kernel
theorem dX11_init_291 : decode cX11_init 291 = .ok (.bipush 8, 2) := by decide +kernel
theorem dX11_init_293 : decode cX11_init 293 = .ok (.newarray .int, 2) := by decide +kernel
theorem dX11_init_295 : decode cX11_init 295 = .ok (.putfield 110, 3) := by decide +kernel
theorem dX11_init_298 : decode cX11_init 298 = .ok (.aload_n 0, 1) := by decide +kernel
theorem dX11_init_299 : decode cX11_init 299 = .ok (.bipush 8, 2) := by decide +kernel
theorem dX11_init_301 : decode cX11_init 301 = .ok (.newarray .int, 2) := by decide +kernel
theorem dX11_init_303 : decode cX11_init 303 = .ok (.putfield 113, 3) := by decide +kernel
theorem dX11_init_306 : decode cX11_init 306 = .ok (.aload_n 0, 1) := by decide +kernel
theorem dX11_init_307 : decode cX11_init 307 = .ok (.bipush 7, 2) := by decide +kernel
theorem dX11_init_309 : decode cX11_init 309 = .ok (.newarray .int, 2) := by decide +kernel
theorem dX11_init_311 : decode cX11_init 311 = .ok (.putfield 115, 3) := by decide +kernel
theorem dX11_init_314 : decode cX11_init 314 = .ok (.aload_n 0, 1) := by decide +kernel
theorem dX11_init_315 : decode cX11_init 315 = .ok (.bipush 7, 2) := by decide +kernel
theorem dX11_init_317 : decode cX11_init 317 = .ok (.newarray .int, 2) := by decide +kernel
theorem dX11_init_319 : decode cX11_init 319 = .ok (.putfield 117, 3) := by decide +kernel
theorem dX11_init_322 : decode cX11_init 322 = .ok (.aload_n 0, 1) := by decide +kernel
theorem dX11_init_323 : decode cX11_init 323 = .ok (.bipush 7, 2) := by decide +kernel
theorem dX11_init_325 : decode cX11_init 325 = .ok (.newarray .int, 2) := by decide +kernel
theorem dX11_init_327 : decode cX11_init 327 = .ok (.putfield 120, 3) := by decide +kernel
theorem dX11_init_330 : decode cX11_init 330 = .ok (.aload_n 0, 1) := by decide +kernel
theorem dX11_init_331 : decode cX11_init 331 = .ok (.sipush 2560, 3) := by decide +kernel
theorem dX11_init_334 : decode cX11_init 334 = .ok (.newarray .int, 2) := by decide +kernel
theorem dX11_init_336 : decode cX11_init 336 = .ok (.putfield 122, 3) := by decide +kernel
theorem dX11_init_339 : decode cX11_init 339 = .ok (.aload_n 0, 1) := by decide +kernel
theorem dX11_init_340 : decode cX11_init 340 = .ok (.bipush 10, 2) := by decide +kernel
theorem dX11_init_342 : decode cX11_init 342 = .ok (.newarray .int, 2) := by decide +kernel
theorem dX11_init_344 : decode cX11_init 344 = .ok (.putfield 125, 3) := by decide +kernel
theorem dX11_init_347 : decode cX11_init 347 = .ok (.aload_n 0, 1) := by decide +kernel
theorem dX11_init_348 : decode cX11_init 348 = .ok (.bipush 64, 2) := by decide +kernel
theorem dX11_init_350 : decode cX11_init 350 = .ok (.newarray .int, 2) := by decide +kernel
theorem dX11_init_352 : decode cX11_init 352 = .ok (.putfield 128, 3) := by decide +kernel
theorem dX11_init_355 : decode cX11_init 355 = .ok (.aload_n 0, 1) := by decide +kernel
theorem dX11_init_356 : decode cX11_init 356 = .ok (.bipush 8, 2) := by decide +kernel
theorem dX11_init_358 : decode cX11_init 358 = .ok (.newarray .int, 2) := by decide +kernel
theorem dX11_init_360 : decode cX11_init 360 = .ok (.putfield 131, 3) := by decide +kernel
theorem dX11_init_363 : decode cX11_init 363 = .ok (.aload_n 0, 1) := by decide +kernel
theorem dX11_init_364 : decode cX11_init 364 = .ok (.bipush 8, 2) := by decide +kernel
theorem dX11_init_366 : decode cX11_init 366 = .ok (.newarray .int, 2) := by decide +kernel
theorem dX11_init_368 : decode cX11_init 368 = .ok (.putfield 134, 3) := by decide +kernel
theorem dX11_init_371 : decode cX11_init 371 = .ok (.aload_n 0, 1) := by decide +kernel
theorem dX11_init_372 : decode cX11_init 372 = .ok (.bipush 7, 2) := by decide +kernel
theorem dX11_init_374 : decode cX11_init 374 = .ok (.newarray .int, 2) := by decide +kernel
theorem dX11_init_376 : decode cX11_init 376 = .ok (.putfield 137, 3) := by decide +kernel
theorem dX11_init_379 : decode cX11_init 379 = .ok (.aload_n 0, 1) := by decide +kernel
theorem dX11_init_380 : decode cX11_init 380 = .ok (.bipush 64, 2) := by decide +kernel
theorem dX11_init_382 : decode cX11_init 382 = .ok (.newarray .int, 2) := by decide +kernel
theorem dX11_init_384 : decode cX11_init 384 = .ok (.putfield 140, 3) := by decide +kernel
theorem dX11_init_387 : decode cX11_init 387 = .ok (.aload_n 0, 1) := by decide +kernel
theorem dX11_init_388 : decode cX11_init 388 = .ok (.sipush 2048, 3) := by decide +kernel
theorem dX11_init_391 : decode cX11_init 391 = .ok (.newarray .int, 2) := by decide +kernel
theorem dX11_init_393 : decode cX11_init 393 = .ok (.putfield 143, 3) := by decide +kernel
theorem dX11_init_396 : decode cX11_init 396 = .ok (.aload_n 0, 1) := by decide +kernel
theorem dX11_init_397 : decode cX11_init 397 = .ok (.sipush 1792, 3) := by decide +kernel
theorem dX11_init_400 : decode cX11_init 400 = .ok (.newarray .int, 2) := by decide +kernel
theorem dX11_init_402 : decode cX11_init 402 = .ok (.putfield 146, 3) := by decide +kernel
theorem dX11_init_405 : decode cX11_init 405 = .ok (.aload_n 0, 1) := by decide +kernel
theorem dX11_init_406 : decode cX11_init 406 = .ok (.bipush 8, 2) := by decide +kernel
theorem dX11_init_408 : decode cX11_init 408 = .ok (.newarray .int, 2) := by decide +kernel
theorem dX11_init_410 : decode cX11_init 410 = .ok (.putfield 149, 3) := by decide +kernel
theorem dX11_init_413 : decode cX11_init 413 = .ok (.aload_n 0, 1) := by decide +kernel
theorem dX11_init_414 : decode cX11_init 414 = .ok (.bipush 8, 2) := by decide +kernel
theorem dX11_init_416 : decode cX11_init 416 = .ok (.newarray .int, 2) := by decide +kernel
theorem dX11_init_418 : decode cX11_init 418 = .ok (.putfield 152, 3) := by decide +kernel
theorem dX11_init_421 : decode cX11_init 421 = .ok (.aload_n 0, 1) := by decide +kernel
theorem dX11_init_422 : decode cX11_init 422 = .ok (.bipush 8, 2) := by decide +kernel
theorem dX11_init_424 : decode cX11_init 424 = .ok (.newarray .int, 2) := by decide +kernel
theorem dX11_init_426 : decode cX11_init 426 = .ok (.putfield 155, 3) := by decide +kernel
theorem dX11_init_429 : decode cX11_init 429 = .ok (.aload_n 0, 1) := by decide +kernel
theorem dX11_init_430 : decode cX11_init 430 = .ok (.bipush 64, 2) := by decide +kernel
theorem dX11_init_432 : decode cX11_init 432 = .ok (.newarray .int, 2) := by decide +kernel
theorem dX11_init_434 : decode cX11_init 434 = .ok (.putfield 158, 3) := by decide +kernel
theorem dX11_init_437 : decode cX11_init 437 = .ok (.aload_n 0, 1) := by decide +kernel
theorem dX11_init_438 : decode cX11_init 438 = .ok (.bipush 8, 2) := by decide +kernel
theorem dX11_init_440 : decode cX11_init 440 = .ok (.newarray .boolean, 2) := by decide +kernel
theorem dX11_init_442 : decode cX11_init 442 = .ok (.putfield 161, 3) := by decide +kernel
theorem dX11_init_445 : decode cX11_init 445 = .ok (.aload_n 0, 1) := by decide +kernel
theorem dX11_init_446 : decode cX11_init 446 = .ok (.sipush 147, 3) := by decide +kernel
theorem dX11_init_449 : decode cX11_init 449 = .ok (.newarray .int, 2) := by decide +kernel
theorem dX11_init_451 : decode cX11_init 451 = .ok (.putfield 165, 3) := by decide +kernel
theorem dX11_init_454 : decode cX11_init 454 = .ok (.aload_n 0, 1) := by decide +kernel
theorem dX11_init_455 : decode cX11_init 455 = .ok (.sipush 1176, 3) := by decide +kernel
theorem dX11_init_458 : decode cX11_init 458 = .ok (.newarray .int, 2) := by decide +kernel
theorem dX11_init_460 : decode cX11_init 460 = .ok (.putfield 168, 3) := by decide +kernel
theorem dX11_init_463 : decode cX11_init 463 = .ok (.aload_n 0, 1) := by decide +kernel
theorem dX11_init_464 : decode cX11_init 464 = .ok (.bipush 8, 2) := by decide +kernel
theorem dX11_init_466 : decode cX11_init 466 = .ok (.newarray .int, 2) := by decide +kernel
theorem dX11_init_468 : decode cX11_init 468 = .ok (.putfield 171, 3) := by decide +kernel
theorem dX11_init_471 : decode cX11_init 471 = .ok (.aload_n 0, 1) := by decide +kernel
theorem dX11_init_472 : decode cX11_init 472 = .ok (.bipush 64, 2) := by decide +kernel
theorem dX11_init_474 : decode cX11_init 474 = .ok (.newarray .int, 2) := by decide +kernel
theorem dX11_init_476 : decode cX11_init 476 = .ok (.putfield 174, 3) := by decide +kernel
theorem dX11_init_479 : decode cX11_init 479 = .ok (.aload_n 0, 1) := by decide +kernel
theorem dX11_init_480 : decode cX11_init 480 = .ok (.sipush 2560, 3) := by decide +kernel
theorem dX11_init_483 : decode cX11_init 483 = .ok (.newarray .int, 2) := by decide +kernel
theorem dX11_init_485 : decode cX11_init 485 = .ok (.putfield 177, 3) := by decide +kernel
theorem dX11_init_488 : decode cX11_init 488 = .ok (.aload_n 0, 1) := by decide +kernel
theorem dX11_init_489 : decode cX11_init 489 = .ok (.bipush 8, 2) := by decide +kernel
theorem dX11_init_491 : decode cX11_init 491 = .ok (.newarray .int, 2) := by decide +kernel
theorem dX11_init_493 : decode cX11_init 493 = .ok (.putfield 180, 3) := by decide +kernel
theorem dX11_init_496 : decode cX11_init 496 = .ok (.aload_n 0, 1) := by decide +kernel
theorem dX11_init_497 : decode cX11_init 497 = .ok (.bipush 8, 2) := by decide +kernel
theorem dX11_init_499 : decode cX11_init 499 = .ok (.newarray .int, 2) := by decide +kernel
theorem dX11_init_501 : decode cX11_init 501 = .ok (.putfield 183, 3) := by decide +kernel
theorem dX11_init_504 : decode cX11_init 504 = .ok (.aload_n 0, 1) := by decide +kernel
theorem dX11_init_505 : decode cX11_init 505 = .ok (.bipush 8, 2) := by decide +kernel
theorem dX11_init_507 : decode cX11_init 507 = .ok (.newarray .int, 2) := by decide +kernel
theorem dX11_init_509 : decode cX11_init 509 = .ok (.putfield 186, 3) := by decide +kernel
theorem dX11_init_512 : decode cX11_init 512 = .ok (.aload_n 0, 1) := by decide +kernel
theorem dX11_init_513 : decode cX11_init 513 = .ok (.iconst 3, 1) := by decide +kernel
theorem dX11_init_514 : decode cX11_init 514 = .ok (.newarray .int, 2) := by decide +kernel
theorem dX11_init_516 : decode cX11_init 516 = .ok (.putfield 189, 3) := by decide +kernel
theorem dX11_init_519 : decode cX11_init 519 = .ok (.aload_n 0, 1) := by decide +kernel
theorem dX11_init_520 : decode cX11_init 520 = .ok (.bipush 8, 2) := by decide +kernel
theorem dX11_init_522 : decode cX11_init 522 = .ok (.newarray .boolean, 2) := by decide +kernel
theorem dX11_init_524 : decode cX11_init 524 = .ok (.putfield 192, 3) := by decide +kernel
theorem dX11_init_527 : decode cX11_init 527 = .ok (.aload_n 0, 1) := by decide +kernel
theorem dX11_init_528 : decode cX11_init 528 = .ok (.getfield 55, 3) := by decide +kernel
theorem dX11_init_531 : decode cX11_init 531 = .ok (.iconst 2, 1) := by decide +kernel
theorem dX11_init_532 : decode cX11_init 532 = .ok (.bipush 40, 2) := by decide +kernel
theorem dX11_init_534 : decode cX11_init 534 = .ok (.iastore, 1) := by decide +kernel
theorem dX11_init_535 : decode cX11_init 535 = .ok (.return_, 1) := by decide +kernel
theorem dX11_thrown_0 : decode cX11_thrown 0 = .ok (.aload_n 0, 1) := by decide +kernel
theorem dX11_thrown_1 : decode cX11_thrown 1 = .ok (.getfield 195, 3) := by decide +kernel
theorem dX11_thrown_4 : decode cX11_thrown 4 = .ok (.ireturn, 1) := by decide +kernel
theorem dX11_fail_0 : decode cX11_fail 0 = .ok (.aload_n 0, 1) := by decide +kernel
theorem dX11_fail_1 : decode cX11_fail 1 = .ok (.iload_n 1, 1) := by decide +kernel
theorem dX11_fail_2 : decode cX11_fail 2 = .ok (.putfield 195, 3) := by decide +kernel
theorem dX11_fail_5 : decode cX11_fail 5 = .ok (.iconst 0, 1) := by decide +kernel
theorem dX11_fail_6 : decode cX11_fail 6 = .ok (.ireturn, 1) := by decide +kernel
theorem dX11_failing_0 : decode cX11_failing 0 = .ok (.aload_n 0, 1) := by decide +kernel
theorem dX11_failing_1 : decode cX11_failing 1 = .ok (.iload_n 1, 1) := by decide +kernel
theorem dX11_failing_2 : decode cX11_failing 2 = .ok (.putfield 195, 3) := by decide +kernel
theorem dX11_failing_5 : decode cX11_failing 5 = .ok (.iconst 0, 1) := by decide +kernel
theorem dX11_failing_6 : decode cX11_failing 6 = .ok (.ireturn, 1) := by decide +kernel
theorem dX11_isIn_0 : decode cX11_isIn 0 = .ok (.lload_n 0, 1) := by decide +kernel
theorem dX11_isIn_1 : decode cX11_isIn 1 = .ok (.lload_n 2, 1) := by decide +kernel
theorem dX11_isIn_2 : decode cX11_isIn 2 = .ok (.lcmp, 1) := by decide +kernel
theorem dX11_isIn_3 : decode cX11_isIn 3 = .ok (.ifCond .lt 14, 3) := by decide +kernel
theorem dX11_isIn_6 : decode cX11_isIn 6 = .ok (.lload_n 0, 1) := by decide +kernel
theorem dX11_isIn_7 : decode cX11_isIn 7 = .ok (.lload 4, 2) := by decide +kernel
theorem dX11_isIn_9 : decode cX11_isIn 9 = .ok (.lcmp, 1) := by decide +kernel
theorem dX11_isIn_10 : decode cX11_isIn 10 = .ok (.ifCond .gt 7, 3) := by decide +kernel
theorem dX11_isIn_13 : decode cX11_isIn 13 = .ok (.iconst 1, 1) := by decide +kernel
theorem dX11_isIn_14 : decode cX11_isIn 14 = .ok (.goto 4, 3) := by decide +kernel
theorem dX11_isIn_17 : decode cX11_isIn 17 = .ok (.iconst 0, 1) := by decide +kernel
theorem dX11_isIn_18 : decode cX11_isIn 18 = .ok (.ireturn, 1) := by decide +kernel
theorem dX11_isOf_0 : decode cX11_isOf 0 = .ok (.iload_n 0, 1) := by decide +kernel
theorem dX11_isOf_1 : decode cX11_isOf 1 = .ok (.iload_n 1, 1) := by decide +kernel
theorem dX11_isOf_2 : decode cX11_isOf 2 = .ok (.ishr, 1) := by decide +kernel
theorem dX11_isOf_3 : decode cX11_isOf 3 = .ok (.iconst 1, 1) := by decide +kernel
theorem dX11_isOf_4 : decode cX11_isOf 4 = .ok (.iand, 1) := by decide +kernel
theorem dX11_isOf_5 : decode cX11_isOf 5 = .ok (.iconst 1, 1) := by decide +kernel
theorem dX11_isOf_6 : decode cX11_isOf 6 = .ok (.if_icmp .ne 7, 3) := by decide +kernel
theorem dX11_isOf_9 : decode cX11_isOf 9 = .ok (.iconst 1, 1) := by decide +kernel
theorem dX11_isOf_10 : decode cX11_isOf 10 = .ok (.goto 4, 3) := by decide +kernel
theorem dX11_isOf_13 : decode cX11_isOf 13 = .ok (.iconst 0, 1) := by decide +kernel
theorem dX11_isOf_14 : decode cX11_isOf 14 = .ok (.ireturn, 1) := by decide +kernel
theorem dX11_bitsOf_0 : decode cX11_bitsOf 0 = .ok (.iconst 0, 1) := by decide +kernel
theorem dX11_bitsOf_1 : decode cX11_bitsOf 1 = .ok (.istore_n 1, 1) := by decide +kernel
theorem dX11_bitsOf_2 : decode cX11_bitsOf 2 = .ok (.iload_n 0, 1) := by decide +kernel
theorem dX11_bitsOf_3 : decode cX11_bitsOf 3 = .ok (.istore_n 2, 1) := by decide +kernel
theorem dX11_bitsOf_4 : decode cX11_bitsOf 4 = .ok (.iload_n 2, 1) := by decide +kernel
theorem dX11_bitsOf_5 : decode cX11_bitsOf 5 = .ok (.ifCond .eq 15, 3) := by decide +kernel
theorem dX11_bitsOf_8 : decode cX11_bitsOf 8 = .ok (.iinc 1 1, 3) := by decide +kernel
theorem dX11_bitsOf_11 : decode cX11_bitsOf 11 = .ok (.iload_n 2, 1) := by decide +kernel
theorem dX11_bitsOf_12 : decode cX11_bitsOf 12 = .ok (.iload_n 2, 1) := by decide +kernel
theorem dX11_bitsOf_13 : decode cX11_bitsOf 13 = .ok (.iconst 1, 1) := by decide +kernel
theorem dX11_bitsOf_14 : decode cX11_bitsOf 14 = .ok (.isub, 1) := by decide +kernel
theorem dX11_bitsOf_15 : decode cX11_bitsOf 15 = .ok (.iand, 1) := by decide +kernel
theorem dX11_bitsOf_16 : decode cX11_bitsOf 16 = .ok (.istore_n 2, 1) := by decide +kernel
theorem dX11_bitsOf_17 : decode cX11_bitsOf 17 = .ok (.goto (-13), 3) := by decide +kernel
theorem dX11_bitsOf_20 : decode cX11_bitsOf 20 = .ok (.iload_n 1, 1) := by decide +kernel
theorem dX11_bitsOf_21 : decode cX11_bitsOf 21 = .ok (.ireturn, 1) := by decide +kernel
theorem dX11_isHouse_0 : decode cX11_isHouse 0 = .ok (.iload_n 1, 1) := by decide +kernel
theorem dX11_isHouse_1 : decode cX11_isHouse 1 = .ok (.i2l, 1) := by decide +kernel
theorem dX11_isHouse_2 : decode cX11_isHouse 2 = .ok (.lconst 0, 1) := by decide +kernel
theorem dX11_isHouse_3 : decode cX11_isHouse 3 = .ok (.aload_n 0, 1) := by decide +kernel
theorem dX11_isHouse_4 : decode cX11_isHouse 4 = .ok (.getfield 55, 3) := by decide +kernel
theorem dX11_isHouse_7 : decode cX11_isHouse 7 = .ok (.iconst 0, 1) := by decide +kernel
theorem dX11_isHouse_8 : decode cX11_isHouse 8 = .ok (.iaload, 1) := by decide +kernel
theorem dX11_isHouse_9 : decode cX11_isHouse 9 = .ok (.iconst 1, 1) := by decide +kernel
theorem dX11_isHouse_10 : decode cX11_isHouse 10 = .ok (.isub, 1) := by decide +kernel
theorem dX11_isHouse_11 : decode cX11_isHouse 11 = .ok (.i2l, 1) := by decide +kernel
theorem dX11_isHouse_12 : decode cX11_isHouse 12 = .ok (.invokestatic 198, 3) := by decide +kernel
theorem dX11_isHouse_15 : decode cX11_isHouse 15 = .ok (.ireturn, 1) := by decide +kernel
theorem dX11_isTenant_0 : decode cX11_isTenant 0 = .ok (.iload_n 1, 1) := by decide +kernel
theorem dX11_isTenant_1 : decode cX11_isTenant 1 = .ok (.i2l, 1) := by decide +kernel
theorem dX11_isTenant_2 : decode cX11_isTenant 2 = .ok (.lconst 0, 1) := by decide +kernel
theorem dX11_isTenant_3 : decode cX11_isTenant 3 = .ok (.aload_n 0, 1) := by decide +kernel
theorem dX11_isTenant_4 : decode cX11_isTenant 4 = .ok (.getfield 55, 3) := by decide +kernel
theorem dX11_isTenant_7 : decode cX11_isTenant 7 = .ok (.iconst 1, 1) := by decide +kernel
theorem dX11_isTenant_8 : decode cX11_isTenant 8 = .ok (.iaload, 1) := by decide +kernel
theorem dX11_isTenant_9 : decode cX11_isTenant 9 = .ok (.iconst 1, 1) := by decide +kernel
theorem dX11_isTenant_10 : decode cX11_isTenant 10 = .ok (.isub, 1) := by decide +kernel
theorem dX11_isTenant_11 : decode cX11_isTenant 11 = .ok (.i2l, 1) := by decide +kernel
theorem dX11_isTenant_12 : decode cX11_isTenant 12 = .ok (.invokestatic 198, 3) := by decide +kernel
theorem dX11_isTenant_15 : decode cX11_isTenant 15 = .ok (.ireturn, 1) := by decide +kernel
theorem dX11_feed_0 : decode cX11_feed 0 = .ok (.aload_n 0, 1) := by decide +kernel
theorem dX11_feed_1 : decode cX11_feed 1 = .ok (.iconst 0, 1) := by decide +kernel
theorem dX11_feed_2 : decode cX11_feed 2 = .ok (.putfield 195, 3) := by decide +kernel
theorem dX11_feed_5 : decode cX11_feed 5 = .ok (.aload_n 0, 1) := by decide +kernel
theorem dX11_feed_6 : decode cX11_feed 6 = .ok (.getfield 202, 3) := by decide +kernel
theorem dX11_feed_9 : decode cX11_feed 9 = .ok (.bipush 20, 2) := by decide +kernel
theorem dX11_feed_11 : decode cX11_feed 11 = .ok (.iadd, 1) := by decide +kernel
theorem dX11_feed_12 : decode cX11_feed 12 = .ok (.sipush 700, 3) := by decide +kernel
theorem dX11_feed_15 : decode cX11_feed 15 = .ok (.if_icmp .le 5, 3) := by decide +kernel
theorem dX11_feed_18 : decode cX11_feed 18 = .ok (.iconst (-1), 1) := by decide +kernel
theorem dX11_feed_19 : decode cX11_feed 19 = .ok (.ireturn, 1) := by decide +kernel
theorem dX11_feed_20 : decode cX11_feed 20 = .ok (.iconst 0, 1) := by decide +kernel
theorem dX11_feed_21 : decode cX11_feed 21 = .ok (.istore 6, 2) := by decide +kernel
theorem dX11_feed_23 : decode cX11_feed 23 = .ok (.iload 6, 2) := by decide +kernel
theorem dX11_feed_25 : decode cX11_feed 25 = .ok (.bipush 20, 2) := by decide +kernel
theorem dX11_feed_27 : decode cX11_feed 27 = .ok (.if_icmp .ge 93, 3) := by decide +kernel
theorem dX11_feed_30 : decode cX11_feed 30 = .ok (.iload 6, 2) := by decide +kernel
theorem dX11_feed_32 : decode cX11_feed 32 = .ok (.iconst 4, 1) := by decide +kernel
theorem dX11_feed_33 : decode cX11_feed 33 = .ok (.if_icmp .ge 7, 3) := by decide +kernel
theorem dX11_feed_36 : decode cX11_feed 36 = .ok (.iload_n 1, 1) := by decide +kernel
theorem dX11_feed_37 : decode cX11_feed 37 = .ok (.goto 39, 3) := by decide +kernel
theorem dX11_feed_40 : decode cX11_feed 40 = .ok (.iload 6, 2) := by decide +kernel
theorem dX11_feed_42 : decode cX11_feed 42 = .ok (.bipush 8, 2) := by decide +kernel
theorem dX11_feed_44 : decode cX11_feed 44 = .ok (.if_icmp .ge 7, 3) := by decide +kernel
theorem dX11_feed_47 : decode cX11_feed 47 = .ok (.iload_n 2, 1) := by decide +kernel
theorem dX11_feed_48 : decode cX11_feed 48 = .ok (.goto 28, 3) := by decide +kernel
theorem dX11_feed_51 : decode cX11_feed 51 = .ok (.iload 6, 2) := by decide +kernel
theorem dX11_feed_53 : decode cX11_feed 53 = .ok (.bipush 12, 2) := by decide +kernel
theorem dX11_feed_55 : decode cX11_feed 55 = .ok (.if_icmp .ge 7, 3) := by decide +kernel
theorem dX11_feed_58 : decode cX11_feed 58 = .ok (.iload_n 3, 1) := by decide +kernel
theorem dX11_feed_59 : decode cX11_feed 59 = .ok (.goto 17, 3) := by decide +kernel
theorem dX11_feed_62 : decode cX11_feed 62 = .ok (.iload 6, 2) := by decide +kernel
theorem dX11_feed_64 : decode cX11_feed 64 = .ok (.bipush 16, 2) := by decide +kernel
theorem dX11_feed_66 : decode cX11_feed 66 = .ok (.if_icmp .ge 8, 3) := by decide +kernel
theorem dX11_feed_69 : decode cX11_feed 69 = .ok (.iload 4, 2) := by decide +kernel
theorem dX11_feed_71 : decode cX11_feed 71 = .ok (.goto 5, 3) := by decide +kernel
theorem dX11_feed_74 : decode cX11_feed 74 = .ok (.iload 5, 2) := by decide +kernel
theorem dX11_feed_76 : decode cX11_feed 76 = .ok (.istore 7, 2) := by decide +kernel
theorem dX11_feed_78 : decode cX11_feed 78 = .ok (.aload_n 0, 1) := by decide +kernel
theorem dX11_feed_79 : decode cX11_feed 79 = .ok (.getfield 95, 3) := by decide +kernel
theorem dX11_feed_82 : decode cX11_feed 82 = .ok (.aload_n 0, 1) := by decide +kernel
theorem dX11_feed_83 : decode cX11_feed 83 = .ok (.getfield 202, 3) := by decide +kernel
theorem dX11_feed_86 : decode cX11_feed 86 = .ok (.iload 7, 2) := by decide +kernel
theorem dX11_feed_88 : decode cX11_feed 88 = .ok (.bipush 24, 2) := by decide +kernel
theorem dX11_feed_90 : decode cX11_feed 90 = .ok (.bipush 8, 2) := by decide +kernel
theorem dX11_feed_92 : decode cX11_feed 92 = .ok (.iload 6, 2) := by decide +kernel
theorem dX11_feed_94 : decode cX11_feed 94 = .ok (.iconst 4, 1) := by decide +kernel
theorem dX11_feed_95 : decode cX11_feed 95 = .ok (.irem, 1) := by decide +kernel
theorem dX11_feed_96 : decode cX11_feed 96 = .ok (.imul, 1) := by decide +kernel
theorem dX11_feed_97 : decode cX11_feed 97 = .ok (.isub, 1) := by decide +kernel
theorem dX11_feed_98 : decode cX11_feed 98 = .ok (.ishr, 1) := by decide +kernel
theorem dX11_feed_99 : decode cX11_feed 99 = .ok (.sipush 255, 3) := by decide +kernel
theorem dX11_feed_102 : decode cX11_feed 102 = .ok (.iand, 1) := by decide +kernel
theorem dX11_feed_103 : decode cX11_feed 103 = .ok (.iastore, 1) := by decide +kernel
theorem dX11_feed_104 : decode cX11_feed 104 = .ok (.aload_n 0, 1) := by decide +kernel
theorem dX11_feed_105 : decode cX11_feed 105 = .ok (.dup, 1) := by decide +kernel
theorem dX11_feed_106 : decode cX11_feed 106 = .ok (.getfield 202, 3) := by decide +kernel
theorem dX11_feed_109 : decode cX11_feed 109 = .ok (.iconst 1, 1) := by decide +kernel
theorem dX11_feed_110 : decode cX11_feed 110 = .ok (.iadd, 1) := by decide +kernel
theorem dX11_feed_111 : decode cX11_feed 111 = .ok (.putfield 202, 3) := by decide +kernel
theorem dX11_feed_114 : decode cX11_feed 114 = .ok (.iinc 6 1, 3) := by decide +kernel
theorem dX11_feed_117 : decode cX11_feed 117 = .ok (.goto (-94), 3) := by decide +kernel
theorem dX11_feed_120 : decode cX11_feed 120 = .ok (.aload_n 0, 1) := by decide +kernel
theorem dX11_feed_121 : decode cX11_feed 121 = .ok (.getfield 202, 3) := by decide +kernel
theorem dX11_feed_124 : decode cX11_feed 124 = .ok (.ireturn, 1) := by decide +kernel
theorem dX11_byteAt_0 : decode cX11_byteAt 0 = .ok (.iload_n 1, 1) := by decide +kernel
theorem dX11_byteAt_1 : decode cX11_byteAt 1 = .ok (.aload_n 0, 1) := by decide +kernel
theorem dX11_byteAt_2 : decode cX11_byteAt 2 = .ok (.getfield 205, 3) := by decide +kernel
theorem dX11_byteAt_5 : decode cX11_byteAt 5 = .ok (.if_icmp .ge 12, 3) := by decide +kernel
theorem dX11_byteAt_8 : decode cX11_byteAt 8 = .ok (.aload_n 0, 1) := by decide +kernel
theorem dX11_byteAt_9 : decode cX11_byteAt 9 = .ok (.getfield 95, 3) := by decide +kernel
theorem dX11_byteAt_12 : decode cX11_byteAt 12 = .ok (.iload_n 1, 1) := by decide +kernel
theorem dX11_byteAt_13 : decode cX11_byteAt 13 = .ok (.iaload, 1) := by decide +kernel
theorem dX11_byteAt_14 : decode cX11_byteAt 14 = .ok (.goto 4, 3) := by decide +kernel
theorem dX11_byteAt_17 : decode cX11_byteAt 17 = .ok (.iconst (-1), 1) := by decide +kernel
theorem dX11_byteAt_18 : decode cX11_byteAt 18 = .ok (.ireturn, 1) := by decide +kernel
theorem dX11_isLetter_0 : decode cX11_isLetter 0 = .ok (.iload_n 0, 1) := by decide +kernel
theorem dX11_isLetter_1 : decode cX11_isLetter 1 = .ok (.bipush 97, 2) := by decide +kernel
theorem dX11_isLetter_3 : decode cX11_isLetter 3 = .ok (.if_icmp .lt 13, 3) := by decide +kernel
theorem dX11_isLetter_6 : decode cX11_isLetter 6 = .ok (.iload_n 0, 1) := by decide +kernel
theorem dX11_isLetter_7 : decode cX11_isLetter 7 = .ok (.bipush 122, 2) := by decide +kernel
theorem dX11_isLetter_9 : decode cX11_isLetter 9 = .ok (.if_icmp .gt 7, 3) := by decide +kernel
theorem dX11_isLetter_12 : decode cX11_isLetter 12 = .ok (.iconst 1, 1) := by decide +kernel
theorem dX11_isLetter_13 : decode cX11_isLetter 13 = .ok (.goto 4, 3) := by decide +kernel
theorem dX11_isLetter_16 : decode cX11_isLetter 16 = .ok (.iconst 0, 1) := by decide +kernel
theorem dX11_isLetter_17 : decode cX11_isLetter 17 = .ok (.ireturn, 1) := by decide +kernel
theorem dX11_isDigit_0 : decode cX11_isDigit 0 = .ok (.iload_n 0, 1) := by decide +kernel
theorem dX11_isDigit_1 : decode cX11_isDigit 1 = .ok (.bipush 48, 2) := by decide +kernel
theorem dX11_isDigit_3 : decode cX11_isDigit 3 = .ok (.if_icmp .lt 13, 3) := by decide +kernel
theorem dX11_isDigit_6 : decode cX11_isDigit 6 = .ok (.iload_n 0, 1) := by decide +kernel
theorem dX11_isDigit_7 : decode cX11_isDigit 7 = .ok (.bipush 57, 2) := by decide +kernel
theorem dX11_isDigit_9 : decode cX11_isDigit 9 = .ok (.if_icmp .gt 7, 3) := by decide +kernel
theorem dX11_isDigit_12 : decode cX11_isDigit 12 = .ok (.iconst 1, 1) := by decide +kernel
theorem dX11_isDigit_13 : decode cX11_isDigit 13 = .ok (.goto 4, 3) := by decide +kernel
theorem dX11_isDigit_16 : decode cX11_isDigit 16 = .ok (.iconst 0, 1) := by decide +kernel
theorem dX11_isDigit_17 : decode cX11_isDigit 17 = .ok (.ireturn, 1) := by decide +kernel
theorem dX11_isMark_0 : decode cX11_isMark 0 = .ok (.iload_n 0, 1) := by decide +kernel
theorem dX11_isMark_1 : decode cX11_isMark 1 = .ok (.bipush 59, 2) := by decide +kernel
theorem dX11_isMark_3 : decode cX11_isMark 3 = .ok (.if_icmp .eq 51, 3) := by decide +kernel
theorem dX11_isMark_6 : decode cX11_isMark 6 = .ok (.iload_n 0, 1) := by decide +kernel
theorem dX11_isMark_7 : decode cX11_isMark 7 = .ok (.bipush 40, 2) := by decide +kernel
theorem dX11_isMark_9 : decode cX11_isMark 9 = .ok (.if_icmp .eq 45, 3) := by decide +kernel
theorem dX11_isMark_12 : decode cX11_isMark 12 = .ok (.iload_n 0, 1) := by decide +kernel
theorem dX11_isMark_13 : decode cX11_isMark 13 = .ok (.bipush 41, 2) := by decide +kernel
theorem dX11_isMark_15 : decode cX11_isMark 15 = .ok (.if_icmp .eq 39, 3) := by decide +kernel
theorem dX11_isMark_18 : decode cX11_isMark 18 = .ok (.iload_n 0, 1) := by decide +kernel
theorem dX11_isMark_19 : decode cX11_isMark 19 = .ok (.bipush 43, 2) := by decide +kernel
theorem dX11_isMark_21 : decode cX11_isMark 21 = .ok (.if_icmp .eq 33, 3) := by decide +kernel
theorem dX11_isMark_24 : decode cX11_isMark 24 = .ok (.iload_n 0, 1) := by decide +kernel
theorem dX11_isMark_25 : decode cX11_isMark 25 = .ok (.bipush 45, 2) := by decide +kernel
