theorem dX0_init_0 : decode cX0_init 0 = .ok (.aload_n 0, 1) := by decide +kernel
theorem dX0_init_1 : decode cX0_init 1 = .ok (.invokespecial 3, 3) := by decide +kernel
theorem dX0_init_4 : decode cX0_init 4 = .ok (.aload_n 0, 1) := by decide +kernel
theorem dX0_init_5 : decode cX0_init 5 = .ok (.sipush 2560, 3) := by decide +kernel
theorem dX0_init_8 : decode cX0_init 8 = .ok (.newarray .int, 2) := by decide +kernel
theorem dX0_init_10 : decode cX0_init 10 = .ok (.putfield 9, 3) := by decide +kernel
theorem dX0_init_13 : decode cX0_init 13 = .ok (.aload_n 0, 1) := by decide +kernel
theorem dX0_init_14 : decode cX0_init 14 = .ok (.iconst 0, 1) := by decide +kernel
theorem dX0_init_15 : decode cX0_init 15 = .ok (.putfield 15, 3) := by decide +kernel
theorem dX0_init_18 : decode cX0_init 18 = .ok (.aload_n 0, 1) := by decide +kernel
theorem dX0_init_19 : decode cX0_init 19 = .ok (.iconst 0, 1) := by decide +kernel
theorem dX0_init_20 : decode cX0_init 20 = .ok (.putfield 19, 3) := by decide +kernel
theorem dX0_init_23 : decode cX0_init 23 = .ok (.return_, 1) := by decide +kernel
theorem dX0_clear_0 : decode cX0_clear 0 = .ok (.aload_n 0, 1) := by decide +kernel
theorem dX0_clear_1 : decode cX0_clear 1 = .ok (.iconst 0, 1) := by decide +kernel
theorem dX0_clear_2 : decode cX0_clear 2 = .ok (.putfield 15, 3) := by decide +kernel
theorem dX0_clear_5 : decode cX0_clear 5 = .ok (.aload_n 0, 1) := by decide +kernel
theorem dX0_clear_6 : decode cX0_clear 6 = .ok (.iconst 0, 1) := by decide +kernel
theorem dX0_clear_7 : decode cX0_clear 7 = .ok (.putfield 19, 3) := by decide +kernel
theorem dX0_clear_10 : decode cX0_clear 10 = .ok (.return_, 1) := by decide +kernel
theorem dX0_add_0 : decode cX0_add 0 = .ok (.aload_n 1, 1) := by decide +kernel
theorem dX0_add_1 : decode cX0_add 1 = .ok (.iconst 0, 1) := by decide +kernel
theorem dX0_add_2 : decode cX0_add 2 = .ok (.aload_n 0, 1) := by decide +kernel
theorem dX0_add_3 : decode cX0_add 3 = .ok (.getfield 9, 3) := by decide +kernel
theorem dX0_add_6 : decode cX0_add 6 = .ok (.aload_n 0, 1) := by decide +kernel
theorem dX0_add_7 : decode cX0_add 7 = .ok (.getfield 15, 3) := by decide +kernel
theorem dX0_add_10 : decode cX0_add 10 = .ok (.aload_n 0, 1) := by decide +kernel
theorem dX0_add_11 : decode cX0_add 11 = .ok (.getfield 19, 3) := by decide +kernel
theorem dX0_add_14 : decode cX0_add 14 = .ok (.iadd, 1) := by decide +kernel
theorem dX0_add_15 : decode cX0_add 15 = .ok (.bipush 40, 2) := by decide +kernel
theorem dX0_add_17 : decode cX0_add 17 = .ok (.irem, 1) := by decide +kernel
theorem dX0_add_18 : decode cX0_add 18 = .ok (.bipush 64, 2) := by decide +kernel
theorem dX0_add_20 : decode cX0_add 20 = .ok (.imul, 1) := by decide +kernel
theorem dX0_add_21 : decode cX0_add 21 = .ok (.bipush 64, 2) := by decide +kernel
theorem dX0_add_23 : decode cX0_add 23 = .ok (.invokestatic 22, 3) := by decide +kernel
theorem dX0_add_26 : decode cX0_add 26 = .ok (.aload_n 0, 1) := by decide +kernel
theorem dX0_add_27 : decode cX0_add 27 = .ok (.getfield 19, 3) := by decide +kernel
theorem dX0_add_30 : decode cX0_add 30 = .ok (.bipush 40, 2) := by decide +kernel
theorem dX0_add_32 : decode cX0_add 32 = .ok (.if_icmp .ge 16, 3) := by decide +kernel
theorem dX0_add_35 : decode cX0_add 35 = .ok (.aload_n 0, 1) := by decide +kernel
theorem dX0_add_36 : decode cX0_add 36 = .ok (.dup, 1) := by decide +kernel
theorem dX0_add_37 : decode cX0_add 37 = .ok (.getfield 19, 3) := by decide +kernel
theorem dX0_add_40 : decode cX0_add 40 = .ok (.iconst 1, 1) := by decide +kernel
theorem dX0_add_41 : decode cX0_add 41 = .ok (.iadd, 1) := by decide +kernel
theorem dX0_add_42 : decode cX0_add 42 = .ok (.putfield 19, 3) := by decide +kernel
theorem dX0_add_45 : decode cX0_add 45 = .ok (.goto 16, 3) := by decide +kernel
theorem dX0_add_48 : decode cX0_add 48 = .ok (.aload_n 0, 1) := by decide +kernel
theorem dX0_add_49 : decode cX0_add 49 = .ok (.aload_n 0, 1) := by decide +kernel
theorem dX0_add_50 : decode cX0_add 50 = .ok (.getfield 15, 3) := by decide +kernel
theorem dX0_add_53 : decode cX0_add 53 = .ok (.iconst 1, 1) := by decide +kernel
theorem dX0_add_54 : decode cX0_add 54 = .ok (.iadd, 1) := by decide +kernel
theorem dX0_add_55 : decode cX0_add 55 = .ok (.bipush 40, 2) := by decide +kernel
theorem dX0_add_57 : decode cX0_add 57 = .ok (.irem, 1) := by decide +kernel
theorem dX0_add_58 : decode cX0_add 58 = .ok (.putfield 15, 3) := by decide +kernel
theorem dX0_add_61 : decode cX0_add 61 = .ok (.return_, 1) := by decide +kernel
theorem dX0_takeBack_0 : decode cX0_takeBack 0 = .ok (.aload_n 0, 1) := by decide +kernel
theorem dX0_takeBack_1 : decode cX0_takeBack 1 = .ok (.getfield 19, 3) := by decide +kernel
theorem dX0_takeBack_4 : decode cX0_takeBack 4 = .ok (.ifCond .ne 5, 3) := by decide +kernel
theorem dX0_takeBack_7 : decode cX0_takeBack 7 = .ok (.iconst (-1), 1) := by decide +kernel
theorem dX0_takeBack_8 : decode cX0_takeBack 8 = .ok (.ireturn, 1) := by decide +kernel
theorem dX0_takeBack_9 : decode cX0_takeBack 9 = .ok (.aload_n 0, 1) := by decide +kernel
theorem dX0_takeBack_10 : decode cX0_takeBack 10 = .ok (.dup, 1) := by decide +kernel
theorem dX0_takeBack_11 : decode cX0_takeBack 11 = .ok (.getfield 19, 3) := by decide +kernel
theorem dX0_takeBack_14 : decode cX0_takeBack 14 = .ok (.iconst 1, 1) := by decide +kernel
theorem dX0_takeBack_15 : decode cX0_takeBack 15 = .ok (.isub, 1) := by decide +kernel
theorem dX0_takeBack_16 : decode cX0_takeBack 16 = .ok (.putfield 19, 3) := by decide +kernel
theorem dX0_takeBack_19 : decode cX0_takeBack 19 = .ok (.aload_n 0, 1) := by decide +kernel
theorem dX0_takeBack_20 : decode cX0_takeBack 20 = .ok (.getfield 9, 3) := by decide +kernel
theorem dX0_takeBack_23 : decode cX0_takeBack 23 = .ok (.aload_n 0, 1) := by decide +kernel
theorem dX0_takeBack_24 : decode cX0_takeBack 24 = .ok (.getfield 15, 3) := by decide +kernel
theorem dX0_takeBack_27 : decode cX0_takeBack 27 = .ok (.aload_n 0, 1) := by decide +kernel
theorem dX0_takeBack_28 : decode cX0_takeBack 28 = .ok (.getfield 19, 3) := by decide +kernel
theorem dX0_takeBack_31 : decode cX0_takeBack 31 = .ok (.iadd, 1) := by decide +kernel
theorem dX0_takeBack_32 : decode cX0_takeBack 32 = .ok (.bipush 40, 2) := by decide +kernel
theorem dX0_takeBack_34 : decode cX0_takeBack 34 = .ok (.irem, 1) := by decide +kernel
theorem dX0_takeBack_35 : decode cX0_takeBack 35 = .ok (.bipush 64, 2) := by decide +kernel
theorem dX0_takeBack_37 : decode cX0_takeBack 37 = .ok (.imul, 1) := by decide +kernel
theorem dX0_takeBack_38 : decode cX0_takeBack 38 = .ok (.aload_n 1, 1) := by decide +kernel
theorem dX0_takeBack_39 : decode cX0_takeBack 39 = .ok (.iconst 0, 1) := by decide +kernel
theorem dX0_takeBack_40 : decode cX0_takeBack 40 = .ok (.bipush 64, 2) := by decide +kernel
theorem dX0_takeBack_42 : decode cX0_takeBack 42 = .ok (.invokestatic 22, 3) := by decide +kernel
theorem dX0_takeBack_45 : decode cX0_takeBack 45 = .ok (.aload_n 0, 1) := by decide +kernel
theorem dX0_takeBack_46 : decode cX0_takeBack 46 = .ok (.getfield 19, 3) := by decide +kernel
theorem dX0_takeBack_49 : decode cX0_takeBack 49 = .ok (.ireturn, 1) := by decide +kernel
theorem dX0_copyFrom_0 : decode cX0_copyFrom 0 = .ok (.aload_n 1, 1) := by decide +kernel
theorem dX0_copyFrom_1 : decode cX0_copyFrom 1 = .ok (.getfield 9, 3) := by decide +kernel
theorem dX0_copyFrom_4 : decode cX0_copyFrom 4 = .ok (.iconst 0, 1) := by decide +kernel
theorem dX0_copyFrom_5 : decode cX0_copyFrom 5 = .ok (.aload_n 0, 1) := by decide +kernel
theorem dX0_copyFrom_6 : decode cX0_copyFrom 6 = .ok (.getfield 9, 3) := by decide +kernel
theorem dX0_copyFrom_9 : decode cX0_copyFrom 9 = .ok (.iconst 0, 1) := by decide +kernel
theorem dX0_copyFrom_10 : decode cX0_copyFrom 10 = .ok (.sipush 2560, 3) := by decide +kernel
theorem dX0_copyFrom_13 : decode cX0_copyFrom 13 = .ok (.invokestatic 22, 3) := by decide +kernel
theorem dX0_copyFrom_16 : decode cX0_copyFrom 16 = .ok (.aload_n 0, 1) := by decide +kernel
theorem dX0_copyFrom_17 : decode cX0_copyFrom 17 = .ok (.aload_n 1, 1) := by decide +kernel
theorem dX0_copyFrom_18 : decode cX0_copyFrom 18 = .ok (.getfield 15, 3) := by decide +kernel
theorem dX0_copyFrom_21 : decode cX0_copyFrom 21 = .ok (.putfield 15, 3) := by decide +kernel
theorem dX0_copyFrom_24 : decode cX0_copyFrom 24 = .ok (.aload_n 0, 1) := by decide +kernel
theorem dX0_copyFrom_25 : decode cX0_copyFrom 25 = .ok (.aload_n 1, 1) := by decide +kernel
theorem dX0_copyFrom_26 : decode cX0_copyFrom 26 = .ok (.getfield 19, 3) := by decide +kernel
theorem dX0_copyFrom_29 : decode cX0_copyFrom 29 = .ok (.putfield 19, 3) := by decide +kernel
theorem dX0_copyFrom_32 : decode cX0_copyFrom 32 = .ok (.return_, 1) := by decide +kernel
theorem dX1_init_0 : decode cX1_init 0 = .ok (.aload_n 0, 1) := by decide +kernel
theorem dX1_init_1 : decode cX1_init 1 = .ok (.invokespecial 3, 3) := by decide +kernel
theorem dX1_init_4 : decode cX1_init 4 = .ok (.aload_n 0, 1) := by decide +kernel
theorem dX1_init_5 : decode cX1_init 5 = .ok (.bipush 64, 2) := by decide +kernel
theorem dX1_init_7 : decode cX1_init 7 = .ok (.newarray .int, 2) := by decide +kernel
theorem dX1_init_9 : decode cX1_init 9 = .ok (.putfield 9, 3) := by decide +kernel
theorem dX1_init_12 : decode cX1_init 12 = .ok (.aload_n 0, 1) := by decide +kernel
theorem dX1_init_13 : decode cX1_init 13 = .ok (.new 15, 3) := by decide +kernel
theorem dX1_init_16 : decode cX1_init 16 = .ok (.dup, 1) := by decide +kernel
theorem dX1_init_17 : decode cX1_init 17 = .ok (.invokespecial 17, 3) := by decide +kernel
theorem dX1_init_20 : decode cX1_init 20 = .ok (.putfield 18, 3) := by decide +kernel
theorem dX1_init_23 : decode cX1_init 23 = .ok (.aload_n 0, 1) := by decide +kernel
theorem dX1_init_24 : decode cX1_init 24 = .ok (.new 22, 3) := by decide +kernel
theorem dX1_init_27 : decode cX1_init 27 = .ok (.dup, 1) := by decide +kernel
theorem dX1_init_28 : decode cX1_init 28 = .ok (.invokespecial 24, 3) := by decide +kernel
theorem dX1_init_31 : decode cX1_init 31 = .ok (.putfield 25, 3) := by decide +kernel
theorem dX1_init_34 : decode cX1_init 34 = .ok (.aload_n 0, 1) := by decide +kernel
theorem dX1_init_35 : decode cX1_init 35 = .ok (.iconst 3, 1) := by decide +kernel
theorem dX1_init_36 : decode cX1_init 36 = .ok (.newarray .int, 2) := by decide +kernel
theorem dX1_init_38 : decode cX1_init 38 = .ok (.putfield 29, 3) := by decide +kernel
theorem dX1_init_41 : decode cX1_init 41 = .ok (.return_, 1) := by decide +kernel
theorem dX1_begin_0 : decode cX1_begin 0 = .ok (.aload_n 1, 1) := by decide +kernel
theorem dX1_begin_1 : decode cX1_begin 1 = .ok (.iconst 0, 1) := by decide +kernel
theorem dX1_begin_2 : decode cX1_begin 2 = .ok (.aload_n 0, 1) := by decide +kernel
theorem dX1_begin_3 : decode cX1_begin 3 = .ok (.getfield 9, 3) := by decide +kernel
theorem dX1_begin_6 : decode cX1_begin 6 = .ok (.iconst 0, 1) := by decide +kernel
theorem dX1_begin_7 : decode cX1_begin 7 = .ok (.bipush 64, 2) := by decide +kernel
theorem dX1_begin_9 : decode cX1_begin 9 = .ok (.invokestatic 32, 3) := by decide +kernel
theorem dX1_begin_12 : decode cX1_begin 12 = .ok (.aload_n 0, 1) := by decide +kernel
theorem dX1_begin_13 : decode cX1_begin 13 = .ok (.getfield 18, 3) := by decide +kernel
theorem dX1_begin_16 : decode cX1_begin 16 = .ok (.invokevirtual 38, 3) := by decide +kernel
theorem dX1_begin_19 : decode cX1_begin 19 = .ok (.aload_n 0, 1) := by decide +kernel
theorem dX1_begin_20 : decode cX1_begin 20 = .ok (.getfield 25, 3) := by decide +kernel
theorem dX1_begin_23 : decode cX1_begin 23 = .ok (.iconst 0, 1) := by decide +kernel
theorem dX1_begin_24 : decode cX1_begin 24 = .ok (.putfield 41, 3) := by decide +kernel
theorem dX1_begin_27 : decode cX1_begin 27 = .ok (.return_, 1) := by decide +kernel
theorem dX1_refuse_0 : decode cX1_refuse 0 = .ok (.aload_n 0, 1) := by decide +kernel
theorem dX1_refuse_1 : decode cX1_refuse 1 = .ok (.getfield 29, 3) := by decide +kernel
theorem dX1_refuse_4 : decode cX1_refuse 4 = .ok (.iload_n 1, 1) := by decide +kernel
theorem dX1_refuse_5 : decode cX1_refuse 5 = .ok (.dup2, 1) := by decide +kernel
theorem dX1_refuse_6 : decode cX1_refuse 6 = .ok (.iaload, 1) := by decide +kernel
theorem dX1_refuse_7 : decode cX1_refuse 7 = .ok (.iconst 1, 1) := by decide +kernel
theorem dX1_refuse_8 : decode cX1_refuse 8 = .ok (.iadd, 1) := by decide +kernel
theorem dX1_refuse_9 : decode cX1_refuse 9 = .ok (.iastore, 1) := by decide +kernel
theorem dX1_refuse_10 : decode cX1_refuse 10 = .ok (.iconst (-1), 1) := by decide +kernel
theorem dX1_refuse_11 : decode cX1_refuse 11 = .ok (.ireturn, 1) := by decide +kernel
theorem dX1_beginAct_0 : decode cX1_beginAct 0 = .ok (.aload_n 0, 1) := by decide +kernel
theorem dX1_beginAct_1 : decode cX1_beginAct 1 = .ok (.getfield 18, 3) := by decide +kernel
theorem dX1_beginAct_4 : decode cX1_beginAct 4 = .ok (.aload_n 0, 1) := by decide +kernel
theorem dX1_beginAct_5 : decode cX1_beginAct 5 = .ok (.getfield 9, 3) := by decide +kernel
theorem dX1_beginAct_8 : decode cX1_beginAct 8 = .ok (.invokevirtual 45, 3) := by decide +kernel
theorem dX1_beginAct_11 : decode cX1_beginAct 11 = .ok (.return_, 1) := by decide +kernel
theorem dX1_actTo_0 : decode cX1_actTo 0 = .ok (.aload_n 0, 1) := by decide +kernel
theorem dX1_actTo_1 : decode cX1_actTo 1 = .ok (.getfield 9, 3) := by decide +kernel
theorem dX1_actTo_4 : decode cX1_actTo 4 = .ok (.iload_n 1, 1) := by decide +kernel
theorem dX1_actTo_5 : decode cX1_actTo 5 = .ok (.iaload, 1) := by decide +kernel
theorem dX1_actTo_6 : decode cX1_actTo 6 = .ok (.istore_n 3, 1) := by decide +kernel
theorem dX1_actTo_7 : decode cX1_actTo 7 = .ok (.aload_n 0, 1) := by decide +kernel
theorem dX1_actTo_8 : decode cX1_actTo 8 = .ok (.invokevirtual 49, 3) := by decide +kernel
theorem dX1_actTo_11 : decode cX1_actTo 11 = .ok (.aload_n 0, 1) := by decide +kernel
theorem dX1_actTo_12 : decode cX1_actTo 12 = .ok (.getfield 9, 3) := by decide +kernel
theorem dX1_actTo_15 : decode cX1_actTo 15 = .ok (.iload_n 1, 1) := by decide +kernel
theorem dX1_actTo_16 : decode cX1_actTo 16 = .ok (.iload_n 2, 1) := by decide +kernel
theorem dX1_actTo_17 : decode cX1_actTo 17 = .ok (.iastore, 1) := by decide +kernel
theorem dX1_actTo_18 : decode cX1_actTo 18 = .ok (.iload_n 3, 1) := by decide +kernel
theorem dX1_actTo_19 : decode cX1_actTo 19 = .ok (.ireturn, 1) := by decide +kernel
theorem dX1_copyFrom_0 : decode cX1_copyFrom 0 = .ok (.aload_n 1, 1) := by decide +kernel
theorem dX1_copyFrom_1 : decode cX1_copyFrom 1 = .ok (.getfield 9, 3) := by decide +kernel
theorem dX1_copyFrom_4 : decode cX1_copyFrom 4 = .ok (.iconst 0, 1) := by decide +kernel
theorem dX1_copyFrom_5 : decode cX1_copyFrom 5 = .ok (.aload_n 0, 1) := by decide +kernel
theorem dX1_copyFrom_6 : decode cX1_copyFrom 6 = .ok (.getfield 9, 3) := by decide +kernel
theorem dX1_copyFrom_9 : decode cX1_copyFrom 9 = .ok (.iconst 0, 1) := by decide +kernel
theorem dX1_copyFrom_10 : decode cX1_copyFrom 10 = .ok (.bipush 64, 2) := by decide +kernel
theorem dX1_copyFrom_12 : decode cX1_copyFrom 12 = .ok (.invokestatic 32, 3) := by decide +kernel
theorem dX1_copyFrom_15 : decode cX1_copyFrom 15 = .ok (.aload_n 0, 1) := by decide +kernel
theorem dX1_copyFrom_16 : decode cX1_copyFrom 16 = .ok (.getfield 18, 3) := by decide +kernel
theorem dX1_copyFrom_19 : decode cX1_copyFrom 19 = .ok (.aload_n 1, 1) := by decide +kernel
theorem dX1_copyFrom_20 : decode cX1_copyFrom 20 = .ok (.getfield 18, 3) := by decide +kernel
theorem dX1_copyFrom_23 : decode cX1_copyFrom 23 = .ok (.invokevirtual 52, 3) := by decide +kernel
theorem dX1_copyFrom_26 : decode cX1_copyFrom 26 = .ok (.aload_n 0, 1) := by decide +kernel
theorem dX1_copyFrom_27 : decode cX1_copyFrom 27 = .ok (.getfield 25, 3) := by decide +kernel
theorem dX1_copyFrom_30 : decode cX1_copyFrom 30 = .ok (.aload_n 1, 1) := by decide +kernel
theorem dX1_copyFrom_31 : decode cX1_copyFrom 31 = .ok (.getfield 25, 3) := by decide +kernel
theorem dX1_copyFrom_34 : decode cX1_copyFrom 34 = .ok (.invokevirtual 56, 3) := by decide +kernel
theorem dX1_copyFrom_37 : decode cX1_copyFrom 37 = .ok (.aload_n 1, 1) := by decide +kernel
theorem dX1_copyFrom_38 : decode cX1_copyFrom 38 = .ok (.getfield 29, 3) := by decide +kernel
theorem dX1_copyFrom_41 : decode cX1_copyFrom 41 = .ok (.iconst 0, 1) := by decide +kernel
theorem dX1_copyFrom_42 : decode cX1_copyFrom 42 = .ok (.aload_n 0, 1) := by decide +kernel
theorem dX1_copyFrom_43 : decode cX1_copyFrom 43 = .ok (.getfield 29, 3) := by decide +kernel
theorem dX1_copyFrom_46 : decode cX1_copyFrom 46 = .ok (.iconst 0, 1) := by decide +kernel
theorem dX1_copyFrom_47 : decode cX1_copyFrom 47 = .ok (.aload_n 0, 1) := by decide +kernel
theorem dX1_copyFrom_48 : decode cX1_copyFrom 48 = .ok (.getfield 29, 3) := by decide +kernel
theorem dX1_copyFrom_51 : decode cX1_copyFrom 51 = .ok (.arraylength, 1) := by decide +kernel
theorem dX1_copyFrom_52 : decode cX1_copyFrom 52 = .ok (.invokestatic 32, 3) := by decide +kernel
theorem dX1_copyFrom_55 : decode cX1_copyFrom 55 = .ok (.return_, 1) := by decide +kernel
theorem dX2_init_0 : decode cX2_init 0 = .ok (.aload_n 0, 1) := by decide +kernel
theorem dX2_init_1 : decode cX2_init 1 = .ok (.invokespecial 3, 3) := by decide +kernel
theorem dX2_init_4 : decode cX2_init 4 = .ok (.aload_n 0, 1) := by decide +kernel
theorem dX2_init_5 : decode cX2_init 5 = .ok (.iconst 0, 1) := by decide +kernel
theorem dX2_init_6 : decode cX2_init 6 = .ok (.putfield 9, 3) := by decide +kernel
theorem dX2_init_9 : decode cX2_init 9 = .ok (.aload_n 0, 1) := by decide +kernel
theorem dX2_init_10 : decode cX2_init 10 = .ok (.iconst 0, 1) := by decide +kernel
theorem dX2_init_11 : decode cX2_init 11 = .ok (.putfield 15, 3) := by decide +kernel
theorem dX2_init_14 : decode cX2_init 14 = .ok (.aload_n 0, 1) := by decide +kernel
theorem dX2_init_15 : decode cX2_init 15 = .ok (.bipush 40, 2) := by decide +kernel
theorem dX2_init_17 : decode cX2_init 17 = .ok (.putfield 18, 3) := by decide +kernel
theorem dX2_init_20 : decode cX2_init 20 = .ok (.aload_n 0, 1) := by decide +kernel
theorem dX2_init_21 : decode cX2_init 21 = .ok (.bipush 8, 2) := by decide +kernel
theorem dX2_init_23 : decode cX2_init 23 = .ok (.newarray .int, 2) := by decide +kernel
theorem dX2_init_25 : decode cX2_init 25 = .ok (.putfield 21, 3) := by decide +kernel
theorem dX2_init_28 : decode cX2_init 28 = .ok (.aload_n 0, 1) := by decide +kernel
theorem dX2_init_29 : decode cX2_init 29 = .ok (.bipush 8, 2) := by decide +kernel
theorem dX2_init_31 : decode cX2_init 31 = .ok (.newarray .int, 2) := by decide +kernel
theorem dX2_init_33 : decode cX2_init 33 = .ok (.putfield 25, 3) := by decide +kernel
theorem dX2_init_36 : decode cX2_init 36 = .ok (.aload_n 0, 1) := by decide +kernel
theorem dX2_init_37 : decode cX2_init 37 = .ok (.bipush 7, 2) := by decide +kernel
theorem dX2_init_39 : decode cX2_init 39 = .ok (.newarray .int, 2) := by decide +kernel
theorem dX2_init_41 : decode cX2_init 41 = .ok (.putfield 28, 3) := by decide +kernel
theorem dX2_init_44 : decode cX2_init 44 = .ok (.aload_n 0, 1) := by decide +kernel
theorem dX2_init_45 : decode cX2_init 45 = .ok (.bipush 7, 2) := by decide +kernel
theorem dX2_init_47 : decode cX2_init 47 = .ok (.newarray .int, 2) := by decide +kernel
theorem dX2_init_49 : decode cX2_init 49 = .ok (.putfield 31, 3) := by decide +kernel
theorem dX2_init_52 : decode cX2_init 52 = .ok (.aload_n 0, 1) := by decide +kernel
theorem dX2_init_53 : decode cX2_init 53 = .ok (.new 34, 3) := by decide +kernel
theorem dX2_init_56 : decode cX2_init 56 = .ok (.dup, 1) := by decide +kernel
theorem dX2_init_57 : decode cX2_init 57 = .ok (.invokespecial 36, 3) := by decide +kernel
theorem dX2_init_60 : decode cX2_init 60 = .ok (.putfield 37, 3) := by decide +kernel
theorem dX2_init_63 : decode cX2_init 63 = .ok (.aload_n 0, 1) := by decide +kernel
theorem dX2_init_64 : decode cX2_init 64 = .ok (.new 34, 3) := by decide +kernel
theorem dX2_init_67 : decode cX2_init 67 = .ok (.dup, 1) := by decide +kernel
theorem dX2_init_68 : decode cX2_init 68 = .ok (.invokespecial 36, 3) := by decide +kernel
theorem dX2_init_71 : decode cX2_init 71 = .ok (.putfield 41, 3) := by decide +kernel
theorem dX2_init_74 : decode cX2_init 74 = .ok (.aload_n 0, 1) := by decide +kernel
theorem dX2_init_75 : decode cX2_init 75 = .ok (.bipush 64, 2) := by decide +kernel
theorem dX2_init_77 : decode cX2_init 77 = .ok (.newarray .int, 2) := by decide +kernel
theorem dX2_init_79 : decode cX2_init 79 = .ok (.putfield 44, 3) := by decide +kernel
theorem dX2_init_82 : decode cX2_init 82 = .ok (.return_, 1) := by decide +kernel
theorem dX2_clear_0 : decode cX2_clear 0 = .ok (.aload_n 0, 1) := by decide +kernel
theorem dX2_clear_1 : decode cX2_clear 1 = .ok (.iconst 0, 1) := by decide +kernel
theorem dX2_clear_2 : decode cX2_clear 2 = .ok (.putfield 9, 3) := by decide +kernel
theorem dX2_clear_5 : decode cX2_clear 5 = .ok (.aload_n 0, 1) := by decide +kernel
theorem dX2_clear_6 : decode cX2_clear 6 = .ok (.iconst 0, 1) := by decide +kernel
theorem dX2_clear_7 : decode cX2_clear 7 = .ok (.putfield 15, 3) := by decide +kernel
theorem dX2_clear_10 : decode cX2_clear 10 = .ok (.aload_n 0, 1) := by decide +kernel
theorem dX2_clear_11 : decode cX2_clear 11 = .ok (.bipush 40, 2) := by decide +kernel
theorem dX2_clear_13 : decode cX2_clear 13 = .ok (.putfield 18, 3) := by decide +kernel
theorem dX2_clear_16 : decode cX2_clear 16 = .ok (.aload_n 0, 1) := by decide +kernel
theorem dX2_clear_17 : decode cX2_clear 17 = .ok (.getfield 37, 3) := by decide +kernel
theorem dX2_clear_20 : decode cX2_clear 20 = .ok (.invokevirtual 47, 3) := by decide +kernel
theorem dX2_clear_23 : decode cX2_clear 23 = .ok (.aload_n 0, 1) := by decide +kernel
theorem dX2_clear_24 : decode cX2_clear 24 = .ok (.getfield 41, 3) := by decide +kernel
theorem dX2_clear_27 : decode cX2_clear 27 = .ok (.invokevirtual 47, 3) := by decide +kernel
theorem dX2_clear_30 : decode cX2_clear 30 = .ok (.iconst 0, 1) := by decide +kernel
theorem dX2_clear_31 : decode cX2_clear 31 = .ok (.istore_n 1, 1) := by decide +kernel
theorem dX2_clear_32 : decode cX2_clear 32 = .ok (.iload_n 1, 1) := by decide +kernel
theorem dX2_clear_33 : decode cX2_clear 33 = .ok (.bipush 64, 2) := by decide +kernel
theorem dX2_clear_35 : decode cX2_clear 35 = .ok (.if_icmp .ge 16, 3) := by decide +kernel
theorem dX2_clear_38 : decode cX2_clear 38 = .ok (.aload_n 0, 1) := by decide +kernel
theorem dX2_clear_39 : decode cX2_clear 39 = .ok (.getfield 44, 3) := by decide +kernel
theorem dX2_clear_42 : decode cX2_clear 42 = .ok (.iload_n 1, 1) := by decide +kernel
theorem dX2_clear_43 : decode cX2_clear 43 = .ok (.iconst 0, 1) := by decide +kernel
theorem dX2_clear_44 : decode cX2_clear 44 = .ok (.iastore, 1) := by decide +kernel
theorem dX2_clear_45 : decode cX2_clear 45 = .ok (.iinc 1 1, 3) := by decide +kernel
theorem dX2_clear_48 : decode cX2_clear 48 = .ok (.goto (-16), 3) := by decide +kernel
theorem dX2_clear_51 : decode cX2_clear 51 = .ok (.iconst 0, 1) := by decide +kernel
theorem dX2_clear_52 : decode cX2_clear 52 = .ok (.istore_n 1, 1) := by decide +kernel
theorem dX2_clear_53 : decode cX2_clear 53 = .ok (.iload_n 1, 1) := by decide +kernel
theorem dX2_clear_54 : decode cX2_clear 54 = .ok (.bipush 8, 2) := by decide +kernel
theorem dX2_clear_56 : decode cX2_clear 56 = .ok (.if_icmp .ge 19, 3) := by decide +kernel
theorem dX2_clear_59 : decode cX2_clear 59 = .ok (.aload_n 0, 1) := by decide +kernel
theorem dX2_clear_60 : decode cX2_clear 60 = .ok (.getfield 44, 3) := by decide +kernel
theorem dX2_clear_63 : decode cX2_clear 63 = .ok (.bipush 24, 2) := by decide +kernel
theorem dX2_clear_65 : decode cX2_clear 65 = .ok (.iload_n 1, 1) := by decide +kernel
theorem dX2_clear_66 : decode cX2_clear 66 = .ok (.iadd, 1) := by decide +kernel
theorem dX2_clear_67 : decode cX2_clear 67 = .ok (.iconst (-1), 1) := by decide +kernel
theorem dX2_clear_68 : decode cX2_clear 68 = .ok (.iastore, 1) := by decide +kernel
theorem dX2_clear_69 : decode cX2_clear 69 = .ok (.iinc 1 1, 3) := by decide +kernel
theorem dX2_clear_72 : decode cX2_clear 72 = .ok (.goto (-19), 3) := by decide +kernel
theorem dX2_clear_75 : decode cX2_clear 75 = .ok (.return_, 1) := by decide +kernel
theorem dX2_copyFrom_0 : decode cX2_copyFrom 0 = .ok (.aload_n 0, 1) := by decide +kernel
theorem dX2_copyFrom_1 : decode cX2_copyFrom 1 = .ok (.aload_n 1, 1) := by decide +kernel
theorem dX2_copyFrom_2 : decode cX2_copyFrom 2 = .ok (.getfield 9, 3) := by decide +kernel
theorem dX2_copyFrom_5 : decode cX2_copyFrom 5 = .ok (.putfield 9, 3) := by decide +kernel
theorem dX2_copyFrom_8 : decode cX2_copyFrom 8 = .ok (.aload_n 0, 1) := by decide +kernel
theorem dX2_copyFrom_9 : decode cX2_copyFrom 9 = .ok (.aload_n 1, 1) := by decide +kernel
theorem dX2_copyFrom_10 : decode cX2_copyFrom 10 = .ok (.getfield 15, 3) := by decide +kernel
theorem dX2_copyFrom_13 : decode cX2_copyFrom 13 = .ok (.putfield 15, 3) := by decide +kernel
theorem dX2_copyFrom_16 : decode cX2_copyFrom 16 = .ok (.aload_n 0, 1) := by decide +kernel
theorem dX2_copyFrom_17 : decode cX2_copyFrom 17 = .ok (.aload_n 1, 1) := by decide +kernel
theorem dX2_copyFrom_18 : decode cX2_copyFrom 18 = .ok (.getfield 18, 3) := by decide +kernel
theorem dX2_copyFrom_21 : decode cX2_copyFrom 21 = .ok (.putfield 18, 3) := by decide +kernel
theorem dX2_copyFrom_24 : decode cX2_copyFrom 24 = .ok (.aload_n 1, 1) := by decide +kernel
theorem dX2_copyFrom_25 : decode cX2_copyFrom 25 = .ok (.getfield 21, 3) := by decide +kernel
theorem dX2_copyFrom_28 : decode cX2_copyFrom 28 = .ok (.iconst 0, 1) := by decide +kernel
theorem dX2_copyFrom_29 : decode cX2_copyFrom 29 = .ok (.aload_n 0, 1) := by decide +kernel
theorem dX2_copyFrom_30 : decode cX2_copyFrom 30 = .ok (.getfield 21, 3) := by decide +kernel
theorem dX2_copyFrom_33 : decode cX2_copyFrom 33 = .ok (.iconst 0, 1) := by decide +kernel
theorem dX2_copyFrom_34 : decode cX2_copyFrom 34 = .ok (.bipush 8, 2) := by decide +kernel
theorem dX2_copyFrom_36 : decode cX2_copyFrom 36 = .ok (.invokestatic 50, 3) := by decide +kernel
theorem dX2_copyFrom_39 : decode cX2_copyFrom 39 = .ok (.aload_n 1, 1) := by decide +kernel
theorem dX2_copyFrom_40 : decode cX2_copyFrom 40 = .ok (.getfield 25, 3) := by decide +kernel
theorem dX2_copyFrom_43 : decode cX2_copyFrom 43 = .ok (.iconst 0, 1) := by decide +kernel
theorem dX2_copyFrom_44 : decode cX2_copyFrom 44 = .ok (.aload_n 0, 1) := by decide +kernel
theorem dX2_copyFrom_45 : decode cX2_copyFrom 45 = .ok (.getfield 25, 3) := by decide +kernel
theorem dX2_copyFrom_48 : decode cX2_copyFrom 48 = .ok (.iconst 0, 1) := by decide +kernel
theorem dX2_copyFrom_49 : decode cX2_copyFrom 49 = .ok (.bipush 8, 2) := by decide +kernel
theorem dX2_copyFrom_51 : decode cX2_copyFrom 51 = .ok (.invokestatic 50, 3) := by decide +kernel
theorem dX2_copyFrom_54 : decode cX2_copyFrom 54 = .ok (.aload_n 1, 1) := by decide +kernel
theorem dX2_copyFrom_55 : decode cX2_copyFrom 55 = .ok (.getfield 28, 3) := by decide +kernel
theorem dX2_copyFrom_58 : decode cX2_copyFrom 58 = .ok (.iconst 0, 1) := by decide +kernel
theorem dX2_copyFrom_59 : decode cX2_copyFrom 59 = .ok (.aload_n 0, 1) := by decide +kernel
theorem dX2_copyFrom_60 : decode cX2_copyFrom 60 = .ok (.getfield 28, 3) := by decide +kernel
theorem dX2_copyFrom_63 : decode cX2_copyFrom 63 = .ok (.iconst 0, 1) := by decide +kernel
theorem dX2_copyFrom_64 : decode cX2_copyFrom 64 = .ok (.bipush 7, 2) := by decide +kernel
theorem dX2_copyFrom_66 : decode cX2_copyFrom 66 = .ok (.invokestatic 50, 3) := by decide +kernel
theorem dX2_copyFrom_69 : decode cX2_copyFrom 69 = .ok (.aload_n 1, 1) := by decide +kernel
theorem dX2_copyFrom_70 : decode cX2_copyFrom 70 = .ok (.getfield 31, 3) := by decide +kernel
theorem dX2_copyFrom_73 : decode cX2_copyFrom 73 = .ok (.iconst 0, 1) := by decide +kernel
theorem dX2_copyFrom_74 : decode cX2_copyFrom 74 = .ok (.aload_n 0, 1) := by decide +kernel
theorem dX2_copyFrom_75 : decode cX2_copyFrom 75 = .ok (.getfield 31, 3) := by decide +kernel
theorem dX2_copyFrom_78 : decode cX2_copyFrom 78 = .ok (.iconst 0, 1) := by decide +kernel
theorem dX2_copyFrom_79 : decode cX2_copyFrom 79 = .ok (.bipush 7, 2) := by decide +kernel
theorem dX2_copyFrom_81 : decode cX2_copyFrom 81 = .ok (.invokestatic 50, 3) := by decide +kernel
theorem dX2_copyFrom_84 : decode cX2_copyFrom 84 = .ok (.aload_n 0, 1) := by decide +kernel
theorem dX2_copyFrom_85 : decode cX2_copyFrom 85 = .ok (.getfield 37, 3) := by decide +kernel
theorem dX2_copyFrom_88 : decode cX2_copyFrom 88 = .ok (.aload_n 1, 1) := by decide +kernel
theorem dX2_copyFrom_89 : decode cX2_copyFrom 89 = .ok (.getfield 37, 3) := by decide +kernel
theorem dX2_copyFrom_92 : decode cX2_copyFrom 92 = .ok (.invokevirtual 56, 3) := by decide +kernel
theorem dX2_copyFrom_95 : decode cX2_copyFrom 95 = .ok (.aload_n 0, 1) := by decide +kernel
theorem dX2_copyFrom_96 : decode cX2_copyFrom 96 = .ok (.getfield 41, 3) := by decide +kernel
theorem dX2_copyFrom_99 : decode cX2_copyFrom 99 = .ok (.aload_n 1, 1) := by decide +kernel
theorem dX2_copyFrom_100 : decode cX2_copyFrom 100 = .ok (.getfield 41, 3) := by decide +kernel
theorem dX2_copyFrom_103 : decode cX2_copyFrom 103 = .ok (.invokevirtual 56, 3) := by decide +kernel
theorem dX2_copyFrom_106 : decode cX2_copyFrom 106 = .ok (.aload_n 1, 1) := by decide +kernel
theorem dX2_copyFrom_107 : decode cX2_copyFrom 107 = .ok (.getfield 44, 3) := by decide +kernel
theorem dX2_copyFrom_110 : decode cX2_copyFrom 110 = .ok (.iconst 0, 1) := by decide +kernel
theorem dX2_copyFrom_111 : decode cX2_copyFrom 111 = .ok (.aload_n 0, 1) := by decide +kernel
theorem dX2_copyFrom_112 : decode cX2_copyFrom 112 = .ok (.getfield 44, 3) := by decide +kernel
theorem dX2_copyFrom_115 : decode cX2_copyFrom 115 = .ok (.iconst 0, 1) := by decide +kernel
theorem dX2_copyFrom_116 : decode cX2_copyFrom 116 = .ok (.bipush 64, 2) := by decide +kernel
theorem dX2_copyFrom_118 : decode cX2_copyFrom 118 = .ok (.invokestatic 50, 3) := by decide +kernel
theorem dX2_copyFrom_121 : decode cX2_copyFrom 121 = .ok (.return_, 1) := by decide +kernel
theorem dX3_init_0 : decode cX3_init 0 = .ok (.aload_n 0, 1) := by decide +kernel
theorem dX3_init_1 : decode cX3_init 1 = .ok (.invokespecial 3, 3) := by decide +kernel
theorem dX3_init_4 : decode cX3_init 4 = .ok (.aload_n 0, 1) := by decide +kernel
theorem dX3_init_5 : decode cX3_init 5 = .ok (.new 9, 3) := by decide +kernel
theorem dX3_init_8 : decode cX3_init 8 = .ok (.dup, 1) := by decide +kernel
theorem dX3_init_9 : decode cX3_init 9 = .ok (.invokespecial 11, 3) := by decide +kernel
theorem dX3_init_12 : decode cX3_init 12 = .ok (.putfield 12, 3) := by decide +kernel
theorem dX3_init_15 : decode cX3_init 15 = .ok (.aload_n 0, 1) := by decide +kernel
theorem dX3_init_16 : decode cX3_init 16 = .ok (.aload_n 0, 1) := by decide +kernel
theorem dX3_init_17 : decode cX3_init 17 = .ok (.getfield 12, 3) := by decide +kernel
theorem dX3_init_20 : decode cX3_init 20 = .ok (.getfield 18, 3) := by decide +kernel
theorem dX3_init_23 : decode cX3_init 23 = .ok (.putfield 22, 3) := by decide +kernel
theorem dX3_init_26 : decode cX3_init 26 = .ok (.aload_n 0, 1) := by decide +kernel
theorem dX3_init_27 : decode cX3_init 27 = .ok (.new 23, 3) := by decide +kernel
theorem dX3_init_30 : decode cX3_init 30 = .ok (.dup, 1) := by decide +kernel
theorem dX3_init_31 : decode cX3_init 31 = .ok (.invokespecial 25, 3) := by decide +kernel
theorem dX3_init_34 : decode cX3_init 34 = .ok (.putfield 26, 3) := by decide +kernel
theorem dX3_init_37 : decode cX3_init 37 = .ok (.aload_n 0, 1) := by decide +kernel
theorem dX3_init_38 : decode cX3_init 38 = .ok (.iconst 4, 1) := by decide +kernel
theorem dX3_init_39 : decode cX3_init 39 = .ok (.newarray .int, 2) := by decide +kernel
theorem dX3_init_41 : decode cX3_init 41 = .ok (.putfield 30, 3) := by decide +kernel
theorem dX3_init_44 : decode cX3_init 44 = .ok (.aload_n 0, 1) := by decide +kernel
theorem dX3_init_45 : decode cX3_init 45 = .ok (.iconst 0, 1) := by decide +kernel
theorem dX3_init_46 : decode cX3_init 46 = .ok (.putfield 34, 3) := by decide +kernel
theorem dX3_init_49 : decode cX3_init 49 = .ok (.return_, 1) := by decide +kernel
theorem dX3_read_0 : decode cX3_read 0 = .ok (.aload_n 0, 1) := by decide +kernel
theorem dX3_read_1 : decode cX3_read 1 = .ok (.getfield 26, 3) := by decide +kernel
theorem dX3_read_4 : decode cX3_read 4 = .ok (.invokevirtual 38, 3) := by decide +kernel
theorem dX3_read_7 : decode cX3_read 7 = .ok (.aload_n 0, 1) := by decide +kernel
theorem dX3_read_8 : decode cX3_read 8 = .ok (.iconst 0, 1) := by decide +kernel
theorem dX3_read_9 : decode cX3_read 9 = .ok (.putfield 34, 3) := by decide +kernel
theorem dX3_read_12 : decode cX3_read 12 = .ok (.iconst 0, 1) := by decide +kernel
theorem dX3_read_13 : decode cX3_read 13 = .ok (.istore_n 1, 1) := by decide +kernel
theorem dX3_read_14 : decode cX3_read 14 = .ok (.aload_n 0, 1) := by decide +kernel
theorem dX3_read_15 : decode cX3_read 15 = .ok (.getfield 22, 3) := by decide +kernel
theorem dX3_read_18 : decode cX3_read 18 = .ok (.invokevirtual 41, 3) := by decide +kernel
theorem dX3_read_21 : decode cX3_read 21 = .ok (.iconst 0, 1) := by decide +kernel
theorem dX3_read_22 : decode cX3_read 22 = .ok (.istore_n 2, 1) := by decide +kernel
theorem dX3_read_23 : decode cX3_read 23 = .ok (.iload_n 2, 1) := by decide +kernel
theorem dX3_read_24 : decode cX3_read 24 = .ok (.sipush 700, 3) := by decide +kernel
theorem dX3_read_27 : decode cX3_read 27 = .ok (.if_icmp .gt 57, 3) := by decide +kernel
theorem dX3_read_30 : decode cX3_read 30 = .ok (.iload_n 1, 1) := by decide +kernel
theorem dX3_read_31 : decode cX3_read 31 = .ok (.ifCond .ne 53, 3) := by decide +kernel
theorem dX3_read_34 : decode cX3_read 34 = .ok (.aload_n 0, 1) := by decide +kernel
theorem dX3_read_35 : decode cX3_read 35 = .ok (.getfield 22, 3) := by decide +kernel
theorem dX3_read_38 : decode cX3_read 38 = .ok (.getfield 46, 3) := by decide +kernel
theorem dX3_read_41 : decode cX3_read 41 = .ok (.ifCond .eq 43, 3) := by decide +kernel
theorem dX3_read_44 : decode cX3_read 44 = .ok (.aload_n 0, 1) := by decide +kernel
theorem dX3_read_45 : decode cX3_read 45 = .ok (.invokevirtual 50, 3) := by decide +kernel
theorem dX3_read_48 : decode cX3_read 48 = .ok (.istore_n 1, 1) := by decide +kernel
theorem dX3_read_49 : decode cX3_read 49 = .ok (.iload_n 1, 1) := by decide +kernel
theorem dX3_read_50 : decode cX3_read 50 = .ok (.ifCond .ne 17, 3) := by decide +kernel
theorem dX3_read_53 : decode cX3_read 53 = .ok (.aload_n 0, 1) := by decide +kernel
theorem dX3_read_54 : decode cX3_read 54 = .ok (.getfield 22, 3) := by decide +kernel
theorem dX3_read_57 : decode cX3_read 57 = .ok (.getfield 46, 3) := by decide +kernel
theorem dX3_read_60 : decode cX3_read 60 = .ok (.bipush 59, 2) := by decide +kernel
theorem dX3_read_62 : decode cX3_read 62 = .ok (.if_icmp .eq 5, 3) := by decide +kernel
theorem dX3_read_65 : decode cX3_read 65 = .ok (.iconst 1, 1) := by decide +kernel
theorem dX3_read_66 : decode cX3_read 66 = .ok (.istore_n 1, 1) := by decide +kernel
theorem dX3_read_67 : decode cX3_read 67 = .ok (.iload_n 1, 1) := by decide +kernel
theorem dX3_read_68 : decode cX3_read 68 = .ok (.ifCond .ne 10, 3) := by decide +kernel
theorem dX3_read_71 : decode cX3_read 71 = .ok (.aload_n 0, 1) := by decide +kernel
theorem dX3_read_72 : decode cX3_read 72 = .ok (.getfield 22, 3) := by decide +kernel
theorem dX3_read_75 : decode cX3_read 75 = .ok (.invokevirtual 41, 3) := by decide +kernel
theorem dX3_read_78 : decode cX3_read 78 = .ok (.iinc 2 1, 3) := by decide +kernel
theorem dX3_read_81 : decode cX3_read 81 = .ok (.goto (-58), 3) := by decide +kernel
theorem dX3_read_84 : decode cX3_read 84 = .ok (.iload_n 1, 1) := by decide +kernel
theorem dX3_read_85 : decode cX3_read 85 = .ok (.ireturn, 1) := by decide +kernel
theorem dX3_readLine_0 : decode cX3_readLine 0 = .ok (.aload_n 0, 1) := by decide +kernel
theorem dX3_readLine_1 : decode cX3_readLine 1 = .ok (.getfield 22, 3) := by decide +kernel
theorem dX3_readLine_4 : decode cX3_readLine 4 = .ok (.ldc 54, 2) := by decide +kernel
theorem dX3_readLine_6 : decode cX3_readLine 6 = .ok (.invokevirtual 56, 3) := by decide +kernel
theorem dX3_readLine_9 : decode cX3_readLine 9 = .ok (.ifCond .ne 15, 3) := by decide +kernel
theorem dX3_readLine_12 : decode cX3_readLine 12 = .ok (.aload_n 0, 1) := by decide +kernel
theorem dX3_readLine_13 : decode cX3_readLine 13 = .ok (.getfield 22, 3) := by decide +kernel
theorem dX3_readLine_16 : decode cX3_readLine 16 = .ok (.ldc 60, 2) := by decide +kernel
theorem dX3_readLine_18 : decode cX3_readLine 18 = .ok (.invokevirtual 56, 3) := by decide +kernel
theorem dX3_readLine_21 : decode cX3_readLine 21 = .ok (.ifCond .eq 8, 3) := by decide +kernel
theorem dX3_readLine_24 : decode cX3_readLine 24 = .ok (.aload_n 0, 1) := by decide +kernel
theorem dX3_readLine_25 : decode cX3_readLine 25 = .ok (.invokevirtual 62, 3) := by decide +kernel
theorem dX3_readLine_28 : decode cX3_readLine 28 = .ok (.ireturn, 1) := by decide +kernel
theorem dX3_readLine_29 : decode cX3_readLine 29 = .ok (.aload_n 0, 1) := by decide +kernel
theorem dX3_readLine_30 : decode cX3_readLine 30 = .ok (.getfield 22, 3) := by decide +kernel
theorem dX3_readLine_33 : decode cX3_readLine 33 = .ok (.ldc 65, 2) := by decide +kernel
theorem dX3_readLine_35 : decode cX3_readLine 35 = .ok (.invokevirtual 56, 3) := by decide +kernel
theorem dX3_readLine_38 : decode cX3_readLine 38 = .ok (.ifCond .ne 15, 3) := by decide +kernel
theorem dX3_readLine_41 : decode cX3_readLine 41 = .ok (.aload_n 0, 1) := by decide +kernel
theorem dX3_readLine_42 : decode cX3_readLine 42 = .ok (.getfield 22, 3) := by decide +kernel
theorem dX3_readLine_45 : decode cX3_readLine 45 = .ok (.ldc 67, 2) := by decide +kernel
theorem dX3_readLine_47 : decode cX3_readLine 47 = .ok (.invokevirtual 56, 3) := by decide +kernel
theorem dX3_readLine_50 : decode cX3_readLine 50 = .ok (.ifCond .eq 8, 3) := by decide +kernel
theorem dX3_readLine_53 : decode cX3_readLine 53 = .ok (.aload_n 0, 1) := by decide +kernel
theorem dX3_readLine_54 : decode cX3_readLine 54 = .ok (.invokevirtual 69, 3) := by decide +kernel
theorem dX3_readLine_57 : decode cX3_readLine 57 = .ok (.ireturn, 1) := by decide +kernel
theorem dX3_readLine_58 : decode cX3_readLine 58 = .ok (.aload_n 0, 1) := by decide +kernel
theorem dX3_readLine_59 : decode cX3_readLine 59 = .ok (.getfield 22, 3) := by decide +kernel
theorem dX3_readLine_62 : decode cX3_readLine 62 = .ok (.ldc 72, 2) := by decide +kernel
theorem dX3_readLine_64 : decode cX3_readLine 64 = .ok (.invokevirtual 56, 3) := by decide +kernel
theorem dX3_readLine_67 : decode cX3_readLine 67 = .ok (.ifCond .eq 8, 3) := by decide +kernel
theorem dX3_readLine_70 : decode cX3_readLine 70 = .ok (.aload_n 0, 1) := by decide +kernel
theorem dX3_readLine_71 : decode cX3_readLine 71 = .ok (.invokevirtual 74, 3) := by decide +kernel
theorem dX3_readLine_74 : decode cX3_readLine 74 = .ok (.ireturn, 1) := by decide +kernel
theorem dX3_readLine_75 : decode cX3_readLine 75 = .ok (.aload_n 0, 1) := by decide +kernel
theorem dX3_readLine_76 : decode cX3_readLine 76 = .ok (.getfield 22, 3) := by decide +kernel
theorem dX3_readLine_79 : decode cX3_readLine 79 = .ok (.ldc 77, 2) := by decide +kernel
theorem dX3_readLine_81 : decode cX3_readLine 81 = .ok (.invokevirtual 56, 3) := by decide +kernel
theorem dX3_readLine_84 : decode cX3_readLine 84 = .ok (.ifCond .eq 19, 3) := by decide +kernel
theorem dX3_readLine_87 : decode cX3_readLine 87 = .ok (.aload_n 0, 1) := by decide +kernel
theorem dX3_readLine_88 : decode cX3_readLine 88 = .ok (.getfield 12, 3) := by decide +kernel
theorem dX3_readLine_91 : decode cX3_readLine 91 = .ok (.aload_n 0, 1) := by decide +kernel
theorem dX3_readLine_92 : decode cX3_readLine 92 = .ok (.getfield 26, 3) := by decide +kernel
theorem dX3_readLine_95 : decode cX3_readLine 95 = .ok (.getfield 79, 3) := by decide +kernel
theorem dX3_readLine_98 : decode cX3_readLine 98 = .ok (.iconst 1, 1) := by decide +kernel
theorem dX3_readLine_99 : decode cX3_readLine 99 = .ok (.invokevirtual 82, 3) := by decide +kernel
theorem dX3_readLine_102 : decode cX3_readLine 102 = .ok (.ireturn, 1) := by decide +kernel
theorem dX3_readLine_103 : decode cX3_readLine 103 = .ok (.aload_n 0, 1) := by decide +kernel
theorem dX3_readLine_104 : decode cX3_readLine 104 = .ok (.getfield 22, 3) := by decide +kernel
theorem dX3_readLine_107 : decode cX3_readLine 107 = .ok (.ldc 86, 2) := by decide +kernel
theorem dX3_readLine_109 : decode cX3_readLine 109 = .ok (.invokevirtual 56, 3) := by decide +kernel
theorem dX3_readLine_112 : decode cX3_readLine 112 = .ok (.ifCond .eq 19, 3) := by decide +kernel
theorem dX3_readLine_115 : decode cX3_readLine 115 = .ok (.aload_n 0, 1) := by decide +kernel
theorem dX3_readLine_116 : decode cX3_readLine 116 = .ok (.getfield 12, 3) := by decide +kernel
theorem dX3_readLine_119 : decode cX3_readLine 119 = .ok (.aload_n 0, 1) := by decide +kernel
theorem dX3_readLine_120 : decode cX3_readLine 120 = .ok (.getfield 26, 3) := by decide +kernel
theorem dX3_readLine_123 : decode cX3_readLine 123 = .ok (.getfield 88, 3) := by decide +kernel
theorem dX3_readLine_126 : decode cX3_readLine 126 = .ok (.iconst 0, 1) := by decide +kernel
theorem dX3_readLine_127 : decode cX3_readLine 127 = .ok (.invokevirtual 82, 3) := by decide +kernel
theorem dX3_readLine_130 : decode cX3_readLine 130 = .ok (.ireturn, 1) := by decide +kernel
theorem dX3_readLine_131 : decode cX3_readLine 131 = .ok (.iconst 1, 1) := by decide +kernel
theorem dX3_readLine_132 : decode cX3_readLine 132 = .ok (.ireturn, 1) := by decide +kernel
theorem dX3_readHouse_0 : decode cX3_readHouse 0 = .ok (.aload_n 0, 1) := by decide +kernel
theorem dX3_readHouse_1 : decode cX3_readHouse 1 = .ok (.getfield 26, 3) := by decide +kernel
theorem dX3_readHouse_4 : decode cX3_readHouse 4 = .ok (.getfield 90, 3) := by decide +kernel
theorem dX3_readHouse_7 : decode cX3_readHouse 7 = .ok (.istore_n 1, 1) := by decide +kernel
theorem dX3_readHouse_8 : decode cX3_readHouse 8 = .ok (.iload_n 1, 1) := by decide +kernel
theorem dX3_readHouse_9 : decode cX3_readHouse 9 = .ok (.bipush 8, 2) := by decide +kernel
theorem dX3_readHouse_11 : decode cX3_readHouse 11 = .ok (.if_icmp .lt 5, 3) := by decide +kernel
theorem dX3_readHouse_14 : decode cX3_readHouse 14 = .ok (.iconst 2, 1) := by decide +kernel
theorem dX3_readHouse_15 : decode cX3_readHouse 15 = .ok (.ireturn, 1) := by decide +kernel
theorem dX3_readHouse_16 : decode cX3_readHouse 16 = .ok (.aload_n 0, 1) := by decide +kernel
theorem dX3_readHouse_17 : decode cX3_readHouse 17 = .ok (.getfield 26, 3) := by decide +kernel
theorem dX3_readHouse_20 : decode cX3_readHouse 20 = .ok (.dup, 1) := by decide +kernel
theorem dX3_readHouse_21 : decode cX3_readHouse 21 = .ok (.getfield 90, 3) := by decide +kernel
theorem dX3_readHouse_24 : decode cX3_readHouse 24 = .ok (.iconst 1, 1) := by decide +kernel
theorem dX3_readHouse_25 : decode cX3_readHouse 25 = .ok (.iadd, 1) := by decide +kernel
theorem dX3_readHouse_26 : decode cX3_readHouse 26 = .ok (.putfield 90, 3) := by decide +kernel
theorem dX3_readHouse_29 : decode cX3_readHouse 29 = .ok (.aload_n 0, 1) := by decide +kernel
theorem dX3_readHouse_30 : decode cX3_readHouse 30 = .ok (.getfield 26, 3) := by decide +kernel
theorem dX3_readHouse_33 : decode cX3_readHouse 33 = .ok (.getfield 93, 3) := by decide +kernel
theorem dX3_readHouse_36 : decode cX3_readHouse 36 = .ok (.iload_n 1, 1) := by decide +kernel
theorem dX3_readHouse_37 : decode cX3_readHouse 37 = .ok (.aload_n 0, 1) := by decide +kernel
theorem dX3_readHouse_38 : decode cX3_readHouse 38 = .ok (.getfield 22, 3) := by decide +kernel
theorem dX3_readHouse_41 : decode cX3_readHouse 41 = .ok (.ldc 60, 2) := by decide +kernel
theorem dX3_readHouse_43 : decode cX3_readHouse 43 = .ok (.invokevirtual 56, 3) := by decide +kernel
theorem dX3_readHouse_46 : decode cX3_readHouse 46 = .ok (.ifCond .eq 7, 3) := by decide +kernel
theorem dX3_readHouse_49 : decode cX3_readHouse 49 = .ok (.iconst 1, 1) := by decide +kernel
theorem dX3_readHouse_50 : decode cX3_readHouse 50 = .ok (.goto 4, 3) := by decide +kernel
theorem dX3_readHouse_53 : decode cX3_readHouse 53 = .ok (.iconst 0, 1) := by decide +kernel
theorem dX3_readHouse_54 : decode cX3_readHouse 54 = .ok (.iastore, 1) := by decide +kernel
theorem dX3_readHouse_55 : decode cX3_readHouse 55 = .ok (.aload_n 0, 1) := by decide +kernel
theorem dX3_readHouse_56 : decode cX3_readHouse 56 = .ok (.iconst 0, 1) := by decide +kernel
theorem dX3_readHouse_57 : decode cX3_readHouse 57 = .ok (.getstatic 95, 3) := by decide +kernel
theorem dX3_readHouse_60 : decode cX3_readHouse 60 = .ok (.invokevirtual 98, 3) := by decide +kernel
theorem dX3_readHouse_63 : decode cX3_readHouse 63 = .ok (.istore_n 2, 1) := by decide +kernel
theorem dX3_readHouse_64 : decode cX3_readHouse 64 = .ok (.aload_n 0, 1) := by decide +kernel
theorem dX3_readHouse_65 : decode cX3_readHouse 65 = .ok (.getfield 26, 3) := by decide +kernel
theorem dX3_readHouse_68 : decode cX3_readHouse 68 = .ok (.getfield 102, 3) := by decide +kernel
theorem dX3_readHouse_71 : decode cX3_readHouse 71 = .ok (.iload_n 1, 1) := by decide +kernel
theorem dX3_readHouse_72 : decode cX3_readHouse 72 = .ok (.aload_n 0, 1) := by decide +kernel
theorem dX3_readHouse_73 : decode cX3_readHouse 73 = .ok (.getfield 30, 3) := by decide +kernel
theorem dX3_readHouse_76 : decode cX3_readHouse 76 = .ok (.iconst 0, 1) := by decide +kernel
theorem dX3_readHouse_77 : decode cX3_readHouse 77 = .ok (.iaload, 1) := by decide +kernel
theorem dX3_readHouse_78 : decode cX3_readHouse 78 = .ok (.iastore, 1) := by decide +kernel
theorem dX3_readHouse_79 : decode cX3_readHouse 79 = .ok (.aload_n 0, 1) := by decide +kernel
theorem dX3_readHouse_80 : decode cX3_readHouse 80 = .ok (.getfield 26, 3) := by decide +kernel
theorem dX3_readHouse_83 : decode cX3_readHouse 83 = .ok (.getfield 105, 3) := by decide +kernel
theorem dX3_readHouse_86 : decode cX3_readHouse 86 = .ok (.iconst 0, 1) := by decide +kernel
theorem dX3_readHouse_87 : decode cX3_readHouse 87 = .ok (.iload_n 1, 1) := by decide +kernel
theorem dX3_readHouse_88 : decode cX3_readHouse 88 = .ok (.iadd, 1) := by decide +kernel
theorem dX3_readHouse_89 : decode cX3_readHouse 89 = .ok (.aload_n 0, 1) := by decide +kernel
theorem dX3_readHouse_90 : decode cX3_readHouse 90 = .ok (.getfield 30, 3) := by decide +kernel
theorem dX3_readHouse_93 : decode cX3_readHouse 93 = .ok (.iconst 1, 1) := by decide +kernel
theorem dX3_readHouse_94 : decode cX3_readHouse 94 = .ok (.iaload, 1) := by decide +kernel
theorem dX3_readHouse_95 : decode cX3_readHouse 95 = .ok (.iastore, 1) := by decide +kernel
theorem dX3_readHouse_96 : decode cX3_readHouse 96 = .ok (.aload_n 0, 1) := by decide +kernel
theorem dX3_readHouse_97 : decode cX3_readHouse 97 = .ok (.getfield 26, 3) := by decide +kernel
theorem dX3_readHouse_100 : decode cX3_readHouse 100 = .ok (.getfield 105, 3) := by decide +kernel
theorem dX3_readHouse_103 : decode cX3_readHouse 103 = .ok (.bipush 8, 2) := by decide +kernel
theorem dX3_readHouse_105 : decode cX3_readHouse 105 = .ok (.iload_n 1, 1) := by decide +kernel
theorem dX3_readHouse_106 : decode cX3_readHouse 106 = .ok (.iadd, 1) := by decide +kernel
theorem dX3_readHouse_107 : decode cX3_readHouse 107 = .ok (.aload_n 0, 1) := by decide +kernel
theorem dX3_readHouse_108 : decode cX3_readHouse 108 = .ok (.getfield 30, 3) := by decide +kernel
theorem dX3_readHouse_111 : decode cX3_readHouse 111 = .ok (.iconst 2, 1) := by decide +kernel
theorem dX3_readHouse_112 : decode cX3_readHouse 112 = .ok (.iaload, 1) := by decide +kernel
theorem dX3_readHouse_113 : decode cX3_readHouse 113 = .ok (.iastore, 1) := by decide +kernel
theorem dX3_readHouse_114 : decode cX3_readHouse 114 = .ok (.aload_n 0, 1) := by decide +kernel
theorem dX3_readHouse_115 : decode cX3_readHouse 115 = .ok (.getfield 26, 3) := by decide +kernel
theorem dX3_readHouse_118 : decode cX3_readHouse 118 = .ok (.getfield 105, 3) := by decide +kernel
theorem dX3_readHouse_121 : decode cX3_readHouse 121 = .ok (.bipush 16, 2) := by decide +kernel
theorem dX3_readHouse_123 : decode cX3_readHouse 123 = .ok (.iload_n 1, 1) := by decide +kernel
theorem dX3_readHouse_124 : decode cX3_readHouse 124 = .ok (.iadd, 1) := by decide +kernel
theorem dX3_readHouse_125 : decode cX3_readHouse 125 = .ok (.aload_n 0, 1) := by decide +kernel
theorem dX3_readHouse_126 : decode cX3_readHouse 126 = .ok (.getfield 30, 3) := by decide +kernel
theorem dX3_readHouse_129 : decode cX3_readHouse 129 = .ok (.iconst 3, 1) := by decide +kernel
theorem dX3_readHouse_130 : decode cX3_readHouse 130 = .ok (.iaload, 1) := by decide +kernel
theorem dX3_readHouse_131 : decode cX3_readHouse 131 = .ok (.iastore, 1) := by decide +kernel
theorem dX3_readHouse_132 : decode cX3_readHouse 132 = .ok (.iload_n 2, 1) := by decide +kernel
theorem dX3_readHouse_133 : decode cX3_readHouse 133 = .ok (.ireturn, 1) := by decide +kernel
theorem dX3_readTenant_0 : decode cX3_readTenant 0 = .ok (.aload_n 0, 1) := by decide +kernel
theorem dX3_readTenant_1 : decode cX3_readTenant 1 = .ok (.getfield 26, 3) := by decide +kernel
theorem dX3_readTenant_4 : decode cX3_readTenant 4 = .ok (.getfield 108, 3) := by decide +kernel
theorem dX3_readTenant_7 : decode cX3_readTenant 7 = .ok (.istore_n 1, 1) := by decide +kernel
theorem dX3_readTenant_8 : decode cX3_readTenant 8 = .ok (.iload_n 1, 1) := by decide +kernel
theorem dX3_readTenant_9 : decode cX3_readTenant 9 = .ok (.bipush 7, 2) := by decide +kernel
theorem dX3_readTenant_11 : decode cX3_readTenant 11 = .ok (.if_icmp .lt 5, 3) := by decide +kernel
theorem dX3_readTenant_14 : decode cX3_readTenant 14 = .ok (.iconst 2, 1) := by decide +kernel
theorem dX3_readTenant_15 : decode cX3_readTenant 15 = .ok (.ireturn, 1) := by decide +kernel
theorem dX3_readTenant_16 : decode cX3_readTenant 16 = .ok (.aload_n 0, 1) := by decide +kernel
theorem dX3_readTenant_17 : decode cX3_readTenant 17 = .ok (.getfield 26, 3) := by decide +kernel
theorem dX3_readTenant_20 : decode cX3_readTenant 20 = .ok (.dup, 1) := by decide +kernel
theorem dX3_readTenant_21 : decode cX3_readTenant 21 = .ok (.getfield 108, 3) := by decide +kernel
theorem dX3_readTenant_24 : decode cX3_readTenant 24 = .ok (.iconst 1, 1) := by decide +kernel
theorem dX3_readTenant_25 : decode cX3_readTenant 25 = .ok (.iadd, 1) := by decide +kernel
theorem dX3_readTenant_26 : decode cX3_readTenant 26 = .ok (.putfield 108, 3) := by decide +kernel
theorem dX3_readTenant_29 : decode cX3_readTenant 29 = .ok (.aload_n 0, 1) := by decide +kernel
theorem dX3_readTenant_30 : decode cX3_readTenant 30 = .ok (.getfield 26, 3) := by decide +kernel
theorem dX3_readTenant_33 : decode cX3_readTenant 33 = .ok (.getfield 111, 3) := by decide +kernel
theorem dX3_readTenant_36 : decode cX3_readTenant 36 = .ok (.iload_n 1, 1) := by decide +kernel
theorem dX3_readTenant_37 : decode cX3_readTenant 37 = .ok (.aload_n 0, 1) := by decide +kernel
theorem dX3_readTenant_38 : decode cX3_readTenant 38 = .ok (.getfield 22, 3) := by decide +kernel
theorem dX3_readTenant_41 : decode cX3_readTenant 41 = .ok (.ldc 67, 2) := by decide +kernel
theorem dX3_readTenant_43 : decode cX3_readTenant 43 = .ok (.invokevirtual 56, 3) := by decide +kernel
theorem dX3_readTenant_46 : decode cX3_readTenant 46 = .ok (.ifCond .eq 7, 3) := by decide +kernel
theorem dX3_readTenant_49 : decode cX3_readTenant 49 = .ok (.iconst 1, 1) := by decide +kernel
theorem dX3_readTenant_50 : decode cX3_readTenant 50 = .ok (.goto 4, 3) := by decide +kernel
theorem dX3_readTenant_53 : decode cX3_readTenant 53 = .ok (.iconst 0, 1) := by decide +kernel
theorem dX3_readTenant_54 : decode cX3_readTenant 54 = .ok (.iastore, 1) := by decide +kernel
theorem dX3_readTenant_55 : decode cX3_readTenant 55 = .ok (.aload_n 0, 1) := by decide +kernel
theorem dX3_readTenant_56 : decode cX3_readTenant 56 = .ok (.iconst 0, 1) := by decide +kernel
theorem dX3_readTenant_57 : decode cX3_readTenant 57 = .ok (.getstatic 113, 3) := by decide +kernel
theorem dX3_readTenant_60 : decode cX3_readTenant 60 = .ok (.invokevirtual 98, 3) := by decide +kernel
theorem dX3_readTenant_63 : decode cX3_readTenant 63 = .ok (.istore_n 2, 1) := by decide +kernel
theorem dX3_readTenant_64 : decode cX3_readTenant 64 = .ok (.aload_n 0, 1) := by decide +kernel
theorem dX3_readTenant_65 : decode cX3_readTenant 65 = .ok (.getfield 26, 3) := by decide +kernel
theorem dX3_readTenant_68 : decode cX3_readTenant 68 = .ok (.getfield 105, 3) := by decide +kernel
theorem dX3_readTenant_71 : decode cX3_readTenant 71 = .ok (.bipush 40, 2) := by decide +kernel
theorem dX3_readTenant_73 : decode cX3_readTenant 73 = .ok (.iload_n 1, 1) := by decide +kernel
theorem dX3_readTenant_74 : decode cX3_readTenant 74 = .ok (.iadd, 1) := by decide +kernel
theorem dX3_readTenant_75 : decode cX3_readTenant 75 = .ok (.aload_n 0, 1) := by decide +kernel
theorem dX3_readTenant_76 : decode cX3_readTenant 76 = .ok (.getfield 30, 3) := by decide +kernel
theorem dX3_readTenant_79 : decode cX3_readTenant 79 = .ok (.iconst 0, 1) := by decide +kernel
theorem dX3_readTenant_80 : decode cX3_readTenant 80 = .ok (.iaload, 1) := by decide +kernel
theorem dX3_readTenant_81 : decode cX3_readTenant 81 = .ok (.iastore, 1) := by decide +kernel
theorem dX3_readTenant_82 : decode cX3_readTenant 82 = .ok (.aload_n 0, 1) := by decide +kernel
theorem dX3_readTenant_83 : decode cX3_readTenant 83 = .ok (.getfield 26, 3) := by decide +kernel
theorem dX3_readTenant_86 : decode cX3_readTenant 86 = .ok (.getfield 116, 3) := by decide +kernel
theorem dX3_readTenant_89 : decode cX3_readTenant 89 = .ok (.iload_n 1, 1) := by decide +kernel
theorem dX3_readTenant_90 : decode cX3_readTenant 90 = .ok (.aload_n 0, 1) := by decide +kernel
theorem dX3_readTenant_91 : decode cX3_readTenant 91 = .ok (.getfield 30, 3) := by decide +kernel
theorem dX3_readTenant_94 : decode cX3_readTenant 94 = .ok (.iconst 1, 1) := by decide +kernel
theorem dX3_readTenant_95 : decode cX3_readTenant 95 = .ok (.iaload, 1) := by decide +kernel
theorem dX3_readTenant_96 : decode cX3_readTenant 96 = .ok (.iastore, 1) := by decide +kernel
theorem dX3_readTenant_97 : decode cX3_readTenant 97 = .ok (.aload_n 0, 1) := by decide +kernel
theorem dX3_readTenant_98 : decode cX3_readTenant 98 = .ok (.getfield 26, 3) := by decide +kernel
theorem dX3_readTenant_101 : decode cX3_readTenant 101 = .ok (.getfield 105, 3) := by decide +kernel
theorem dX3_readTenant_104 : decode cX3_readTenant 104 = .ok (.bipush 47, 2) := by decide +kernel
theorem dX3_readTenant_106 : decode cX3_readTenant 106 = .ok (.iload_n 1, 1) := by decide +kernel
theorem dX3_readTenant_107 : decode cX3_readTenant 107 = .ok (.iadd, 1) := by decide +kernel
theorem dX3_readTenant_108 : decode cX3_readTenant 108 = .ok (.aload_n 0, 1) := by decide +kernel
theorem dX3_readTenant_109 : decode cX3_readTenant 109 = .ok (.getfield 30, 3) := by decide +kernel
theorem dX3_readTenant_112 : decode cX3_readTenant 112 = .ok (.iconst 2, 1) := by decide +kernel
theorem dX3_readTenant_113 : decode cX3_readTenant 113 = .ok (.iaload, 1) := by decide +kernel
theorem dX3_readTenant_114 : decode cX3_readTenant 114 = .ok (.iastore, 1) := by decide +kernel
theorem dX3_readTenant_115 : decode cX3_readTenant 115 = .ok (.aload_n 0, 1) := by decide +kernel
theorem dX3_readTenant_116 : decode cX3_readTenant 116 = .ok (.getfield 26, 3) := by decide +kernel
theorem dX3_readTenant_119 : decode cX3_readTenant 119 = .ok (.getfield 105, 3) := by decide +kernel
theorem dX3_readTenant_122 : decode cX3_readTenant 122 = .ok (.bipush 54, 2) := by decide +kernel
theorem dX3_readTenant_124 : decode cX3_readTenant 124 = .ok (.iload_n 1, 1) := by decide +kernel
theorem dX3_readTenant_125 : decode cX3_readTenant 125 = .ok (.iadd, 1) := by decide +kernel
theorem dX3_readTenant_126 : decode cX3_readTenant 126 = .ok (.aload_n 0, 1) := by decide +kernel
theorem dX3_readTenant_127 : decode cX3_readTenant 127 = .ok (.getfield 30, 3) := by decide +kernel
theorem dX3_readTenant_130 : decode cX3_readTenant 130 = .ok (.iconst 3, 1) := by decide +kernel
theorem dX3_readTenant_131 : decode cX3_readTenant 131 = .ok (.iaload, 1) := by decide +kernel
theorem dX3_readTenant_132 : decode cX3_readTenant 132 = .ok (.iastore, 1) := by decide +kernel
theorem dX3_readTenant_133 : decode cX3_readTenant 133 = .ok (.iload_n 2, 1) := by decide +kernel
theorem dX3_readTenant_134 : decode cX3_readTenant 134 = .ok (.ireturn, 1) := by decide +kernel
theorem dX3_readLife_0 : decode cX3_readLife 0 = .ok (.aload_n 0, 1) := by decide +kernel
theorem dX3_readLife_1 : decode cX3_readLife 1 = .ok (.getfield 34, 3) := by decide +kernel
theorem dX3_readLife_4 : decode cX3_readLife 4 = .ok (.ifCond .eq 5, 3) := by decide +kernel
theorem dX3_readLife_7 : decode cX3_readLife 7 = .ok (.iconst 5, 1) := by decide +kernel
theorem dX3_readLife_8 : decode cX3_readLife 8 = .ok (.ireturn, 1) := by decide +kernel
theorem dX3_readLife_9 : decode cX3_readLife 9 = .ok (.aload_n 0, 1) := by decide +kernel
theorem dX3_readLife_10 : decode cX3_readLife 10 = .ok (.iconst 1, 1) := by decide +kernel
theorem dX3_readLife_11 : decode cX3_readLife 11 = .ok (.putfield 34, 3) := by decide +kernel
theorem dX3_readLife_14 : decode cX3_readLife 14 = .ok (.aload_n 0, 1) := by decide +kernel
theorem dX3_readLife_15 : decode cX3_readLife 15 = .ok (.iconst 1, 1) := by decide +kernel
theorem dX3_readLife_16 : decode cX3_readLife 16 = .ok (.getstatic 119, 3) := by decide +kernel
theorem dX3_readLife_19 : decode cX3_readLife 19 = .ok (.invokevirtual 98, 3) := by decide +kernel
theorem dX3_readLife_22 : decode cX3_readLife 22 = .ok (.istore_n 1, 1) := by decide +kernel
theorem dX3_readLife_23 : decode cX3_readLife 23 = .ok (.aload_n 0, 1) := by decide +kernel
theorem dX3_readLife_24 : decode cX3_readLife 24 = .ok (.getfield 26, 3) := by decide +kernel
theorem dX3_readLife_27 : decode cX3_readLife 27 = .ok (.aload_n 0, 1) := by decide +kernel
theorem dX3_readLife_28 : decode cX3_readLife 28 = .ok (.getfield 30, 3) := by decide +kernel
theorem dX3_readLife_31 : decode cX3_readLife 31 = .ok (.iconst 0, 1) := by decide +kernel
theorem dX3_readLife_32 : decode cX3_readLife 32 = .ok (.iaload, 1) := by decide +kernel
theorem dX3_readLife_33 : decode cX3_readLife 33 = .ok (.putfield 122, 3) := by decide +kernel
theorem dX3_readLife_36 : decode cX3_readLife 36 = .ok (.iload_n 1, 1) := by decide +kernel
theorem dX3_readLife_37 : decode cX3_readLife 37 = .ok (.ireturn, 1) := by decide +kernel
theorem dX3_readNumbers_0 : decode cX3_readNumbers 0 = .ok (.aload_n 0, 1) := by decide +kernel
theorem dX3_readNumbers_1 : decode cX3_readNumbers 1 = .ok (.getfield 22, 3) := by decide +kernel
theorem dX3_readNumbers_4 : decode cX3_readNumbers 4 = .ok (.invokevirtual 41, 3) := by decide +kernel
theorem dX3_readNumbers_7 : decode cX3_readNumbers 7 = .ok (.iconst 0, 1) := by decide +kernel
theorem dX3_readNumbers_8 : decode cX3_readNumbers 8 = .ok (.istore_n 3, 1) := by decide +kernel
theorem dX3_readNumbers_9 : decode cX3_readNumbers 9 = .ok (.iload_n 3, 1) := by decide +kernel
theorem dX3_readNumbers_10 : decode cX3_readNumbers 10 = .ok (.aload_n 2, 1) := by decide +kernel
theorem dX3_readNumbers_11 : decode cX3_readNumbers 11 = .ok (.arraylength, 1) := by decide +kernel
theorem dX3_readNumbers_12 : decode cX3_readNumbers 12 = .ok (.if_icmp .ge 77, 3) := by decide +kernel
theorem dX3_readNumbers_15 : decode cX3_readNumbers 15 = .ok (.iload_n 3, 1) := by decide +kernel
theorem dX3_readNumbers_16 : decode cX3_readNumbers 16 = .ok (.aload_n 0, 1) := by decide +kernel
theorem dX3_readNumbers_17 : decode cX3_readNumbers 17 = .ok (.getfield 30, 3) := by decide +kernel
theorem dX3_readNumbers_20 : decode cX3_readNumbers 20 = .ok (.arraylength, 1) := by decide +kernel
theorem dX3_readNumbers_21 : decode cX3_readNumbers 21 = .ok (.if_icmp .ge 68, 3) := by decide +kernel
theorem dX3_readNumbers_24 : decode cX3_readNumbers 24 = .ok (.aload_n 0, 1) := by decide +kernel
theorem dX3_readNumbers_25 : decode cX3_readNumbers 25 = .ok (.getfield 22, 3) := by decide +kernel
theorem dX3_readNumbers_28 : decode cX3_readNumbers 28 = .ok (.getfield 46, 3) := by decide +kernel
theorem dX3_readNumbers_31 : decode cX3_readNumbers 31 = .ok (.iconst 2, 1) := by decide +kernel
theorem dX3_readNumbers_32 : decode cX3_readNumbers 32 = .ok (.if_icmp .eq 5, 3) := by decide +kernel
theorem dX3_readNumbers_35 : decode cX3_readNumbers 35 = .ok (.iconst 1, 1) := by decide +kernel
theorem dX3_readNumbers_36 : decode cX3_readNumbers 36 = .ok (.ireturn, 1) := by decide +kernel
theorem dX3_readNumbers_37 : decode cX3_readNumbers 37 = .ok (.aload_n 0, 1) := by decide +kernel
theorem dX3_readNumbers_38 : decode cX3_readNumbers 38 = .ok (.getfield 22, 3) := by decide +kernel
theorem dX3_readNumbers_41 : decode cX3_readNumbers 41 = .ok (.getfield 124, 3) := by decide +kernel
theorem dX3_readNumbers_44 : decode cX3_readNumbers 44 = .ok (.iload_n 1, 1) := by decide +kernel
theorem dX3_readNumbers_45 : decode cX3_readNumbers 45 = .ok (.if_icmp .lt 16, 3) := by decide +kernel
theorem dX3_readNumbers_48 : decode cX3_readNumbers 48 = .ok (.aload_n 0, 1) := by decide +kernel
theorem dX3_readNumbers_49 : decode cX3_readNumbers 49 = .ok (.getfield 22, 3) := by decide +kernel
theorem dX3_readNumbers_52 : decode cX3_readNumbers 52 = .ok (.getfield 124, 3) := by decide +kernel
theorem dX3_readNumbers_55 : decode cX3_readNumbers 55 = .ok (.aload_n 2, 1) := by decide +kernel
theorem dX3_readNumbers_56 : decode cX3_readNumbers 56 = .ok (.iload_n 3, 1) := by decide +kernel
theorem dX3_readNumbers_57 : decode cX3_readNumbers 57 = .ok (.iaload, 1) := by decide +kernel
theorem dX3_readNumbers_58 : decode cX3_readNumbers 58 = .ok (.if_icmp .le 5, 3) := by decide +kernel
theorem dX3_readNumbers_61 : decode cX3_readNumbers 61 = .ok (.iconst 2, 1) := by decide +kernel
theorem dX3_readNumbers_62 : decode cX3_readNumbers 62 = .ok (.ireturn, 1) := by decide +kernel
theorem dX3_readNumbers_63 : decode cX3_readNumbers 63 = .ok (.aload_n 0, 1) := by decide +kernel
theorem dX3_readNumbers_64 : decode cX3_readNumbers 64 = .ok (.getfield 30, 3) := by decide +kernel
theorem dX3_readNumbers_67 : decode cX3_readNumbers 67 = .ok (.iload_n 3, 1) := by decide +kernel
theorem dX3_readNumbers_68 : decode cX3_readNumbers 68 = .ok (.aload_n 0, 1) := by decide +kernel
theorem dX3_readNumbers_69 : decode cX3_readNumbers 69 = .ok (.getfield 22, 3) := by decide +kernel
theorem dX3_readNumbers_72 : decode cX3_readNumbers 72 = .ok (.getfield 124, 3) := by decide +kernel
theorem dX3_readNumbers_75 : decode cX3_readNumbers 75 = .ok (.iastore, 1) := by decide +kernel
theorem dX3_readNumbers_76 : decode cX3_readNumbers 76 = .ok (.aload_n 0, 1) := by decide +kernel
theorem dX3_readNumbers_77 : decode cX3_readNumbers 77 = .ok (.getfield 22, 3) := by decide +kernel
theorem dX3_readNumbers_80 : decode cX3_readNumbers 80 = .ok (.invokevirtual 41, 3) := by decide +kernel
theorem dX3_readNumbers_83 : decode cX3_readNumbers 83 = .ok (.iinc 3 1, 3) := by decide +kernel
theorem dX3_readNumbers_86 : decode cX3_readNumbers 86 = .ok (.goto (-77), 3) := by decide +kernel
theorem dX3_readNumbers_89 : decode cX3_readNumbers 89 = .ok (.iconst 0, 1) := by decide +kernel
theorem dX3_readNumbers_90 : decode cX3_readNumbers 90 = .ok (.ireturn, 1) := by decide +kernel
theorem dX4_init_0 : decode cX4_init 0 = .ok (.aload_n 0, 1) := by decide +kernel
theorem dX4_init_1 : decode cX4_init 1 = .ok (.invokespecial 3, 3) := by decide +kernel
theorem dX4_init_4 : decode cX4_init 4 = .ok (.aload_n 0, 1) := by decide +kernel
theorem dX4_init_5 : decode cX4_init 5 = .ok (.sipush 700, 3) := by decide +kernel
theorem dX4_init_8 : decode cX4_init 8 = .ok (.newarray .int, 2) := by decide +kernel
theorem dX4_init_10 : decode cX4_init 10 = .ok (.putfield 9, 3) := by decide +kernel
theorem dX4_init_13 : decode cX4_init 13 = .ok (.aload_n 0, 1) := by decide +kernel
theorem dX4_init_14 : decode cX4_init 14 = .ok (.bipush 64, 2) := by decide +kernel
theorem dX4_init_16 : decode cX4_init 16 = .ok (.newarray .int, 2) := by decide +kernel
theorem dX4_init_18 : decode cX4_init 18 = .ok (.putfield 15, 3) := by decide +kernel
theorem dX4_init_21 : decode cX4_init 21 = .ok (.aload_n 0, 1) := by decide +kernel
theorem dX4_init_22 : decode cX4_init 22 = .ok (.iconst 0, 1) := by decide +kernel
theorem dX4_init_23 : decode cX4_init 23 = .ok (.putfield 18, 3) := by decide +kernel
theorem dX4_init_26 : decode cX4_init 26 = .ok (.return_, 1) := by decide +kernel
theorem dX4_clear_0 : decode cX4_clear 0 = .ok (.aload_n 0, 1) := by decide +kernel
theorem dX4_clear_1 : decode cX4_clear 1 = .ok (.iconst 0, 1) := by decide +kernel
theorem dX4_clear_2 : decode cX4_clear 2 = .ok (.putfield 18, 3) := by decide +kernel
theorem dX4_clear_5 : decode cX4_clear 5 = .ok (.return_, 1) := by decide +kernel
theorem dX4_isTold_0 : decode cX4_isTold 0 = .ok (.aload_n 0, 1) := by decide +kernel
theorem dX4_isTold_1 : decode cX4_isTold 1 = .ok (.getfield 18, 3) := by decide +kernel
theorem dX4_isTold_4 : decode cX4_isTold 4 = .ok (.ifCond .le 7, 3) := by decide +kernel
theorem dX4_isTold_7 : decode cX4_isTold 7 = .ok (.iconst 1, 1) := by decide +kernel
theorem dX4_isTold_8 : decode cX4_isTold 8 = .ok (.goto 4, 3) := by decide +kernel
theorem dX4_isTold_11 : decode cX4_isTold 11 = .ok (.iconst 0, 1) := by decide +kernel
theorem dX4_isTold_12 : decode cX4_isTold 12 = .ok (.ireturn, 1) := by decide +kernel
theorem dX4_add_0 : decode cX4_add 0 = .ok (.aload_n 0, 1) := by decide +kernel
theorem dX4_add_1 : decode cX4_add 1 = .ok (.getfield 18, 3) := by decide +kernel
theorem dX4_add_4 : decode cX4_add 4 = .ok (.sipush 700, 3) := by decide +kernel
theorem dX4_add_7 : decode cX4_add 7 = .ok (.if_icmp .ge 23, 3) := by decide +kernel
theorem dX4_add_10 : decode cX4_add 10 = .ok (.aload_n 0, 1) := by decide +kernel
theorem dX4_add_11 : decode cX4_add 11 = .ok (.getfield 9, 3) := by decide +kernel
theorem dX4_add_14 : decode cX4_add 14 = .ok (.aload_n 0, 1) := by decide +kernel
theorem dX4_add_15 : decode cX4_add 15 = .ok (.getfield 18, 3) := by decide +kernel
theorem dX4_add_18 : decode cX4_add 18 = .ok (.iload_n 1, 1) := by decide +kernel
theorem dX4_add_19 : decode cX4_add 19 = .ok (.iastore, 1) := by decide +kernel
theorem dX4_add_20 : decode cX4_add 20 = .ok (.aload_n 0, 1) := by decide +kernel
theorem dX4_add_21 : decode cX4_add 21 = .ok (.dup, 1) := by decide +kernel
theorem dX4_add_22 : decode cX4_add 22 = .ok (.getfield 18, 3) := by decide +kernel
theorem dX4_add_25 : decode cX4_add 25 = .ok (.iconst 1, 1) := by decide +kernel
theorem dX4_add_26 : decode cX4_add 26 = .ok (.iadd, 1) := by decide +kernel
theorem dX4_add_27 : decode cX4_add 27 = .ok (.putfield 18, 3) := by decide +kernel
theorem dX4_add_30 : decode cX4_add 30 = .ok (.return_, 1) := by decide +kernel
theorem dX4_copyFrom_0 : decode cX4_copyFrom 0 = .ok (.aload_n 1, 1) := by decide +kernel
theorem dX4_copyFrom_1 : decode cX4_copyFrom 1 = .ok (.getfield 9, 3) := by decide +kernel
theorem dX4_copyFrom_4 : decode cX4_copyFrom 4 = .ok (.iconst 0, 1) := by decide +kernel
theorem dX4_copyFrom_5 : decode cX4_copyFrom 5 = .ok (.aload_n 0, 1) := by decide +kernel
theorem dX4_copyFrom_6 : decode cX4_copyFrom 6 = .ok (.getfield 9, 3) := by decide +kernel
theorem dX4_copyFrom_9 : decode cX4_copyFrom 9 = .ok (.iconst 0, 1) := by decide +kernel
theorem dX4_copyFrom_10 : decode cX4_copyFrom 10 = .ok (.sipush 700, 3) := by decide +kernel
theorem dX4_copyFrom_13 : decode cX4_copyFrom 13 = .ok (.invokestatic 22, 3) := by decide +kernel
theorem dX4_copyFrom_16 : decode cX4_copyFrom 16 = .ok (.aload_n 0, 1) := by decide +kernel
theorem dX4_copyFrom_17 : decode cX4_copyFrom 17 = .ok (.aload_n 1, 1) := by decide +kernel
theorem dX4_copyFrom_18 : decode cX4_copyFrom 18 = .ok (.getfield 18, 3) := by decide +kernel
theorem dX4_copyFrom_21 : decode cX4_copyFrom 21 = .ok (.putfield 18, 3) := by decide +kernel
theorem dX4_copyFrom_24 : decode cX4_copyFrom 24 = .ok (.return_, 1) := by decide +kernel
theorem dX4_value_0 : decode cX4_value 0 = .ok (.iconst 0, 1) := by decide +kernel
theorem dX4_value_1 : decode cX4_value 1 = .ok (.istore_n 2, 1) := by decide +kernel
theorem dX4_value_2 : decode cX4_value 2 = .ok (.iconst 0, 1) := by decide +kernel
theorem dX4_value_3 : decode cX4_value 3 = .ok (.istore_n 3, 1) := by decide +kernel
theorem dX4_value_4 : decode cX4_value 4 = .ok (.iload_n 3, 1) := by decide +kernel
theorem dX4_value_5 : decode cX4_value 5 = .ok (.aload_n 0, 1) := by decide +kernel
theorem dX4_value_6 : decode cX4_value 6 = .ok (.getfield 18, 3) := by decide +kernel
theorem dX4_value_9 : decode cX4_value 9 = .ok (.if_icmp .ge 132, 3) := by decide +kernel
theorem dX4_value_12 : decode cX4_value 12 = .ok (.aload_n 0, 1) := by decide +kernel
theorem dX4_value_13 : decode cX4_value 13 = .ok (.getfield 9, 3) := by decide +kernel
theorem dX4_value_16 : decode cX4_value 16 = .ok (.iload_n 3, 1) := by decide +kernel
theorem dX4_value_17 : decode cX4_value 17 = .ok (.iaload, 1) := by decide +kernel
theorem dX4_value_18 : decode cX4_value 18 = .ok (.istore 4, 2) := by decide +kernel
theorem dX4_value_20 : decode cX4_value 20 = .ok (.iload 4, 2) := by decide +kernel
theorem dX4_value_22 : decode cX4_value 22 = .ok (.bipush (-10), 2) := by decide +kernel
theorem dX4_value_24 : decode cX4_value 24 = .ok (.if_icmp .lt 37, 3) := by decide +kernel
theorem dX4_value_27 : decode cX4_value 27 = .ok (.iload_n 2, 1) := by decide +kernel
theorem dX4_value_28 : decode cX4_value 28 = .ok (.bipush 64, 2) := by decide +kernel
theorem dX4_value_30 : decode cX4_value 30 = .ok (.if_icmp .ge 105, 3) := by decide +kernel
theorem dX4_value_33 : decode cX4_value 33 = .ok (.aload_n 0, 1) := by decide +kernel
theorem dX4_value_34 : decode cX4_value 34 = .ok (.getfield 15, 3) := by decide +kernel
theorem dX4_value_37 : decode cX4_value 37 = .ok (.iload_n 2, 1) := by decide +kernel
theorem dX4_value_38 : decode cX4_value 38 = .ok (.iload 4, 2) := by decide +kernel
theorem dX4_value_40 : decode cX4_value 40 = .ok (.ifCond .lt 8, 3) := by decide +kernel
theorem dX4_value_43 : decode cX4_value 43 = .ok (.iload 4, 2) := by decide +kernel
theorem dX4_value_45 : decode cX4_value 45 = .ok (.goto 9, 3) := by decide +kernel
theorem dX4_value_48 : decode cX4_value 48 = .ok (.aload_n 1, 1) := by decide +kernel
theorem dX4_value_49 : decode cX4_value 49 = .ok (.iconst (-1), 1) := by decide +kernel
theorem dX4_value_50 : decode cX4_value 50 = .ok (.iload 4, 2) := by decide +kernel
theorem dX4_value_52 : decode cX4_value 52 = .ok (.isub, 1) := by decide +kernel
theorem dX4_value_53 : decode cX4_value 53 = .ok (.iaload, 1) := by decide +kernel
theorem dX4_value_54 : decode cX4_value 54 = .ok (.iastore, 1) := by decide +kernel
theorem dX4_value_55 : decode cX4_value 55 = .ok (.iinc 2 1, 3) := by decide +kernel
theorem dX4_value_58 : decode cX4_value 58 = .ok (.goto 77, 3) := by decide +kernel
theorem dX4_value_61 : decode cX4_value 61 = .ok (.iload 4, 2) := by decide +kernel
theorem dX4_value_63 : decode cX4_value 63 = .ok (.bipush (-23), 2) := by decide +kernel
theorem dX4_value_65 : decode cX4_value 65 = .ok (.if_icmp .ne 35, 3) := by decide +kernel
theorem dX4_value_68 : decode cX4_value 68 = .ok (.iload_n 2, 1) := by decide +kernel
theorem dX4_value_69 : decode cX4_value 69 = .ok (.iconst 1, 1) := by decide +kernel
theorem dX4_value_70 : decode cX4_value 70 = .ok (.if_icmp .lt 65, 3) := by decide +kernel
theorem dX4_value_73 : decode cX4_value 73 = .ok (.aload_n 0, 1) := by decide +kernel
theorem dX4_value_74 : decode cX4_value 74 = .ok (.getfield 15, 3) := by decide +kernel
theorem dX4_value_77 : decode cX4_value 77 = .ok (.iload_n 2, 1) := by decide +kernel
theorem dX4_value_78 : decode cX4_value 78 = .ok (.iconst 1, 1) := by decide +kernel
theorem dX4_value_79 : decode cX4_value 79 = .ok (.isub, 1) := by decide +kernel
theorem dX4_value_80 : decode cX4_value 80 = .ok (.aload_n 0, 1) := by decide +kernel
theorem dX4_value_81 : decode cX4_value 81 = .ok (.getfield 15, 3) := by decide +kernel
theorem dX4_value_84 : decode cX4_value 84 = .ok (.iload_n 2, 1) := by decide +kernel
theorem dX4_value_85 : decode cX4_value 85 = .ok (.iconst 1, 1) := by decide +kernel
theorem dX4_value_86 : decode cX4_value 86 = .ok (.isub, 1) := by decide +kernel
theorem dX4_value_87 : decode cX4_value 87 = .ok (.iaload, 1) := by decide +kernel
theorem dX4_value_88 : decode cX4_value 88 = .ok (.ifCond .ne 7, 3) := by decide +kernel
theorem dX4_value_91 : decode cX4_value 91 = .ok (.iconst 1, 1) := by decide +kernel
theorem dX4_value_92 : decode cX4_value 92 = .ok (.goto 4, 3) := by decide +kernel
theorem dX4_value_95 : decode cX4_value 95 = .ok (.iconst 0, 1) := by decide +kernel
theorem dX4_value_96 : decode cX4_value 96 = .ok (.iastore, 1) := by decide +kernel
theorem dX4_value_97 : decode cX4_value 97 = .ok (.goto 38, 3) := by decide +kernel
theorem dX4_value_100 : decode cX4_value 100 = .ok (.iload_n 2, 1) := by decide +kernel
theorem dX4_value_101 : decode cX4_value 101 = .ok (.iconst 2, 1) := by decide +kernel
theorem dX4_value_102 : decode cX4_value 102 = .ok (.if_icmp .lt 33, 3) := by decide +kernel
theorem dX4_value_105 : decode cX4_value 105 = .ok (.iinc 2 (-1), 3) := by decide +kernel
theorem dX4_value_108 : decode cX4_value 108 = .ok (.aload_n 0, 1) := by decide +kernel
theorem dX4_value_109 : decode cX4_value 109 = .ok (.getfield 15, 3) := by decide +kernel
theorem dX4_value_112 : decode cX4_value 112 = .ok (.iload_n 2, 1) := by decide +kernel
theorem dX4_value_113 : decode cX4_value 113 = .ok (.iconst 1, 1) := by decide +kernel
theorem dX4_value_114 : decode cX4_value 114 = .ok (.isub, 1) := by decide +kernel
theorem dX4_value_115 : decode cX4_value 115 = .ok (.iload 4, 2) := by decide +kernel
theorem dX4_value_117 : decode cX4_value 117 = .ok (.aload_n 0, 1) := by decide +kernel
theorem dX4_value_118 : decode cX4_value 118 = .ok (.getfield 15, 3) := by decide +kernel
theorem dX4_value_121 : decode cX4_value 121 = .ok (.iload_n 2, 1) := by decide +kernel
theorem dX4_value_122 : decode cX4_value 122 = .ok (.iconst 1, 1) := by decide +kernel
theorem dX4_value_123 : decode cX4_value 123 = .ok (.isub, 1) := by decide +kernel
theorem dX4_value_124 : decode cX4_value 124 = .ok (.iaload, 1) := by decide +kernel
theorem dX4_value_125 : decode cX4_value 125 = .ok (.aload_n 0, 1) := by decide +kernel
theorem dX4_value_126 : decode cX4_value 126 = .ok (.getfield 15, 3) := by decide +kernel
theorem dX4_value_129 : decode cX4_value 129 = .ok (.iload_n 2, 1) := by decide +kernel
theorem dX4_value_130 : decode cX4_value 130 = .ok (.iaload, 1) := by decide +kernel
theorem dX4_value_131 : decode cX4_value 131 = .ok (.invokestatic 28, 3) := by decide +kernel
theorem dX4_value_134 : decode cX4_value 134 = .ok (.iastore, 1) := by decide +kernel
theorem dX4_value_135 : decode cX4_value 135 = .ok (.iinc 3 1, 3) := by decide +kernel
theorem dX4_value_138 : decode cX4_value 138 = .ok (.goto (-134), 3) := by decide +kernel
theorem dX4_value_141 : decode cX4_value 141 = .ok (.aload_n 0, 1) := by decide +kernel
theorem dX4_value_142 : decode cX4_value 142 = .ok (.getfield 15, 3) := by decide +kernel
theorem dX4_value_145 : decode cX4_value 145 = .ok (.iconst 0, 1) := by decide +kernel
theorem dX4_value_146 : decode cX4_value 146 = .ok (.iaload, 1) := by decide +kernel
theorem dX4_value_147 : decode cX4_value 147 = .ok (.ireturn, 1) := by decide +kernel
theorem dX4_join_0 : decode cX4_join 0 = .ok (.iload_n 0, 1) := by decide +kernel
theorem dX4_join_1 : decode cX4_join 1 = .ok (.tableswitch 125 (-29) (-21) #[113, 109, 105, 101, 90, 79, 125, 65, 51], 51) := by decide +kernel
theorem dX4_join_52 : decode cX4_join 52 = .ok (.iload_n 1, 1) := by decide +kernel
theorem dX4_join_53 : decode cX4_join 53 = .ok (.ifCond .ne 7, 3) := by decide +kernel
theorem dX4_join_56 : decode cX4_join 56 = .ok (.iload_n 2, 1) := by decide +kernel
theorem dX4_join_57 : decode cX4_join 57 = .ok (.ifCond .eq 7, 3) := by decide +kernel
theorem dX4_join_60 : decode cX4_join 60 = .ok (.iconst 1, 1) := by decide +kernel
theorem dX4_join_61 : decode cX4_join 61 = .ok (.goto 4, 3) := by decide +kernel
theorem dX4_join_64 : decode cX4_join 64 = .ok (.iconst 0, 1) := by decide +kernel
theorem dX4_join_65 : decode cX4_join 65 = .ok (.ireturn, 1) := by decide +kernel
theorem dX4_join_66 : decode cX4_join 66 = .ok (.iload_n 1, 1) := by decide +kernel
theorem dX4_join_67 : decode cX4_join 67 = .ok (.ifCond .eq 11, 3) := by decide +kernel
theorem dX4_join_70 : decode cX4_join 70 = .ok (.iload_n 2, 1) := by decide +kernel
theorem dX4_join_71 : decode cX4_join 71 = .ok (.ifCond .eq 7, 3) := by decide +kernel
theorem dX4_join_74 : decode cX4_join 74 = .ok (.iconst 1, 1) := by decide +kernel
theorem dX4_join_75 : decode cX4_join 75 = .ok (.goto 4, 3) := by decide +kernel
theorem dX4_join_78 : decode cX4_join 78 = .ok (.iconst 0, 1) := by decide +kernel
theorem dX4_join_79 : decode cX4_join 79 = .ok (.ireturn, 1) := by decide +kernel
theorem dX4_join_80 : decode cX4_join 80 = .ok (.iload_n 1, 1) := by decide +kernel
theorem dX4_join_81 : decode cX4_join 81 = .ok (.iload_n 2, 1) := by decide +kernel
theorem dX4_join_82 : decode cX4_join 82 = .ok (.if_icmp .ge 7, 3) := by decide +kernel
theorem dX4_join_85 : decode cX4_join 85 = .ok (.iconst 1, 1) := by decide +kernel
theorem dX4_join_86 : decode cX4_join 86 = .ok (.goto 4, 3) := by decide +kernel
theorem dX4_join_89 : decode cX4_join 89 = .ok (.iconst 0, 1) := by decide +kernel
theorem dX4_join_90 : decode cX4_join 90 = .ok (.ireturn, 1) := by decide +kernel
theorem dX4_join_91 : decode cX4_join 91 = .ok (.iload_n 1, 1) := by decide +kernel
theorem dX4_join_92 : decode cX4_join 92 = .ok (.iload_n 2, 1) := by decide +kernel
theorem dX4_join_93 : decode cX4_join 93 = .ok (.if_icmp .ne 7, 3) := by decide +kernel
theorem dX4_join_96 : decode cX4_join 96 = .ok (.iconst 1, 1) := by decide +kernel
theorem dX4_join_97 : decode cX4_join 97 = .ok (.goto 4, 3) := by decide +kernel
theorem dX4_join_100 : decode cX4_join 100 = .ok (.iconst 0, 1) := by decide +kernel
theorem dX4_join_101 : decode cX4_join 101 = .ok (.ireturn, 1) := by decide +kernel
theorem dX4_join_102 : decode cX4_join 102 = .ok (.iload_n 1, 1) := by decide +kernel
theorem dX4_join_103 : decode cX4_join 103 = .ok (.iload_n 2, 1) := by decide +kernel
theorem dX4_join_104 : decode cX4_join 104 = .ok (.iadd, 1) := by decide +kernel
theorem dX4_join_105 : decode cX4_join 105 = .ok (.ireturn, 1) := by decide +kernel
theorem dX4_join_106 : decode cX4_join 106 = .ok (.iload_n 1, 1) := by decide +kernel
theorem dX4_join_107 : decode cX4_join 107 = .ok (.iload_n 2, 1) := by decide +kernel
theorem dX4_join_108 : decode cX4_join 108 = .ok (.isub, 1) := by decide +kernel
theorem dX4_join_109 : decode cX4_join 109 = .ok (.ireturn, 1) := by decide +kernel
theorem dX4_join_110 : decode cX4_join 110 = .ok (.iload_n 1, 1) := by decide +kernel
theorem dX4_join_111 : decode cX4_join 111 = .ok (.iload_n 2, 1) := by decide +kernel
theorem dX4_join_112 : decode cX4_join 112 = .ok (.imul, 1) := by decide +kernel
theorem dX4_join_113 : decode cX4_join 113 = .ok (.ireturn, 1) := by decide +kernel
theorem dX4_join_114 : decode cX4_join 114 = .ok (.iload_n 2, 1) := by decide +kernel
theorem dX4_join_115 : decode cX4_join 115 = .ok (.ifCond .ne 7, 3) := by decide +kernel
theorem dX4_join_118 : decode cX4_join 118 = .ok (.iconst 0, 1) := by decide +kernel
theorem dX4_join_119 : decode cX4_join 119 = .ok (.goto 6, 3) := by decide +kernel
theorem dX4_join_122 : decode cX4_join 122 = .ok (.iload_n 1, 1) := by decide +kernel
theorem dX4_join_123 : decode cX4_join 123 = .ok (.iload_n 2, 1) := by decide +kernel
theorem dX4_join_124 : decode cX4_join 124 = .ok (.idiv, 1) := by decide +kernel
theorem dX4_join_125 : decode cX4_join 125 = .ok (.ireturn, 1) := by decide +kernel
theorem dX4_join_126 : decode cX4_join 126 = .ok (.iconst 0, 1) := by decide +kernel
theorem dX4_join_127 : decode cX4_join 127 = .ok (.ireturn, 1) := by decide +kernel
theorem dX5_init_0 : decode cX5_init 0 = .ok (.aload_n 0, 1) := by decide +kernel
theorem dX5_init_1 : decode cX5_init 1 = .ok (.invokespecial 3, 3) := by decide +kernel
theorem dX5_init_4 : decode cX5_init 4 = .ok (.aload_n 0, 1) := by decide +kernel
theorem dX5_init_5 : decode cX5_init 5 = .ok (.new 9, 3) := by decide +kernel
theorem dX5_init_8 : decode cX5_init 8 = .ok (.dup, 1) := by decide +kernel
theorem dX5_init_9 : decode cX5_init 9 = .ok (.invokespecial 11, 3) := by decide +kernel
theorem dX5_init_12 : decode cX5_init 12 = .ok (.putfield 12, 3) := by decide +kernel
theorem dX5_init_15 : decode cX5_init 15 = .ok (.aload_n 0, 1) := by decide +kernel
theorem dX5_init_16 : decode cX5_init 16 = .ok (.new 18, 3) := by decide +kernel
theorem dX5_init_19 : decode cX5_init 19 = .ok (.dup, 1) := by decide +kernel
theorem dX5_init_20 : decode cX5_init 20 = .ok (.invokespecial 20, 3) := by decide +kernel
theorem dX5_init_23 : decode cX5_init 23 = .ok (.putfield 21, 3) := by decide +kernel
theorem dX5_init_26 : decode cX5_init 26 = .ok (.aload_n 0, 1) := by decide +kernel
theorem dX5_init_27 : decode cX5_init 27 = .ok (.sipush 128, 3) := by decide +kernel
theorem dX5_init_30 : decode cX5_init 30 = .ok (.newarray .int, 2) := by decide +kernel
theorem dX5_init_32 : decode cX5_init 32 = .ok (.putfield 25, 3) := by decide +kernel
theorem dX5_init_35 : decode cX5_init 35 = .ok (.aload_n 0, 1) := by decide +kernel
theorem dX5_init_36 : decode cX5_init 36 = .ok (.iconst 0, 1) := by decide +kernel
theorem dX5_init_37 : decode cX5_init 37 = .ok (.putfield 29, 3) := by decide +kernel
theorem dX5_init_40 : decode cX5_init 40 = .ok (.aload_n 0, 1) := by decide +kernel
theorem dX5_init_41 : decode cX5_init 41 = .ok (.iconst 0, 1) := by decide +kernel
theorem dX5_init_42 : decode cX5_init 42 = .ok (.putfield 33, 3) := by decide +kernel
theorem dX5_init_45 : decode cX5_init 45 = .ok (.aload_n 0, 1) := by decide +kernel
theorem dX5_init_46 : decode cX5_init 46 = .ok (.iconst 1, 1) := by decide +kernel
theorem dX5_init_47 : decode cX5_init 47 = .ok (.putfield 37, 3) := by decide +kernel
theorem dX5_init_50 : decode cX5_init 50 = .ok (.aload_n 0, 1) := by decide +kernel
theorem dX5_init_51 : decode cX5_init 51 = .ok (.iconst 1, 1) := by decide +kernel
theorem dX5_init_52 : decode cX5_init 52 = .ok (.putfield 40, 3) := by decide +kernel
theorem dX5_init_55 : decode cX5_init 55 = .ok (.aload_n 0, 1) := by decide +kernel
theorem dX5_init_56 : decode cX5_init 56 = .ok (.iconst 0, 1) := by decide +kernel
theorem dX5_init_57 : decode cX5_init 57 = .ok (.putfield 43, 3) := by decide +kernel
theorem dX5_init_60 : decode cX5_init 60 = .ok (.aload_n 0, 1) := by decide +kernel
theorem dX5_init_61 : decode cX5_init 61 = .ok (.iconst 0, 1) := by decide +kernel
theorem dX5_init_62 : decode cX5_init 62 = .ok (.putfield 46, 3) := by decide +kernel
theorem dX5_init_65 : decode cX5_init 65 = .ok (.aload_n 0, 1) := by decide +kernel
theorem dX5_init_66 : decode cX5_init 66 = .ok (.iconst 0, 1) := by decide +kernel
theorem dX5_init_67 : decode cX5_init 67 = .ok (.putfield 49, 3) := by decide +kernel
theorem dX5_init_70 : decode cX5_init 70 = .ok (.return_, 1) := by decide +kernel
theorem dX5_read_0 : decode cX5_read 0 = .ok (.aload_n 1, 1) := by decide +kernel
theorem dX5_read_1 : decode cX5_read 1 = .ok (.invokevirtual 52, 3) := by decide +kernel
theorem dX5_read_4 : decode cX5_read 4 = .ok (.ifCond .eq 5, 3) := by decide +kernel
theorem dX5_read_7 : decode cX5_read 7 = .ok (.iconst 5, 1) := by decide +kernel
theorem dX5_read_8 : decode cX5_read 8 = .ok (.ireturn, 1) := by decide +kernel
theorem dX5_read_9 : decode cX5_read 9 = .ok (.aload_n 0, 1) := by decide +kernel
theorem dX5_read_10 : decode cX5_read 10 = .ok (.iload_n 2, 1) := by decide +kernel
theorem dX5_read_11 : decode cX5_read 11 = .ok (.invokevirtual 56, 3) := by decide +kernel
theorem dX5_read_14 : decode cX5_read 14 = .ok (.iconst 0, 1) := by decide +kernel
theorem dX5_read_15 : decode cX5_read 15 = .ok (.istore_n 3, 1) := by decide +kernel
theorem dX5_read_16 : decode cX5_read 16 = .ok (.iconst 0, 1) := by decide +kernel
theorem dX5_read_17 : decode cX5_read 17 = .ok (.istore 4, 2) := by decide +kernel
theorem dX5_read_19 : decode cX5_read 19 = .ok (.iload 4, 2) := by decide +kernel
theorem dX5_read_21 : decode cX5_read 21 = .ok (.sipush 700, 3) := by decide +kernel
theorem dX5_read_24 : decode cX5_read 24 = .ok (.if_icmp .gt 80, 3) := by decide +kernel
theorem dX5_read_27 : decode cX5_read 27 = .ok (.iload_n 3, 1) := by decide +kernel
theorem dX5_read_28 : decode cX5_read 28 = .ok (.ifCond .ne 76, 3) := by decide +kernel
theorem dX5_read_31 : decode cX5_read 31 = .ok (.aload_n 0, 1) := by decide +kernel
theorem dX5_read_32 : decode cX5_read 32 = .ok (.getfield 12, 3) := by decide +kernel
theorem dX5_read_35 : decode cX5_read 35 = .ok (.invokevirtual 60, 3) := by decide +kernel
theorem dX5_read_38 : decode cX5_read 38 = .ok (.aload_n 0, 1) := by decide +kernel
theorem dX5_read_39 : decode cX5_read 39 = .ok (.getfield 37, 3) := by decide +kernel
theorem dX5_read_42 : decode cX5_read 42 = .ok (.ifCond .ne 37, 3) := by decide +kernel
theorem dX5_read_45 : decode cX5_read 45 = .ok (.aload_n 0, 1) := by decide +kernel
theorem dX5_read_46 : decode cX5_read 46 = .ok (.getfield 46, 3) := by decide +kernel
theorem dX5_read_49 : decode cX5_read 49 = .ok (.ifCond .ne 30, 3) := by decide +kernel
theorem dX5_read_52 : decode cX5_read 52 = .ok (.aload_n 0, 1) := by decide +kernel
theorem dX5_read_53 : decode cX5_read 53 = .ok (.getfield 12, 3) := by decide +kernel
theorem dX5_read_56 : decode cX5_read 56 = .ok (.getfield 63, 3) := by decide +kernel
theorem dX5_read_59 : decode cX5_read 59 = .ok (.bipush 59, 2) := by decide +kernel
theorem dX5_read_61 : decode cX5_read 61 = .ok (.if_icmp .ne 18, 3) := by decide +kernel
theorem dX5_read_64 : decode cX5_read 64 = .ok (.aload_n 0, 1) := by decide +kernel
theorem dX5_read_65 : decode cX5_read 65 = .ok (.iconst 1, 1) := by decide +kernel
theorem dX5_read_66 : decode cX5_read 66 = .ok (.invokevirtual 66, 3) := by decide +kernel
theorem dX5_read_69 : decode cX5_read 69 = .ok (.aload_n 1, 1) := by decide +kernel
theorem dX5_read_70 : decode cX5_read 70 = .ok (.aload_n 0, 1) := by decide +kernel
theorem dX5_read_71 : decode cX5_read 71 = .ok (.getfield 21, 3) := by decide +kernel
theorem dX5_read_74 : decode cX5_read 74 = .ok (.invokevirtual 70, 3) := by decide +kernel
theorem dX5_read_77 : decode cX5_read 77 = .ok (.iconst 0, 1) := by decide +kernel
theorem dX5_read_78 : decode cX5_read 78 = .ok (.ireturn, 1) := by decide +kernel
theorem dX5_read_79 : decode cX5_read 79 = .ok (.aload_n 0, 1) := by decide +kernel
theorem dX5_read_80 : decode cX5_read 80 = .ok (.getfield 37, 3) := by decide +kernel
theorem dX5_read_83 : decode cX5_read 83 = .ok (.ifCond .eq 10, 3) := by decide +kernel
theorem dX5_read_86 : decode cX5_read 86 = .ok (.aload_n 0, 1) := by decide +kernel
theorem dX5_read_87 : decode cX5_read 87 = .ok (.invokevirtual 74, 3) := by decide +kernel
theorem dX5_read_90 : decode cX5_read 90 = .ok (.goto 7, 3) := by decide +kernel
theorem dX5_read_93 : decode cX5_read 93 = .ok (.aload_n 0, 1) := by decide +kernel
theorem dX5_read_94 : decode cX5_read 94 = .ok (.invokevirtual 78, 3) := by decide +kernel
theorem dX5_read_97 : decode cX5_read 97 = .ok (.istore_n 3, 1) := by decide +kernel
theorem dX5_read_98 : decode cX5_read 98 = .ok (.iinc 4 1, 3) := by decide +kernel
theorem dX5_read_101 : decode cX5_read 101 = .ok (.goto (-82), 3) := by decide +kernel
theorem dX5_read_104 : decode cX5_read 104 = .ok (.iload_n 3, 1) := by decide +kernel
theorem dX5_read_105 : decode cX5_read 105 = .ok (.ireturn, 1) := by decide +kernel
theorem dX5_begin_0 : decode cX5_begin 0 = .ok (.aload_n 0, 1) := by decide +kernel
theorem dX5_begin_1 : decode cX5_begin 1 = .ok (.getfield 21, 3) := by decide +kernel
theorem dX5_begin_4 : decode cX5_begin 4 = .ok (.invokevirtual 81, 3) := by decide +kernel
theorem dX5_begin_7 : decode cX5_begin 7 = .ok (.aload_n 0, 1) := by decide +kernel
theorem dX5_begin_8 : decode cX5_begin 8 = .ok (.iload_n 1, 1) := by decide +kernel
theorem dX5_begin_9 : decode cX5_begin 9 = .ok (.putfield 33, 3) := by decide +kernel
theorem dX5_begin_12 : decode cX5_begin 12 = .ok (.aload_n 0, 1) := by decide +kernel
theorem dX5_begin_13 : decode cX5_begin 13 = .ok (.iconst 0, 1) := by decide +kernel
theorem dX5_begin_14 : decode cX5_begin 14 = .ok (.putfield 29, 3) := by decide +kernel
theorem dX5_begin_17 : decode cX5_begin 17 = .ok (.aload_n 0, 1) := by decide +kernel
theorem dX5_begin_18 : decode cX5_begin 18 = .ok (.iconst 0, 1) := by decide +kernel
theorem dX5_begin_19 : decode cX5_begin 19 = .ok (.putfield 46, 3) := by decide +kernel
theorem dX5_begin_22 : decode cX5_begin 22 = .ok (.aload_n 0, 1) := by decide +kernel
theorem dX5_begin_23 : decode cX5_begin 23 = .ok (.iconst 0, 1) := by decide +kernel
theorem dX5_begin_24 : decode cX5_begin 24 = .ok (.putfield 49, 3) := by decide +kernel
theorem dX5_begin_27 : decode cX5_begin 27 = .ok (.aload_n 0, 1) := by decide +kernel
theorem dX5_begin_28 : decode cX5_begin 28 = .ok (.invokevirtual 84, 3) := by decide +kernel
theorem dX5_begin_31 : decode cX5_begin 31 = .ok (.return_, 1) := by decide +kernel
theorem dX5_beginNot_0 : decode cX5_beginNot 0 = .ok (.aload_n 0, 1) := by decide +kernel
theorem dX5_beginNot_1 : decode cX5_beginNot 1 = .ok (.iconst 1, 1) := by decide +kernel
theorem dX5_beginNot_2 : decode cX5_beginNot 2 = .ok (.putfield 37, 3) := by decide +kernel
theorem dX5_beginNot_5 : decode cX5_beginNot 5 = .ok (.aload_n 0, 1) := by decide +kernel
theorem dX5_beginNot_6 : decode cX5_beginNot 6 = .ok (.iconst 1, 1) := by decide +kernel
theorem dX5_beginNot_7 : decode cX5_beginNot 7 = .ok (.putfield 40, 3) := by decide +kernel
theorem dX5_beginNot_10 : decode cX5_beginNot 10 = .ok (.aload_n 0, 1) := by decide +kernel
theorem dX5_beginNot_11 : decode cX5_beginNot 11 = .ok (.iconst 0, 1) := by decide +kernel
theorem dX5_beginNot_12 : decode cX5_beginNot 12 = .ok (.putfield 43, 3) := by decide +kernel
theorem dX5_beginNot_15 : decode cX5_beginNot 15 = .ok (.return_, 1) := by decide +kernel
theorem dX5_takePart_0 : decode cX5_takePart 0 = .ok (.aload_n 0, 1) := by decide +kernel
theorem dX5_takePart_1 : decode cX5_takePart 1 = .ok (.getfield 12, 3) := by decide +kernel
theorem dX5_takePart_4 : decode cX5_takePart 4 = .ok (.getfield 63, 3) := by decide +kernel
theorem dX5_takePart_7 : decode cX5_takePart 7 = .ok (.iconst 2, 1) := by decide +kernel
theorem dX5_takePart_8 : decode cX5_takePart 8 = .ok (.if_icmp .eq 28, 3) := by decide +kernel
theorem dX5_takePart_11 : decode cX5_takePart 11 = .ok (.aload_n 0, 1) := by decide +kernel
theorem dX5_takePart_12 : decode cX5_takePart 12 = .ok (.getfield 12, 3) := by decide +kernel
theorem dX5_takePart_15 : decode cX5_takePart 15 = .ok (.getfield 63, 3) := by decide +kernel
theorem dX5_takePart_18 : decode cX5_takePart 18 = .ok (.iconst 1, 1) := by decide +kernel
theorem dX5_takePart_19 : decode cX5_takePart 19 = .ok (.if_icmp .eq 17, 3) := by decide +kernel
theorem dX5_takePart_22 : decode cX5_takePart 22 = .ok (.aload_n 0, 1) := by decide +kernel
theorem dX5_takePart_23 : decode cX5_takePart 23 = .ok (.getfield 12, 3) := by decide +kernel
theorem dX5_takePart_26 : decode cX5_takePart 26 = .ok (.getfield 63, 3) := by decide +kernel
theorem dX5_takePart_29 : decode cX5_takePart 29 = .ok (.bipush 40, 2) := by decide +kernel
theorem dX5_takePart_31 : decode cX5_takePart 31 = .ok (.if_icmp .eq 5, 3) := by decide +kernel
theorem dX5_takePart_34 : decode cX5_takePart 34 = .ok (.iconst 1, 1) := by decide +kernel
theorem dX5_takePart_35 : decode cX5_takePart 35 = .ok (.ireturn, 1) := by decide +kernel
theorem dX5_takePart_36 : decode cX5_takePart 36 = .ok (.aload_n 0, 1) := by decide +kernel
theorem dX5_takePart_37 : decode cX5_takePart 37 = .ok (.getfield 46, 3) := by decide +kernel
theorem dX5_takePart_40 : decode cX5_takePart 40 = .ok (.bipush 6, 2) := by decide +kernel
theorem dX5_takePart_42 : decode cX5_takePart 42 = .ok (.if_icmp .lt 5, 3) := by decide +kernel
theorem dX5_takePart_45 : decode cX5_takePart 45 = .ok (.iconst 2, 1) := by decide +kernel
theorem dX5_takePart_46 : decode cX5_takePart 46 = .ok (.ireturn, 1) := by decide +kernel
theorem dX5_takePart_47 : decode cX5_takePart 47 = .ok (.aload_n 0, 1) := by decide +kernel
theorem dX5_takePart_48 : decode cX5_takePart 48 = .ok (.getfield 12, 3) := by decide +kernel
theorem dX5_takePart_51 : decode cX5_takePart 51 = .ok (.getfield 63, 3) := by decide +kernel
theorem dX5_takePart_54 : decode cX5_takePart 54 = .ok (.bipush 40, 2) := by decide +kernel
theorem dX5_takePart_56 : decode cX5_takePart 56 = .ok (.if_icmp .ne 8, 3) := by decide +kernel
theorem dX5_takePart_59 : decode cX5_takePart 59 = .ok (.aload_n 0, 1) := by decide +kernel
theorem dX5_takePart_60 : decode cX5_takePart 60 = .ok (.invokevirtual 87, 3) := by decide +kernel
theorem dX5_takePart_63 : decode cX5_takePart 63 = .ok (.ireturn, 1) := by decide +kernel
theorem dX5_takePart_64 : decode cX5_takePart 64 = .ok (.aload_n 0, 1) := by decide +kernel
theorem dX5_takePart_65 : decode cX5_takePart 65 = .ok (.getfield 12, 3) := by decide +kernel
theorem dX5_takePart_68 : decode cX5_takePart 68 = .ok (.getfield 63, 3) := by decide +kernel
theorem dX5_takePart_71 : decode cX5_takePart 71 = .ok (.iconst 2, 1) := by decide +kernel
theorem dX5_takePart_72 : decode cX5_takePart 72 = .ok (.if_icmp .ne 30, 3) := by decide +kernel
theorem dX5_takePart_75 : decode cX5_takePart 75 = .ok (.aload_n 0, 1) := by decide +kernel
theorem dX5_takePart_76 : decode cX5_takePart 76 = .ok (.getfield 12, 3) := by decide +kernel
theorem dX5_takePart_79 : decode cX5_takePart 79 = .ok (.getfield 90, 3) := by decide +kernel
theorem dX5_takePart_82 : decode cX5_takePart 82 = .ok (.iconst (-1), 1) := by decide +kernel
theorem dX5_takePart_83 : decode cX5_takePart 83 = .ok (.if_icmp .ne 7, 3) := by decide +kernel
theorem dX5_takePart_86 : decode cX5_takePart 86 = .ok (.iconst 2, 1) := by decide +kernel
theorem dX5_takePart_87 : decode cX5_takePart 87 = .ok (.goto 14, 3) := by decide +kernel
theorem dX5_takePart_90 : decode cX5_takePart 90 = .ok (.aload_n 0, 1) := by decide +kernel
theorem dX5_takePart_91 : decode cX5_takePart 91 = .ok (.aload_n 0, 1) := by decide +kernel
theorem dX5_takePart_92 : decode cX5_takePart 92 = .ok (.getfield 12, 3) := by decide +kernel
theorem dX5_takePart_95 : decode cX5_takePart 95 = .ok (.getfield 90, 3) := by decide +kernel
theorem dX5_takePart_98 : decode cX5_takePart 98 = .ok (.invokevirtual 93, 3) := by decide +kernel
theorem dX5_takePart_101 : decode cX5_takePart 101 = .ok (.ireturn, 1) := by decide +kernel
theorem dX5_takePart_102 : decode cX5_takePart 102 = .ok (.aload_n 0, 1) := by decide +kernel
theorem dX5_takePart_103 : decode cX5_takePart 103 = .ok (.getfield 40, 3) := by decide +kernel
theorem dX5_takePart_106 : decode cX5_takePart 106 = .ok (.ifCond .eq 20, 3) := by decide +kernel
theorem dX5_takePart_109 : decode cX5_takePart 109 = .ok (.aload_n 0, 1) := by decide +kernel
theorem dX5_takePart_110 : decode cX5_takePart 110 = .ok (.getfield 12, 3) := by decide +kernel
theorem dX5_takePart_113 : decode cX5_takePart 113 = .ok (.ldc 97, 2) := by decide +kernel
theorem dX5_takePart_115 : decode cX5_takePart 115 = .ok (.invokevirtual 99, 3) := by decide +kernel
theorem dX5_takePart_118 : decode cX5_takePart 118 = .ok (.ifCond .eq 8, 3) := by decide +kernel
theorem dX5_takePart_121 : decode cX5_takePart 121 = .ok (.aload_n 0, 1) := by decide +kernel
theorem dX5_takePart_122 : decode cX5_takePart 122 = .ok (.invokevirtual 103, 3) := by decide +kernel
theorem dX5_takePart_125 : decode cX5_takePart 125 = .ok (.ireturn, 1) := by decide +kernel
theorem dX5_takePart_126 : decode cX5_takePart 126 = .ok (.aload_n 0, 1) := by decide +kernel
theorem dX5_takePart_127 : decode cX5_takePart 127 = .ok (.invokevirtual 106, 3) := by decide +kernel
theorem dX5_takePart_130 : decode cX5_takePart 130 = .ok (.istore_n 1, 1) := by decide +kernel
theorem dX5_takePart_131 : decode cX5_takePart 131 = .ok (.iload_n 1, 1) := by decide +kernel
theorem dX5_takePart_132 : decode cX5_takePart 132 = .ok (.iconst (-1), 1) := by decide +kernel
theorem dX5_takePart_133 : decode cX5_takePart 133 = .ok (.if_icmp .ne 7, 3) := by decide +kernel
theorem dX5_takePart_136 : decode cX5_takePart 136 = .ok (.iconst 3, 1) := by decide +kernel
theorem dX5_takePart_137 : decode cX5_takePart 137 = .ok (.goto 10, 3) := by decide +kernel
theorem dX5_takePart_140 : decode cX5_takePart 140 = .ok (.aload_n 0, 1) := by decide +kernel
theorem dX5_takePart_141 : decode cX5_takePart 141 = .ok (.iconst (-1), 1) := by decide +kernel
theorem dX5_takePart_142 : decode cX5_takePart 142 = .ok (.iload_n 1, 1) := by decide +kernel
theorem dX5_takePart_143 : decode cX5_takePart 143 = .ok (.isub, 1) := by decide +kernel
theorem dX5_takePart_144 : decode cX5_takePart 144 = .ok (.invokevirtual 93, 3) := by decide +kernel
theorem dX5_takePart_147 : decode cX5_takePart 147 = .ok (.ireturn, 1) := by decide +kernel
theorem dX5_takeOpening_0 : decode cX5_takeOpening 0 = .ok (.aload_n 0, 1) := by decide +kernel
theorem dX5_takeOpening_1 : decode cX5_takeOpening 1 = .ok (.aload_n 0, 1) := by decide +kernel
theorem dX5_takeOpening_2 : decode cX5_takeOpening 2 = .ok (.getfield 43, 3) := by decide +kernel
theorem dX5_takeOpening_5 : decode cX5_takeOpening 5 = .ok (.ifCond .eq 8, 3) := by decide +kernel
theorem dX5_takeOpening_8 : decode cX5_takeOpening 8 = .ok (.bipush (-31), 2) := by decide +kernel
theorem dX5_takeOpening_10 : decode cX5_takeOpening 10 = .ok (.goto 5, 3) := by decide +kernel
theorem dX5_takeOpening_13 : decode cX5_takeOpening 13 = .ok (.bipush (-30), 2) := by decide +kernel
theorem dX5_takeOpening_15 : decode cX5_takeOpening 15 = .ok (.invokevirtual 109, 3) := by decide +kernel
theorem dX5_takeOpening_18 : decode cX5_takeOpening 18 = .ok (.aload_n 0, 1) := by decide +kernel
theorem dX5_takeOpening_19 : decode cX5_takeOpening 19 = .ok (.dup, 1) := by decide +kernel
theorem dX5_takeOpening_20 : decode cX5_takeOpening 20 = .ok (.getfield 46, 3) := by decide +kernel
theorem dX5_takeOpening_23 : decode cX5_takeOpening 23 = .ok (.iconst 1, 1) := by decide +kernel
theorem dX5_takeOpening_24 : decode cX5_takeOpening 24 = .ok (.iadd, 1) := by decide +kernel
theorem dX5_takeOpening_25 : decode cX5_takeOpening 25 = .ok (.putfield 46, 3) := by decide +kernel
theorem dX5_takeOpening_28 : decode cX5_takeOpening 28 = .ok (.aload_n 0, 1) := by decide +kernel
theorem dX5_takeOpening_29 : decode cX5_takeOpening 29 = .ok (.iconst 0, 1) := by decide +kernel
theorem dX5_takeOpening_30 : decode cX5_takeOpening 30 = .ok (.putfield 49, 3) := by decide +kernel
theorem dX5_takeOpening_33 : decode cX5_takeOpening 33 = .ok (.aload_n 0, 1) := by decide +kernel
theorem dX5_takeOpening_34 : decode cX5_takeOpening 34 = .ok (.invokevirtual 84, 3) := by decide +kernel
theorem dX5_takeOpening_37 : decode cX5_takeOpening 37 = .ok (.iconst 0, 1) := by decide +kernel
theorem dX5_takeOpening_38 : decode cX5_takeOpening 38 = .ok (.ireturn, 1) := by decide +kernel
theorem dX5_takeNot_0 : decode cX5_takeNot 0 = .ok (.aload_n 0, 1) := by decide +kernel
theorem dX5_takeNot_1 : decode cX5_takeNot 1 = .ok (.getfield 49, 3) := by decide +kernel
theorem dX5_takeNot_4 : decode cX5_takeNot 4 = .ok (.bipush 6, 2) := by decide +kernel
theorem dX5_takeNot_6 : decode cX5_takeNot 6 = .ok (.if_icmp .lt 5, 3) := by decide +kernel
theorem dX5_takeNot_9 : decode cX5_takeNot 9 = .ok (.iconst 2, 1) := by decide +kernel
theorem dX5_takeNot_10 : decode cX5_takeNot 10 = .ok (.ireturn, 1) := by decide +kernel
theorem dX5_takeNot_11 : decode cX5_takeNot 11 = .ok (.aload_n 0, 1) := by decide +kernel
theorem dX5_takeNot_12 : decode cX5_takeNot 12 = .ok (.dup, 1) := by decide +kernel
theorem dX5_takeNot_13 : decode cX5_takeNot 13 = .ok (.getfield 49, 3) := by decide +kernel
theorem dX5_takeNot_16 : decode cX5_takeNot 16 = .ok (.iconst 1, 1) := by decide +kernel
theorem dX5_takeNot_17 : decode cX5_takeNot 17 = .ok (.iadd, 1) := by decide +kernel
theorem dX5_takeNot_18 : decode cX5_takeNot 18 = .ok (.putfield 49, 3) := by decide +kernel
theorem dX5_takeNot_21 : decode cX5_takeNot 21 = .ok (.aload_n 0, 1) := by decide +kernel
theorem dX5_takeNot_22 : decode cX5_takeNot 22 = .ok (.bipush (-23), 2) := by decide +kernel
theorem dX5_takeNot_24 : decode cX5_takeNot 24 = .ok (.invokevirtual 109, 3) := by decide +kernel
theorem dX5_takeNot_27 : decode cX5_takeNot 27 = .ok (.iconst 0, 1) := by decide +kernel
theorem dX5_takeNot_28 : decode cX5_takeNot 28 = .ok (.ireturn, 1) := by decide +kernel
theorem dX5_endPart_0 : decode cX5_endPart 0 = .ok (.aload_n 0, 1) := by decide +kernel
theorem dX5_endPart_1 : decode cX5_endPart 1 = .ok (.getfield 21, 3) := by decide +kernel
theorem dX5_endPart_4 : decode cX5_endPart 4 = .ok (.iload_n 1, 1) := by decide +kernel
theorem dX5_endPart_5 : decode cX5_endPart 5 = .ok (.invokevirtual 112, 3) := by decide +kernel
theorem dX5_endPart_8 : decode cX5_endPart 8 = .ok (.aload_n 0, 1) := by decide +kernel
theorem dX5_endPart_9 : decode cX5_endPart 9 = .ok (.iconst 0, 1) := by decide +kernel
theorem dX5_endPart_10 : decode cX5_endPart 10 = .ok (.putfield 49, 3) := by decide +kernel
theorem dX5_endPart_13 : decode cX5_endPart 13 = .ok (.aload_n 0, 1) := by decide +kernel
theorem dX5_endPart_14 : decode cX5_endPart 14 = .ok (.iconst 0, 1) := by decide +kernel
theorem dX5_endPart_15 : decode cX5_endPart 15 = .ok (.putfield 37, 3) := by decide +kernel
theorem dX5_endPart_18 : decode cX5_endPart 18 = .ok (.iconst 0, 1) := by decide +kernel
theorem dX5_endPart_19 : decode cX5_endPart 19 = .ok (.ireturn, 1) := by decide +kernel
theorem dX5_takeOperator_0 : decode cX5_takeOperator 0 = .ok (.aload_n 0, 1) := by decide +kernel
theorem dX5_takeOperator_1 : decode cX5_takeOperator 1 = .ok (.getfield 12, 3) := by decide +kernel
theorem dX5_takeOperator_4 : decode cX5_takeOperator 4 = .ok (.getfield 63, 3) := by decide +kernel
theorem dX5_takeOperator_7 : decode cX5_takeOperator 7 = .ok (.bipush 41, 2) := by decide +kernel
theorem dX5_takeOperator_9 : decode cX5_takeOperator 9 = .ok (.if_icmp .ne 15, 3) := by decide +kernel
theorem dX5_takeOperator_12 : decode cX5_takeOperator 12 = .ok (.aload_n 0, 1) := by decide +kernel
theorem dX5_takeOperator_13 : decode cX5_takeOperator 13 = .ok (.getfield 46, 3) := by decide +kernel
theorem dX5_takeOperator_16 : decode cX5_takeOperator 16 = .ok (.ifCond .le 8, 3) := by decide +kernel
theorem dX5_takeOperator_19 : decode cX5_takeOperator 19 = .ok (.aload_n 0, 1) := by decide +kernel
theorem dX5_takeOperator_20 : decode cX5_takeOperator 20 = .ok (.invokevirtual 115, 3) := by decide +kernel
theorem dX5_takeOperator_23 : decode cX5_takeOperator 23 = .ok (.ireturn, 1) := by decide +kernel
theorem dX5_takeOperator_24 : decode cX5_takeOperator 24 = .ok (.aload_n 0, 1) := by decide +kernel
theorem dX5_takeOperator_25 : decode cX5_takeOperator 25 = .ok (.invokevirtual 118, 3) := by decide +kernel
theorem dX5_takeOperator_28 : decode cX5_takeOperator 28 = .ok (.istore_n 1, 1) := by decide +kernel
theorem dX5_takeOperator_29 : decode cX5_takeOperator 29 = .ok (.iload_n 1, 1) := by decide +kernel
theorem dX5_takeOperator_30 : decode cX5_takeOperator 30 = .ok (.bipush (-24), 2) := by decide +kernel
theorem dX5_takeOperator_32 : decode cX5_takeOperator 32 = .ok (.if_icmp .eq 9, 3) := by decide +kernel
theorem dX5_takeOperator_35 : decode cX5_takeOperator 35 = .ok (.iload_n 1, 1) := by decide +kernel
theorem dX5_takeOperator_36 : decode cX5_takeOperator 36 = .ok (.bipush (-25), 2) := by decide +kernel
theorem dX5_takeOperator_38 : decode cX5_takeOperator 38 = .ok (.if_icmp .ne 7, 3) := by decide +kernel
theorem dX5_takeOperator_41 : decode cX5_takeOperator 41 = .ok (.iconst 1, 1) := by decide +kernel
theorem dX5_takeOperator_42 : decode cX5_takeOperator 42 = .ok (.goto 4, 3) := by decide +kernel
theorem dX5_takeOperator_45 : decode cX5_takeOperator 45 = .ok (.iconst 0, 1) := by decide +kernel
theorem dX5_takeOperator_46 : decode cX5_takeOperator 46 = .ok (.istore_n 2, 1) := by decide +kernel
theorem dX5_takeOperator_47 : decode cX5_takeOperator 47 = .ok (.iload_n 1, 1) := by decide +kernel
theorem dX5_takeOperator_48 : decode cX5_takeOperator 48 = .ok (.ifCond .eq 14, 3) := by decide +kernel
theorem dX5_takeOperator_51 : decode cX5_takeOperator 51 = .ok (.iload_n 2, 1) := by decide +kernel
theorem dX5_takeOperator_52 : decode cX5_takeOperator 52 = .ok (.ifCond .eq 12, 3) := by decide +kernel
theorem dX5_takeOperator_55 : decode cX5_takeOperator 55 = .ok (.aload_n 0, 1) := by decide +kernel
theorem dX5_takeOperator_56 : decode cX5_takeOperator 56 = .ok (.getfield 43, 3) := by decide +kernel
theorem dX5_takeOperator_59 : decode cX5_takeOperator 59 = .ok (.ifCond .eq 5, 3) := by decide +kernel
theorem dX5_takeOperator_62 : decode cX5_takeOperator 62 = .ok (.iconst 1, 1) := by decide +kernel
theorem dX5_takeOperator_63 : decode cX5_takeOperator 63 = .ok (.ireturn, 1) := by decide +kernel
theorem dX5_takeOperator_64 : decode cX5_takeOperator 64 = .ok (.aload_n 0, 1) := by decide +kernel
theorem dX5_takeOperator_65 : decode cX5_takeOperator 65 = .ok (.iload_n 1, 1) := by decide +kernel
theorem dX5_takeOperator_66 : decode cX5_takeOperator 66 = .ok (.invokestatic 121, 3) := by decide +kernel
theorem dX5_takeOperator_69 : decode cX5_takeOperator 69 = .ok (.invokevirtual 66, 3) := by decide +kernel
theorem dX5_takeOperator_72 : decode cX5_takeOperator 72 = .ok (.aload_n 0, 1) := by decide +kernel
theorem dX5_takeOperator_73 : decode cX5_takeOperator 73 = .ok (.iload_n 1, 1) := by decide +kernel
theorem dX5_takeOperator_74 : decode cX5_takeOperator 74 = .ok (.invokevirtual 109, 3) := by decide +kernel
theorem dX5_takeOperator_77 : decode cX5_takeOperator 77 = .ok (.aload_n 0, 1) := by decide +kernel
theorem dX5_takeOperator_78 : decode cX5_takeOperator 78 = .ok (.iconst 1, 1) := by decide +kernel
theorem dX5_takeOperator_79 : decode cX5_takeOperator 79 = .ok (.putfield 37, 3) := by decide +kernel
theorem dX5_takeOperator_82 : decode cX5_takeOperator 82 = .ok (.aload_n 0, 1) := by decide +kernel
theorem dX5_takeOperator_83 : decode cX5_takeOperator 83 = .ok (.iload_n 1, 1) := by decide +kernel
theorem dX5_takeOperator_84 : decode cX5_takeOperator 84 = .ok (.bipush (-21), 2) := by decide +kernel
theorem dX5_takeOperator_86 : decode cX5_takeOperator 86 = .ok (.if_icmp .eq 9, 3) := by decide +kernel
theorem dX5_takeOperator_89 : decode cX5_takeOperator 89 = .ok (.iload_n 1, 1) := by decide +kernel
theorem dX5_takeOperator_90 : decode cX5_takeOperator 90 = .ok (.bipush (-22), 2) := by decide +kernel
theorem dX5_takeOperator_92 : decode cX5_takeOperator 92 = .ok (.if_icmp .ne 7, 3) := by decide +kernel
theorem dX5_takeOperator_95 : decode cX5_takeOperator 95 = .ok (.iconst 1, 1) := by decide +kernel
theorem dX5_takeOperator_96 : decode cX5_takeOperator 96 = .ok (.goto 4, 3) := by decide +kernel
theorem dX5_takeOperator_99 : decode cX5_takeOperator 99 = .ok (.iconst 0, 1) := by decide +kernel
theorem dX5_takeOperator_100 : decode cX5_takeOperator 100 = .ok (.putfield 40, 3) := by decide +kernel
theorem dX5_takeOperator_103 : decode cX5_takeOperator 103 = .ok (.aload_n 0, 1) := by decide +kernel
theorem dX5_takeOperator_104 : decode cX5_takeOperator 104 = .ok (.iload_n 2, 1) := by decide +kernel
theorem dX5_takeOperator_105 : decode cX5_takeOperator 105 = .ok (.ifCond .ne 17, 3) := by decide +kernel
theorem dX5_takeOperator_108 : decode cX5_takeOperator 108 = .ok (.aload_n 0, 1) := by decide +kernel
theorem dX5_takeOperator_109 : decode cX5_takeOperator 109 = .ok (.getfield 43, 3) := by decide +kernel
theorem dX5_takeOperator_112 : decode cX5_takeOperator 112 = .ok (.ifCond .eq 14, 3) := by decide +kernel
theorem dX5_takeOperator_115 : decode cX5_takeOperator 115 = .ok (.aload_n 0, 1) := by decide +kernel
theorem dX5_takeOperator_116 : decode cX5_takeOperator 116 = .ok (.getfield 40, 3) := by decide +kernel
theorem dX5_takeOperator_119 : decode cX5_takeOperator 119 = .ok (.ifCond .ne 7, 3) := by decide +kernel
theorem dX5_takeOperator_122 : decode cX5_takeOperator 122 = .ok (.iconst 1, 1) := by decide +kernel
theorem dX5_takeOperator_123 : decode cX5_takeOperator 123 = .ok (.goto 4, 3) := by decide +kernel
theorem dX5_takeOperator_126 : decode cX5_takeOperator 126 = .ok (.iconst 0, 1) := by decide +kernel
theorem dX5_takeOperator_127 : decode cX5_takeOperator 127 = .ok (.putfield 43, 3) := by decide +kernel
theorem dX5_takeOperator_130 : decode cX5_takeOperator 130 = .ok (.iconst 0, 1) := by decide +kernel
theorem dX5_takeOperator_131 : decode cX5_takeOperator 131 = .ok (.ireturn, 1) := by decide +kernel
theorem dX5_takeClosing_0 : decode cX5_takeClosing 0 = .ok (.aload_n 0, 1) := by decide +kernel
theorem dX5_takeClosing_1 : decode cX5_takeClosing 1 = .ok (.iconst 1, 1) := by decide +kernel
theorem dX5_takeClosing_2 : decode cX5_takeClosing 2 = .ok (.invokevirtual 66, 3) := by decide +kernel
theorem dX5_takeClosing_5 : decode cX5_takeClosing 5 = .ok (.aload_n 0, 1) := by decide +kernel
theorem dX5_takeClosing_6 : decode cX5_takeClosing 6 = .ok (.getfield 29, 3) := by decide +kernel
theorem dX5_takeClosing_9 : decode cX5_takeClosing 9 = .ok (.ifCond .le 36, 3) := by decide +kernel
theorem dX5_takeClosing_12 : decode cX5_takeClosing 12 = .ok (.aload_n 0, 1) := by decide +kernel
theorem dX5_takeClosing_13 : decode cX5_takeClosing 13 = .ok (.dup, 1) := by decide +kernel
theorem dX5_takeClosing_14 : decode cX5_takeClosing 14 = .ok (.getfield 29, 3) := by decide +kernel
theorem dX5_takeClosing_17 : decode cX5_takeClosing 17 = .ok (.iconst 1, 1) := by decide +kernel
theorem dX5_takeClosing_18 : decode cX5_takeClosing 18 = .ok (.isub, 1) := by decide +kernel
theorem dX5_takeClosing_19 : decode cX5_takeClosing 19 = .ok (.putfield 29, 3) := by decide +kernel
theorem dX5_takeClosing_22 : decode cX5_takeClosing 22 = .ok (.aload_n 0, 1) := by decide +kernel
theorem dX5_takeClosing_23 : decode cX5_takeClosing 23 = .ok (.aload_n 0, 1) := by decide +kernel
theorem dX5_takeClosing_24 : decode cX5_takeClosing 24 = .ok (.getfield 25, 3) := by decide +kernel
theorem dX5_takeClosing_27 : decode cX5_takeClosing 27 = .ok (.aload_n 0, 1) := by decide +kernel
theorem dX5_takeClosing_28 : decode cX5_takeClosing 28 = .ok (.getfield 29, 3) := by decide +kernel
theorem dX5_takeClosing_31 : decode cX5_takeClosing 31 = .ok (.iaload, 1) := by decide +kernel
theorem dX5_takeClosing_32 : decode cX5_takeClosing 32 = .ok (.bipush (-31), 2) := by decide +kernel
theorem dX5_takeClosing_34 : decode cX5_takeClosing 34 = .ok (.if_icmp .ne 7, 3) := by decide +kernel
theorem dX5_takeClosing_37 : decode cX5_takeClosing 37 = .ok (.iconst 1, 1) := by decide +kernel
theorem dX5_takeClosing_38 : decode cX5_takeClosing 38 = .ok (.goto 4, 3) := by decide +kernel
theorem dX5_takeClosing_41 : decode cX5_takeClosing 41 = .ok (.iconst 0, 1) := by decide +kernel
theorem dX5_takeClosing_42 : decode cX5_takeClosing 42 = .ok (.putfield 43, 3) := by decide +kernel
theorem dX5_takeClosing_45 : decode cX5_takeClosing 45 = .ok (.aload_n 0, 1) := by decide +kernel
theorem dX5_takeClosing_46 : decode cX5_takeClosing 46 = .ok (.dup, 1) := by decide +kernel
theorem dX5_takeClosing_47 : decode cX5_takeClosing 47 = .ok (.getfield 46, 3) := by decide +kernel
theorem dX5_takeClosing_50 : decode cX5_takeClosing 50 = .ok (.iconst 1, 1) := by decide +kernel
theorem dX5_takeClosing_51 : decode cX5_takeClosing 51 = .ok (.isub, 1) := by decide +kernel
theorem dX5_takeClosing_52 : decode cX5_takeClosing 52 = .ok (.putfield 46, 3) := by decide +kernel
theorem dX5_takeClosing_55 : decode cX5_takeClosing 55 = .ok (.iconst 0, 1) := by decide +kernel
theorem dX5_takeClosing_56 : decode cX5_takeClosing 56 = .ok (.ireturn, 1) := by decide +kernel
theorem dX5_hold_0 : decode cX5_hold 0 = .ok (.aload_n 0, 1) := by decide +kernel
theorem dX5_hold_1 : decode cX5_hold 1 = .ok (.getfield 29, 3) := by decide +kernel
theorem dX5_hold_4 : decode cX5_hold 4 = .ok (.sipush 128, 3) := by decide +kernel
theorem dX5_hold_7 : decode cX5_hold 7 = .ok (.if_icmp .ge 23, 3) := by decide +kernel
theorem dX5_hold_10 : decode cX5_hold 10 = .ok (.aload_n 0, 1) := by decide +kernel
theorem dX5_hold_11 : decode cX5_hold 11 = .ok (.getfield 25, 3) := by decide +kernel
theorem dX5_hold_14 : decode cX5_hold 14 = .ok (.aload_n 0, 1) := by decide +kernel
theorem dX5_hold_15 : decode cX5_hold 15 = .ok (.getfield 29, 3) := by decide +kernel
theorem dX5_hold_18 : decode cX5_hold 18 = .ok (.iload_n 1, 1) := by decide +kernel
theorem dX5_hold_19 : decode cX5_hold 19 = .ok (.iastore, 1) := by decide +kernel
theorem dX5_hold_20 : decode cX5_hold 20 = .ok (.aload_n 0, 1) := by decide +kernel
theorem dX5_hold_21 : decode cX5_hold 21 = .ok (.dup, 1) := by decide +kernel
theorem dX5_hold_22 : decode cX5_hold 22 = .ok (.getfield 29, 3) := by decide +kernel
theorem dX5_hold_25 : decode cX5_hold 25 = .ok (.iconst 1, 1) := by decide +kernel
theorem dX5_hold_26 : decode cX5_hold 26 = .ok (.iadd, 1) := by decide +kernel
theorem dX5_hold_27 : decode cX5_hold 27 = .ok (.putfield 29, 3) := by decide +kernel
theorem dX5_hold_30 : decode cX5_hold 30 = .ok (.return_, 1) := by decide +kernel
theorem dX5_release_0 : decode cX5_release 0 = .ok (.aload_n 0, 1) := by decide +kernel
theorem dX5_release_1 : decode cX5_release 1 = .ok (.getfield 29, 3) := by decide +kernel
theorem dX5_release_4 : decode cX5_release 4 = .ok (.ifCond .le 50, 3) := by decide +kernel
theorem dX5_release_7 : decode cX5_release 7 = .ok (.aload_n 0, 1) := by decide +kernel
theorem dX5_release_8 : decode cX5_release 8 = .ok (.getfield 25, 3) := by decide +kernel
theorem dX5_release_11 : decode cX5_release 11 = .ok (.aload_n 0, 1) := by decide +kernel
theorem dX5_release_12 : decode cX5_release 12 = .ok (.getfield 29, 3) := by decide +kernel
theorem dX5_release_15 : decode cX5_release 15 = .ok (.iconst 1, 1) := by decide +kernel
theorem dX5_release_16 : decode cX5_release 16 = .ok (.isub, 1) := by decide +kernel
theorem dX5_release_17 : decode cX5_release 17 = .ok (.iaload, 1) := by decide +kernel
theorem dX5_release_18 : decode cX5_release 18 = .ok (.invokestatic 121, 3) := by decide +kernel
theorem dX5_release_21 : decode cX5_release 21 = .ok (.iload_n 1, 1) := by decide +kernel
theorem dX5_release_22 : decode cX5_release 22 = .ok (.if_icmp .lt 32, 3) := by decide +kernel
theorem dX5_release_25 : decode cX5_release 25 = .ok (.aload_n 0, 1) := by decide +kernel
theorem dX5_release_26 : decode cX5_release 26 = .ok (.dup, 1) := by decide +kernel
theorem dX5_release_27 : decode cX5_release 27 = .ok (.getfield 29, 3) := by decide +kernel
theorem dX5_release_30 : decode cX5_release 30 = .ok (.iconst 1, 1) := by decide +kernel
theorem dX5_release_31 : decode cX5_release 31 = .ok (.isub, 1) := by decide +kernel
theorem dX5_release_32 : decode cX5_release 32 = .ok (.putfield 29, 3) := by decide +kernel
theorem dX5_release_35 : decode cX5_release 35 = .ok (.aload_n 0, 1) := by decide +kernel
theorem dX5_release_36 : decode cX5_release 36 = .ok (.getfield 21, 3) := by decide +kernel
theorem dX5_release_39 : decode cX5_release 39 = .ok (.aload_n 0, 1) := by decide +kernel
theorem dX5_release_40 : decode cX5_release 40 = .ok (.getfield 25, 3) := by decide +kernel
theorem dX5_release_43 : decode cX5_release 43 = .ok (.aload_n 0, 1) := by decide +kernel
theorem dX5_release_44 : decode cX5_release 44 = .ok (.getfield 29, 3) := by decide +kernel
theorem dX5_release_47 : decode cX5_release 47 = .ok (.iaload, 1) := by decide +kernel
theorem dX5_release_48 : decode cX5_release 48 = .ok (.invokevirtual 112, 3) := by decide +kernel
theorem dX5_release_51 : decode cX5_release 51 = .ok (.goto (-51), 3) := by decide +kernel
theorem dX5_release_54 : decode cX5_release 54 = .ok (.return_, 1) := by decide +kernel
theorem dX5_binding_0 : decode cX5_binding 0 = .ok (.iload_n 0, 1) := by decide +kernel
theorem dX5_binding_1 : decode cX5_binding 1 = .ok (.tableswitch 64 (-29) (-21) #[61, 61, 59, 59, 57, 57, 55, 53, 51], 51) := by decide +kernel
theorem dX5_binding_52 : decode cX5_binding 52 = .ok (.iconst 1, 1) := by decide +kernel
theorem dX5_binding_53 : decode cX5_binding 53 = .ok (.ireturn, 1) := by decide +kernel
theorem dX5_binding_54 : decode cX5_binding 54 = .ok (.iconst 2, 1) := by decide +kernel
theorem dX5_binding_55 : decode cX5_binding 55 = .ok (.ireturn, 1) := by decide +kernel
theorem dX5_binding_56 : decode cX5_binding 56 = .ok (.iconst 3, 1) := by decide +kernel
theorem dX5_binding_57 : decode cX5_binding 57 = .ok (.ireturn, 1) := by decide +kernel
theorem dX5_binding_58 : decode cX5_binding 58 = .ok (.iconst 4, 1) := by decide +kernel
theorem dX5_binding_59 : decode cX5_binding 59 = .ok (.ireturn, 1) := by decide +kernel
theorem dX5_binding_60 : decode cX5_binding 60 = .ok (.iconst 5, 1) := by decide +kernel
theorem dX5_binding_61 : decode cX5_binding 61 = .ok (.ireturn, 1) := by decide +kernel
theorem dX5_binding_62 : decode cX5_binding 62 = .ok (.bipush 6, 2) := by decide +kernel
theorem dX5_binding_64 : decode cX5_binding 64 = .ok (.ireturn, 1) := by decide +kernel
theorem dX5_binding_65 : decode cX5_binding 65 = .ok (.iconst 0, 1) := by decide +kernel
theorem dX5_binding_66 : decode cX5_binding 66 = .ok (.ireturn, 1) := by decide +kernel
theorem dX5_operatorOf_0 : decode cX5_operatorOf 0 = .ok (.aload_n 0, 1) := by decide +kernel
theorem dX5_operatorOf_1 : decode cX5_operatorOf 1 = .ok (.getfield 12, 3) := by decide +kernel
theorem dX5_operatorOf_4 : decode cX5_operatorOf 4 = .ok (.getfield 63, 3) := by decide +kernel
theorem dX5_operatorOf_7 : decode cX5_operatorOf 7 = .ok (.tableswitch 111 42 61 #[105, 99, 111, 102, 111, 108, 111, 111, 111, 111, 111, 111, 111, 111, 111, 111, 111, 111, 93, 96], 93) := by decide +kernel
theorem dX5_operatorOf_100 : decode cX5_operatorOf 100 = .ok (.bipush (-24), 2) := by decide +kernel
theorem dX5_operatorOf_102 : decode cX5_operatorOf 102 = .ok (.ireturn, 1) := by decide +kernel
theorem dX5_operatorOf_103 : decode cX5_operatorOf 103 = .ok (.bipush (-25), 2) := by decide +kernel
theorem dX5_operatorOf_105 : decode cX5_operatorOf 105 = .ok (.ireturn, 1) := by decide +kernel
theorem dX5_operatorOf_106 : decode cX5_operatorOf 106 = .ok (.bipush (-26), 2) := by decide +kernel
theorem dX5_operatorOf_108 : decode cX5_operatorOf 108 = .ok (.ireturn, 1) := by decide +kernel
theorem dX5_operatorOf_109 : decode cX5_operatorOf 109 = .ok (.bipush (-27), 2) := by decide +kernel
theorem dX5_operatorOf_111 : decode cX5_operatorOf 111 = .ok (.ireturn, 1) := by decide +kernel
theorem dX5_operatorOf_112 : decode cX5_operatorOf 112 = .ok (.bipush (-28), 2) := by decide +kernel
theorem dX5_operatorOf_114 : decode cX5_operatorOf 114 = .ok (.ireturn, 1) := by decide +kernel
theorem dX5_operatorOf_115 : decode cX5_operatorOf 115 = .ok (.bipush (-29), 2) := by decide +kernel
theorem dX5_operatorOf_117 : decode cX5_operatorOf 117 = .ok (.ireturn, 1) := by decide +kernel
theorem dX5_operatorOf_118 : decode cX5_operatorOf 118 = .ok (.aload_n 0, 1) := by decide +kernel
theorem dX5_operatorOf_119 : decode cX5_operatorOf 119 = .ok (.getfield 12, 3) := by decide +kernel
theorem dX5_operatorOf_122 : decode cX5_operatorOf 122 = .ok (.ldc 124, 2) := by decide +kernel
theorem dX5_operatorOf_124 : decode cX5_operatorOf 124 = .ok (.invokevirtual 99, 3) := by decide +kernel
theorem dX5_operatorOf_127 : decode cX5_operatorOf 127 = .ok (.ifCond .eq 8, 3) := by decide +kernel
theorem dX5_operatorOf_130 : decode cX5_operatorOf 130 = .ok (.bipush (-21), 2) := by decide +kernel
theorem dX5_operatorOf_132 : decode cX5_operatorOf 132 = .ok (.goto 21, 3) := by decide +kernel
theorem dX5_operatorOf_135 : decode cX5_operatorOf 135 = .ok (.aload_n 0, 1) := by decide +kernel
theorem dX5_operatorOf_136 : decode cX5_operatorOf 136 = .ok (.getfield 12, 3) := by decide +kernel
theorem dX5_operatorOf_139 : decode cX5_operatorOf 139 = .ok (.ldc 126, 2) := by decide +kernel
theorem dX5_operatorOf_141 : decode cX5_operatorOf 141 = .ok (.invokevirtual 99, 3) := by decide +kernel
theorem dX5_operatorOf_144 : decode cX5_operatorOf 144 = .ok (.ifCond .eq 8, 3) := by decide +kernel
theorem dX5_operatorOf_147 : decode cX5_operatorOf 147 = .ok (.bipush (-22), 2) := by decide +kernel
theorem dX5_operatorOf_149 : decode cX5_operatorOf 149 = .ok (.goto 4, 3) := by decide +kernel
theorem dX5_operatorOf_152 : decode cX5_operatorOf 152 = .ok (.iconst 0, 1) := by decide +kernel
theorem dX5_operatorOf_153 : decode cX5_operatorOf 153 = .ok (.ireturn, 1) := by decide +kernel
theorem dX5_valueOf_0 : decode cX5_valueOf 0 = .ok (.aload_n 0, 1) := by decide +kernel
theorem dX5_valueOf_1 : decode cX5_valueOf 1 = .ok (.getfield 12, 3) := by decide +kernel
theorem dX5_valueOf_4 : decode cX5_valueOf 4 = .ok (.ldc 128, 2) := by decide +kernel
theorem dX5_valueOf_6 : decode cX5_valueOf 6 = .ok (.invokevirtual 99, 3) := by decide +kernel
theorem dX5_valueOf_9 : decode cX5_valueOf 9 = .ok (.ifCond .eq 7, 3) := by decide +kernel
theorem dX5_valueOf_12 : decode cX5_valueOf 12 = .ok (.iconst 0, 1) := by decide +kernel
theorem dX5_valueOf_13 : decode cX5_valueOf 13 = .ok (.goto 52, 3) := by decide +kernel
theorem dX5_valueOf_16 : decode cX5_valueOf 16 = .ok (.aload_n 0, 1) := by decide +kernel
theorem dX5_valueOf_17 : decode cX5_valueOf 17 = .ok (.getfield 12, 3) := by decide +kernel
theorem dX5_valueOf_20 : decode cX5_valueOf 20 = .ok (.ldc 130, 2) := by decide +kernel
theorem dX5_valueOf_22 : decode cX5_valueOf 22 = .ok (.invokevirtual 99, 3) := by decide +kernel
theorem dX5_valueOf_25 : decode cX5_valueOf 25 = .ok (.ifCond .eq 7, 3) := by decide +kernel
theorem dX5_valueOf_28 : decode cX5_valueOf 28 = .ok (.iconst 1, 1) := by decide +kernel
theorem dX5_valueOf_29 : decode cX5_valueOf 29 = .ok (.goto 36, 3) := by decide +kernel
theorem dX5_valueOf_32 : decode cX5_valueOf 32 = .ok (.aload_n 0, 1) := by decide +kernel
theorem dX5_valueOf_33 : decode cX5_valueOf 33 = .ok (.getfield 12, 3) := by decide +kernel
theorem dX5_valueOf_36 : decode cX5_valueOf 36 = .ok (.ldc 132, 2) := by decide +kernel
theorem dX5_valueOf_38 : decode cX5_valueOf 38 = .ok (.invokevirtual 99, 3) := by decide +kernel
theorem dX5_valueOf_41 : decode cX5_valueOf 41 = .ok (.ifCond .eq 7, 3) := by decide +kernel
theorem dX5_valueOf_44 : decode cX5_valueOf 44 = .ok (.iconst 2, 1) := by decide +kernel
theorem dX5_valueOf_45 : decode cX5_valueOf 45 = .ok (.goto 20, 3) := by decide +kernel
theorem dX5_valueOf_48 : decode cX5_valueOf 48 = .ok (.aload_n 0, 1) := by decide +kernel
theorem dX5_valueOf_49 : decode cX5_valueOf 49 = .ok (.getfield 12, 3) := by decide +kernel
theorem dX5_valueOf_52 : decode cX5_valueOf 52 = .ok (.ldc 134, 2) := by decide +kernel
theorem dX5_valueOf_54 : decode cX5_valueOf 54 = .ok (.invokevirtual 99, 3) := by decide +kernel
theorem dX5_valueOf_57 : decode cX5_valueOf 57 = .ok (.ifCond .eq 7, 3) := by decide +kernel
theorem dX5_valueOf_60 : decode cX5_valueOf 60 = .ok (.iconst 3, 1) := by decide +kernel
theorem dX5_valueOf_61 : decode cX5_valueOf 61 = .ok (.goto 4, 3) := by decide +kernel
theorem dX5_valueOf_64 : decode cX5_valueOf 64 = .ok (.iconst (-1), 1) := by decide +kernel
theorem dX5_valueOf_65 : decode cX5_valueOf 65 = .ok (.istore_n 1, 1) := by decide +kernel
theorem dX5_valueOf_66 : decode cX5_valueOf 66 = .ok (.iload_n 1, 1) := by decide +kernel
theorem dX5_valueOf_67 : decode cX5_valueOf 67 = .ok (.iconst (-1), 1) := by decide +kernel
theorem dX5_valueOf_68 : decode cX5_valueOf 68 = .ok (.if_icmp .ne 10, 3) := by decide +kernel
theorem dX5_valueOf_71 : decode cX5_valueOf 71 = .ok (.aload_n 0, 1) := by decide +kernel
theorem dX5_valueOf_72 : decode cX5_valueOf 72 = .ok (.getfield 33, 3) := by decide +kernel
theorem dX5_valueOf_75 : decode cX5_valueOf 75 = .ok (.ifCond .ne 5, 3) := by decide +kernel
theorem dX5_valueOf_78 : decode cX5_valueOf 78 = .ok (.iload_n 1, 1) := by decide +kernel
theorem dX5_valueOf_79 : decode cX5_valueOf 79 = .ok (.ireturn, 1) := by decide +kernel
theorem dX5_valueOf_80 : decode cX5_valueOf 80 = .ok (.aload_n 0, 1) := by decide +kernel
theorem dX5_valueOf_81 : decode cX5_valueOf 81 = .ok (.getfield 12, 3) := by decide +kernel
theorem dX5_valueOf_84 : decode cX5_valueOf 84 = .ok (.ldc 136, 2) := by decide +kernel
theorem dX5_valueOf_86 : decode cX5_valueOf 86 = .ok (.invokevirtual 99, 3) := by decide +kernel
theorem dX5_valueOf_89 : decode cX5_valueOf 89 = .ok (.ifCond .eq 7, 3) := by decide +kernel
theorem dX5_valueOf_92 : decode cX5_valueOf 92 = .ok (.iconst 4, 1) := by decide +kernel
theorem dX5_valueOf_93 : decode cX5_valueOf 93 = .ok (.goto 88, 3) := by decide +kernel
theorem dX5_valueOf_96 : decode cX5_valueOf 96 = .ok (.aload_n 0, 1) := by decide +kernel
theorem dX5_valueOf_97 : decode cX5_valueOf 97 = .ok (.getfield 12, 3) := by decide +kernel
theorem dX5_valueOf_100 : decode cX5_valueOf 100 = .ok (.ldc 138, 2) := by decide +kernel
theorem dX5_valueOf_102 : decode cX5_valueOf 102 = .ok (.invokevirtual 99, 3) := by decide +kernel
theorem dX5_valueOf_105 : decode cX5_valueOf 105 = .ok (.ifCond .eq 7, 3) := by decide +kernel
theorem dX5_valueOf_108 : decode cX5_valueOf 108 = .ok (.iconst 5, 1) := by decide +kernel
theorem dX5_valueOf_109 : decode cX5_valueOf 109 = .ok (.goto 72, 3) := by decide +kernel
theorem dX5_valueOf_112 : decode cX5_valueOf 112 = .ok (.aload_n 0, 1) := by decide +kernel
theorem dX5_valueOf_113 : decode cX5_valueOf 113 = .ok (.getfield 12, 3) := by decide +kernel
theorem dX5_valueOf_116 : decode cX5_valueOf 116 = .ok (.ldc 140, 2) := by decide +kernel
theorem dX5_valueOf_118 : decode cX5_valueOf 118 = .ok (.invokevirtual 99, 3) := by decide +kernel
theorem dX5_valueOf_121 : decode cX5_valueOf 121 = .ok (.ifCond .eq 8, 3) := by decide +kernel
theorem dX5_valueOf_124 : decode cX5_valueOf 124 = .ok (.bipush 6, 2) := by decide +kernel
theorem dX5_valueOf_126 : decode cX5_valueOf 126 = .ok (.goto 55, 3) := by decide +kernel
theorem dX5_valueOf_129 : decode cX5_valueOf 129 = .ok (.aload_n 0, 1) := by decide +kernel
theorem dX5_valueOf_130 : decode cX5_valueOf 130 = .ok (.getfield 12, 3) := by decide +kernel
theorem dX5_valueOf_133 : decode cX5_valueOf 133 = .ok (.ldc 142, 2) := by decide +kernel
theorem dX5_valueOf_135 : decode cX5_valueOf 135 = .ok (.invokevirtual 99, 3) := by decide +kernel
theorem dX5_valueOf_138 : decode cX5_valueOf 138 = .ok (.ifCond .eq 8, 3) := by decide +kernel
theorem dX5_valueOf_141 : decode cX5_valueOf 141 = .ok (.bipush 7, 2) := by decide +kernel
theorem dX5_valueOf_143 : decode cX5_valueOf 143 = .ok (.goto 38, 3) := by decide +kernel
theorem dX5_valueOf_146 : decode cX5_valueOf 146 = .ok (.aload_n 0, 1) := by decide +kernel
theorem dX5_valueOf_147 : decode cX5_valueOf 147 = .ok (.getfield 12, 3) := by decide +kernel
theorem dX5_valueOf_150 : decode cX5_valueOf 150 = .ok (.ldc 144, 2) := by decide +kernel
theorem dX5_valueOf_152 : decode cX5_valueOf 152 = .ok (.invokevirtual 99, 3) := by decide +kernel
theorem dX5_valueOf_155 : decode cX5_valueOf 155 = .ok (.ifCond .eq 8, 3) := by decide +kernel
theorem dX5_valueOf_158 : decode cX5_valueOf 158 = .ok (.bipush 8, 2) := by decide +kernel
theorem dX5_valueOf_160 : decode cX5_valueOf 160 = .ok (.goto 21, 3) := by decide +kernel
theorem dX5_valueOf_163 : decode cX5_valueOf 163 = .ok (.aload_n 0, 1) := by decide +kernel
theorem dX5_valueOf_164 : decode cX5_valueOf 164 = .ok (.getfield 12, 3) := by decide +kernel
theorem dX5_valueOf_167 : decode cX5_valueOf 167 = .ok (.ldc 146, 2) := by decide +kernel
theorem dX5_valueOf_169 : decode cX5_valueOf 169 = .ok (.invokevirtual 99, 3) := by decide +kernel
theorem dX5_valueOf_172 : decode cX5_valueOf 172 = .ok (.ifCond .eq 8, 3) := by decide +kernel
theorem dX5_valueOf_175 : decode cX5_valueOf 175 = .ok (.bipush 9, 2) := by decide +kernel
theorem dX5_valueOf_177 : decode cX5_valueOf 177 = .ok (.goto 4, 3) := by decide +kernel
theorem dX5_valueOf_180 : decode cX5_valueOf 180 = .ok (.iconst (-1), 1) := by decide +kernel
theorem dX5_valueOf_181 : decode cX5_valueOf 181 = .ok (.ireturn, 1) := by decide +kernel
theorem dX6_init_0 : decode cX6_init 0 = .ok (.aload_n 0, 1) := by decide +kernel
theorem dX6_init_1 : decode cX6_init 1 = .ok (.invokespecial 3, 3) := by decide +kernel
theorem dX6_init_4 : decode cX6_init 4 = .ok (.aload_n 0, 1) := by decide +kernel
theorem dX6_init_5 : decode cX6_init 5 = .ok (.bipush 32, 2) := by decide +kernel
theorem dX6_init_7 : decode cX6_init 7 = .ok (.newarray .int, 2) := by decide +kernel
theorem dX6_init_9 : decode cX6_init 9 = .ok (.putfield 11, 3) := by decide +kernel
theorem dX6_init_12 : decode cX6_init 12 = .ok (.aload_n 0, 1) := by decide +kernel
theorem dX6_init_13 : decode cX6_init 13 = .ok (.iconst 0, 1) := by decide +kernel
theorem dX6_init_14 : decode cX6_init 14 = .ok (.putfield 15, 3) := by decide +kernel
theorem dX6_init_17 : decode cX6_init 17 = .ok (.return_, 1) := by decide +kernel
theorem dX6_add_0 : decode cX6_add 0 = .ok (.aload_n 0, 1) := by decide +kernel
theorem dX6_add_1 : decode cX6_add 1 = .ok (.getfield 15, 3) := by decide +kernel
theorem dX6_add_4 : decode cX6_add 4 = .ok (.bipush 8, 2) := by decide +kernel
theorem dX6_add_6 : decode cX6_add 6 = .ok (.if_icmp .ge 68, 3) := by decide +kernel
theorem dX6_add_9 : decode cX6_add 9 = .ok (.aload_n 0, 1) := by decide +kernel
theorem dX6_add_10 : decode cX6_add 10 = .ok (.getfield 15, 3) := by decide +kernel
theorem dX6_add_13 : decode cX6_add 13 = .ok (.iconst 4, 1) := by decide +kernel
theorem dX6_add_14 : decode cX6_add 14 = .ok (.imul, 1) := by decide +kernel
theorem dX6_add_15 : decode cX6_add 15 = .ok (.istore 5, 2) := by decide +kernel
theorem dX6_add_17 : decode cX6_add 17 = .ok (.aload_n 0, 1) := by decide +kernel
theorem dX6_add_18 : decode cX6_add 18 = .ok (.getfield 11, 3) := by decide +kernel
theorem dX6_add_21 : decode cX6_add 21 = .ok (.iload 5, 2) := by decide +kernel
theorem dX6_add_23 : decode cX6_add 23 = .ok (.iload_n 1, 1) := by decide +kernel
theorem dX6_add_24 : decode cX6_add 24 = .ok (.iastore, 1) := by decide +kernel
theorem dX6_add_25 : decode cX6_add 25 = .ok (.aload_n 0, 1) := by decide +kernel
theorem dX6_add_26 : decode cX6_add 26 = .ok (.getfield 11, 3) := by decide +kernel
theorem dX6_add_29 : decode cX6_add 29 = .ok (.iload 5, 2) := by decide +kernel
theorem dX6_add_31 : decode cX6_add 31 = .ok (.iconst 1, 1) := by decide +kernel
theorem dX6_add_32 : decode cX6_add 32 = .ok (.iadd, 1) := by decide +kernel
theorem dX6_add_33 : decode cX6_add 33 = .ok (.iload_n 2, 1) := by decide +kernel
theorem dX6_add_34 : decode cX6_add 34 = .ok (.iastore, 1) := by decide +kernel
theorem dX6_add_35 : decode cX6_add 35 = .ok (.aload_n 0, 1) := by decide +kernel
theorem dX6_add_36 : decode cX6_add 36 = .ok (.getfield 11, 3) := by decide +kernel
theorem dX6_add_39 : decode cX6_add 39 = .ok (.iload 5, 2) := by decide +kernel
theorem dX6_add_41 : decode cX6_add 41 = .ok (.iconst 2, 1) := by decide +kernel
theorem dX6_add_42 : decode cX6_add 42 = .ok (.iadd, 1) := by decide +kernel
theorem dX6_add_43 : decode cX6_add 43 = .ok (.iload_n 3, 1) := by decide +kernel
theorem dX6_add_44 : decode cX6_add 44 = .ok (.iastore, 1) := by decide +kernel
theorem dX6_add_45 : decode cX6_add 45 = .ok (.aload_n 0, 1) := by decide +kernel
theorem dX6_add_46 : decode cX6_add 46 = .ok (.getfield 11, 3) := by decide +kernel
theorem dX6_add_49 : decode cX6_add 49 = .ok (.iload 5, 2) := by decide +kernel
theorem dX6_add_51 : decode cX6_add 51 = .ok (.iconst 3, 1) := by decide +kernel
theorem dX6_add_52 : decode cX6_add 52 = .ok (.iadd, 1) := by decide +kernel
theorem dX6_add_53 : decode cX6_add 53 = .ok (.iload 4, 2) := by decide +kernel
theorem dX6_add_55 : decode cX6_add 55 = .ok (.ifCond .eq 7, 3) := by decide +kernel
theorem dX6_add_58 : decode cX6_add 58 = .ok (.iconst 1, 1) := by decide +kernel
theorem dX6_add_59 : decode cX6_add 59 = .ok (.goto 4, 3) := by decide +kernel
theorem dX6_add_62 : decode cX6_add 62 = .ok (.iconst 0, 1) := by decide +kernel
theorem dX6_add_63 : decode cX6_add 63 = .ok (.iastore, 1) := by decide +kernel
theorem dX6_add_64 : decode cX6_add 64 = .ok (.aload_n 0, 1) := by decide +kernel
theorem dX6_add_65 : decode cX6_add 65 = .ok (.dup, 1) := by decide +kernel
theorem dX6_add_66 : decode cX6_add 66 = .ok (.getfield 15, 3) := by decide +kernel
theorem dX6_add_69 : decode cX6_add 69 = .ok (.iconst 1, 1) := by decide +kernel
theorem dX6_add_70 : decode cX6_add 70 = .ok (.iadd, 1) := by decide +kernel
theorem dX6_add_71 : decode cX6_add 71 = .ok (.putfield 15, 3) := by decide +kernel
theorem dX6_add_74 : decode cX6_add 74 = .ok (.return_, 1) := by decide +kernel
theorem dX6_lastQuarter_0 : decode cX6_lastQuarter 0 = .ok (.iconst 0, 1) := by decide +kernel
theorem dX6_lastQuarter_1 : decode cX6_lastQuarter 1 = .ok (.istore_n 1, 1) := by decide +kernel
theorem dX6_lastQuarter_2 : decode cX6_lastQuarter 2 = .ok (.iconst 0, 1) := by decide +kernel
theorem dX6_lastQuarter_3 : decode cX6_lastQuarter 3 = .ok (.istore_n 2, 1) := by decide +kernel
theorem dX6_lastQuarter_4 : decode cX6_lastQuarter 4 = .ok (.iload_n 2, 1) := by decide +kernel
theorem dX6_lastQuarter_5 : decode cX6_lastQuarter 5 = .ok (.aload_n 0, 1) := by decide +kernel
theorem dX6_lastQuarter_6 : decode cX6_lastQuarter 6 = .ok (.getfield 15, 3) := by decide +kernel
theorem dX6_lastQuarter_9 : decode cX6_lastQuarter 9 = .ok (.if_icmp .ge 24, 3) := by decide +kernel
theorem dX6_lastQuarter_12 : decode cX6_lastQuarter 12 = .ok (.iload_n 1, 1) := by decide +kernel
theorem dX6_lastQuarter_13 : decode cX6_lastQuarter 13 = .ok (.aload_n 0, 1) := by decide +kernel
theorem dX6_lastQuarter_14 : decode cX6_lastQuarter 14 = .ok (.getfield 11, 3) := by decide +kernel
theorem dX6_lastQuarter_17 : decode cX6_lastQuarter 17 = .ok (.iload_n 2, 1) := by decide +kernel
theorem dX6_lastQuarter_18 : decode cX6_lastQuarter 18 = .ok (.iconst 4, 1) := by decide +kernel
theorem dX6_lastQuarter_19 : decode cX6_lastQuarter 19 = .ok (.imul, 1) := by decide +kernel
theorem dX6_lastQuarter_20 : decode cX6_lastQuarter 20 = .ok (.iconst 2, 1) := by decide +kernel
theorem dX6_lastQuarter_21 : decode cX6_lastQuarter 21 = .ok (.iadd, 1) := by decide +kernel
theorem dX6_lastQuarter_22 : decode cX6_lastQuarter 22 = .ok (.iaload, 1) := by decide +kernel
theorem dX6_lastQuarter_23 : decode cX6_lastQuarter 23 = .ok (.invokestatic 19, 3) := by decide +kernel
theorem dX6_lastQuarter_26 : decode cX6_lastQuarter 26 = .ok (.istore_n 1, 1) := by decide +kernel
theorem dX6_lastQuarter_27 : decode cX6_lastQuarter 27 = .ok (.iinc 2 1, 3) := by decide +kernel
theorem dX6_lastQuarter_30 : decode cX6_lastQuarter 30 = .ok (.goto (-26), 3) := by decide +kernel
theorem dX6_lastQuarter_33 : decode cX6_lastQuarter 33 = .ok (.iload_n 1, 1) := by decide +kernel
theorem dX6_lastQuarter_34 : decode cX6_lastQuarter 34 = .ok (.ireturn, 1) := by decide +kernel
theorem dX6_agrees_0 : decode cX6_agrees 0 = .ok (.iconst 0, 1) := by decide +kernel
theorem dX6_agrees_1 : decode cX6_agrees 1 = .ok (.istore_n 3, 1) := by decide +kernel
theorem dX6_agrees_2 : decode cX6_agrees 2 = .ok (.iload_n 3, 1) := by decide +kernel
theorem dX6_agrees_3 : decode cX6_agrees 3 = .ok (.aload_n 0, 1) := by decide +kernel
theorem dX6_agrees_4 : decode cX6_agrees 4 = .ok (.getfield 15, 3) := by decide +kernel
theorem dX6_agrees_7 : decode cX6_agrees 7 = .ok (.if_icmp .ge 74, 3) := by decide +kernel
theorem dX6_agrees_10 : decode cX6_agrees 10 = .ok (.iload_n 3, 1) := by decide +kernel
theorem dX6_agrees_11 : decode cX6_agrees 11 = .ok (.iconst 4, 1) := by decide +kernel
theorem dX6_agrees_12 : decode cX6_agrees 12 = .ok (.imul, 1) := by decide +kernel
theorem dX6_agrees_13 : decode cX6_agrees 13 = .ok (.istore 4, 2) := by decide +kernel
theorem dX6_agrees_15 : decode cX6_agrees 15 = .ok (.aload_n 0, 1) := by decide +kernel
theorem dX6_agrees_16 : decode cX6_agrees 16 = .ok (.getfield 11, 3) := by decide +kernel
theorem dX6_agrees_19 : decode cX6_agrees 19 = .ok (.iload 4, 2) := by decide +kernel
theorem dX6_agrees_21 : decode cX6_agrees 21 = .ok (.iconst 2, 1) := by decide +kernel
theorem dX6_agrees_22 : decode cX6_agrees 22 = .ok (.iadd, 1) := by decide +kernel
theorem dX6_agrees_23 : decode cX6_agrees 23 = .ok (.iaload, 1) := by decide +kernel
theorem dX6_agrees_24 : decode cX6_agrees 24 = .ok (.iload_n 2, 1) := by decide +kernel
theorem dX6_agrees_25 : decode cX6_agrees 25 = .ok (.if_icmp .ne 50, 3) := by decide +kernel
theorem dX6_agrees_28 : decode cX6_agrees 28 = .ok (.aload_n 1, 1) := by decide +kernel
theorem dX6_agrees_29 : decode cX6_agrees 29 = .ok (.bipush 24, 2) := by decide +kernel
theorem dX6_agrees_31 : decode cX6_agrees 31 = .ok (.aload_n 0, 1) := by decide +kernel
theorem dX6_agrees_32 : decode cX6_agrees 32 = .ok (.getfield 11, 3) := by decide +kernel
theorem dX6_agrees_35 : decode cX6_agrees 35 = .ok (.iload 4, 2) := by decide +kernel
theorem dX6_agrees_37 : decode cX6_agrees 37 = .ok (.iconst 1, 1) := by decide +kernel
theorem dX6_agrees_38 : decode cX6_agrees 38 = .ok (.iadd, 1) := by decide +kernel
theorem dX6_agrees_39 : decode cX6_agrees 39 = .ok (.iaload, 1) := by decide +kernel
theorem dX6_agrees_40 : decode cX6_agrees 40 = .ok (.iadd, 1) := by decide +kernel
theorem dX6_agrees_41 : decode cX6_agrees 41 = .ok (.iaload, 1) := by decide +kernel
theorem dX6_agrees_42 : decode cX6_agrees 42 = .ok (.aload_n 0, 1) := by decide +kernel
theorem dX6_agrees_43 : decode cX6_agrees 43 = .ok (.getfield 11, 3) := by decide +kernel
theorem dX6_agrees_46 : decode cX6_agrees 46 = .ok (.iload 4, 2) := by decide +kernel
theorem dX6_agrees_48 : decode cX6_agrees 48 = .ok (.iaload, 1) := by decide +kernel
theorem dX6_agrees_49 : decode cX6_agrees 49 = .ok (.if_icmp .ne 7, 3) := by decide +kernel
theorem dX6_agrees_52 : decode cX6_agrees 52 = .ok (.iconst 1, 1) := by decide +kernel
theorem dX6_agrees_53 : decode cX6_agrees 53 = .ok (.goto 4, 3) := by decide +kernel
theorem dX6_agrees_56 : decode cX6_agrees 56 = .ok (.iconst 0, 1) := by decide +kernel
theorem dX6_agrees_57 : decode cX6_agrees 57 = .ok (.istore 5, 2) := by decide +kernel
theorem dX6_agrees_59 : decode cX6_agrees 59 = .ok (.iload 5, 2) := by decide +kernel
theorem dX6_agrees_61 : decode cX6_agrees 61 = .ok (.aload_n 0, 1) := by decide +kernel
theorem dX6_agrees_62 : decode cX6_agrees 62 = .ok (.getfield 11, 3) := by decide +kernel
theorem dX6_agrees_65 : decode cX6_agrees 65 = .ok (.iload 4, 2) := by decide +kernel
theorem dX6_agrees_67 : decode cX6_agrees 67 = .ok (.iconst 3, 1) := by decide +kernel
theorem dX6_agrees_68 : decode cX6_agrees 68 = .ok (.iadd, 1) := by decide +kernel
theorem dX6_agrees_69 : decode cX6_agrees 69 = .ok (.iaload, 1) := by decide +kernel
theorem dX6_agrees_70 : decode cX6_agrees 70 = .ok (.if_icmp .eq 5, 3) := by decide +kernel
theorem dX6_agrees_73 : decode cX6_agrees 73 = .ok (.iconst 0, 1) := by decide +kernel
theorem dX6_agrees_74 : decode cX6_agrees 74 = .ok (.ireturn, 1) := by decide +kernel
theorem dX6_agrees_75 : decode cX6_agrees 75 = .ok (.iinc 3 1, 3) := by decide +kernel
theorem dX6_agrees_78 : decode cX6_agrees 78 = .ok (.goto (-76), 3) := by decide +kernel
theorem dX6_agrees_81 : decode cX6_agrees 81 = .ok (.iconst 1, 1) := by decide +kernel
theorem dX6_agrees_82 : decode cX6_agrees 82 = .ok (.ireturn, 1) := by decide +kernel
theorem dX6_copyFrom_0 : decode cX6_copyFrom 0 = .ok (.aload_n 1, 1) := by decide +kernel
theorem dX6_copyFrom_1 : decode cX6_copyFrom 1 = .ok (.getfield 11, 3) := by decide +kernel
theorem dX6_copyFrom_4 : decode cX6_copyFrom 4 = .ok (.iconst 0, 1) := by decide +kernel
theorem dX6_copyFrom_5 : decode cX6_copyFrom 5 = .ok (.aload_n 0, 1) := by decide +kernel
theorem dX6_copyFrom_6 : decode cX6_copyFrom 6 = .ok (.getfield 11, 3) := by decide +kernel
theorem dX6_copyFrom_9 : decode cX6_copyFrom 9 = .ok (.iconst 0, 1) := by decide +kernel
theorem dX6_copyFrom_10 : decode cX6_copyFrom 10 = .ok (.bipush 32, 2) := by decide +kernel
theorem dX6_copyFrom_12 : decode cX6_copyFrom 12 = .ok (.invokestatic 25, 3) := by decide +kernel
theorem dX6_copyFrom_15 : decode cX6_copyFrom 15 = .ok (.aload_n 0, 1) := by decide +kernel
theorem dX6_copyFrom_16 : decode cX6_copyFrom 16 = .ok (.aload_n 1, 1) := by decide +kernel
theorem dX6_copyFrom_17 : decode cX6_copyFrom 17 = .ok (.getfield 15, 3) := by decide +kernel
theorem dX6_copyFrom_20 : decode cX6_copyFrom 20 = .ok (.putfield 15, 3) := by decide +kernel
theorem dX6_copyFrom_23 : decode cX6_copyFrom 23 = .ok (.return_, 1) := by decide +kernel
theorem dX7_init_0 : decode cX7_init 0 = .ok (.aload_n 0, 1) := by decide +kernel
theorem dX7_init_1 : decode cX7_init 1 = .ok (.invokespecial 3, 3) := by decide +kernel
theorem dX7_init_4 : decode cX7_init 4 = .ok (.aload_n 0, 1) := by decide +kernel
theorem dX7_init_5 : decode cX7_init 5 = .ok (.bipush 56, 2) := by decide +kernel
theorem dX7_init_7 : decode cX7_init 7 = .ok (.newarray .int, 2) := by decide +kernel
theorem dX7_init_9 : decode cX7_init 9 = .ok (.putfield 9, 3) := by decide +kernel
theorem dX7_init_12 : decode cX7_init 12 = .ok (.aload_n 0, 1) := by decide +kernel
theorem dX7_init_13 : decode cX7_init 13 = .ok (.sipush 256, 3) := by decide +kernel
theorem dX7_init_16 : decode cX7_init 16 = .ok (.newarray .int, 2) := by decide +kernel
theorem dX7_init_18 : decode cX7_init 18 = .ok (.putfield 15, 3) := by decide +kernel
theorem dX7_init_21 : decode cX7_init 21 = .ok (.aload_n 0, 1) := by decide +kernel
theorem dX7_init_22 : decode cX7_init 22 = .ok (.sipush 2048, 3) := by decide +kernel
theorem dX7_init_25 : decode cX7_init 25 = .ok (.newarray .int, 2) := by decide +kernel
theorem dX7_init_27 : decode cX7_init 27 = .ok (.putfield 18, 3) := by decide +kernel
theorem dX7_init_30 : decode cX7_init 30 = .ok (.aload_n 0, 1) := by decide +kernel
theorem dX7_init_31 : decode cX7_init 31 = .ok (.iconst 0, 1) := by decide +kernel
theorem dX7_init_32 : decode cX7_init 32 = .ok (.putfield 21, 3) := by decide +kernel
theorem dX7_init_35 : decode cX7_init 35 = .ok (.aload_n 0, 1) := by decide +kernel
theorem dX7_init_36 : decode cX7_init 36 = .ok (.iconst 1, 1) := by decide +kernel
theorem dX7_init_37 : decode cX7_init 37 = .ok (.putfield 25, 3) := by decide +kernel
theorem dX7_init_40 : decode cX7_init 40 = .ok (.aload_n 0, 1) := by decide +kernel
theorem dX7_init_41 : decode cX7_init 41 = .ok (.iconst 1, 1) := by decide +kernel
theorem dX7_init_42 : decode cX7_init 42 = .ok (.putfield 28, 3) := by decide +kernel
theorem dX7_init_45 : decode cX7_init 45 = .ok (.return_, 1) := by decide +kernel
theorem dX7_begin_0 : decode cX7_begin 0 = .ok (.aload_n 0, 1) := by decide +kernel
theorem dX7_begin_1 : decode cX7_begin 1 = .ok (.iconst 1, 1) := by decide +kernel
theorem dX7_begin_2 : decode cX7_begin 2 = .ok (.iload_n 1, 1) := by decide +kernel
theorem dX7_begin_3 : decode cX7_begin 3 = .ok (.ishl, 1) := by decide +kernel
theorem dX7_begin_4 : decode cX7_begin 4 = .ok (.putfield 25, 3) := by decide +kernel
theorem dX7_begin_7 : decode cX7_begin 7 = .ok (.aload_n 0, 1) := by decide +kernel
theorem dX7_begin_8 : decode cX7_begin 8 = .ok (.iload_n 2, 1) := by decide +kernel
theorem dX7_begin_9 : decode cX7_begin 9 = .ok (.putfield 21, 3) := by decide +kernel
theorem dX7_begin_12 : decode cX7_begin 12 = .ok (.aload_n 0, 1) := by decide +kernel
theorem dX7_begin_13 : decode cX7_begin 13 = .ok (.iload_n 3, 1) := by decide +kernel
theorem dX7_begin_14 : decode cX7_begin 14 = .ok (.putfield 28, 3) := by decide +kernel
theorem dX7_begin_17 : decode cX7_begin 17 = .ok (.return_, 1) := by decide +kernel
theorem dX7_tell_0 : decode cX7_tell 0 = .ok (.aload_n 0, 1) := by decide +kernel
theorem dX7_tell_1 : decode cX7_tell 1 = .ok (.getfield 9, 3) := by decide +kernel
theorem dX7_tell_4 : decode cX7_tell 4 = .ok (.iload_n 1, 1) := by decide +kernel
theorem dX7_tell_5 : decode cX7_tell 5 = .ok (.bipush 8, 2) := by decide +kernel
theorem dX7_tell_7 : decode cX7_tell 7 = .ok (.imul, 1) := by decide +kernel
theorem dX7_tell_8 : decode cX7_tell 8 = .ok (.iload_n 2, 1) := by decide +kernel
theorem dX7_tell_9 : decode cX7_tell 9 = .ok (.iadd, 1) := by decide +kernel
theorem dX7_tell_10 : decode cX7_tell 10 = .ok (.iload_n 3, 1) := by decide +kernel
theorem dX7_tell_11 : decode cX7_tell 11 = .ok (.iastore, 1) := by decide +kernel
theorem dX7_tell_12 : decode cX7_tell 12 = .ok (.return_, 1) := by decide +kernel
theorem dX7_weigh_0 : decode cX7_weigh 0 = .ok (.iconst 0, 1) := by decide +kernel
theorem dX7_weigh_1 : decode cX7_weigh 1 = .ok (.istore_n 1, 1) := by decide +kernel
theorem dX7_weigh_2 : decode cX7_weigh 2 = .ok (.iload_n 1, 1) := by decide +kernel
theorem dX7_weigh_3 : decode cX7_weigh 3 = .ok (.aload_n 0, 1) := by decide +kernel
theorem dX7_weigh_4 : decode cX7_weigh 4 = .ok (.getfield 25, 3) := by decide +kernel
theorem dX7_weigh_7 : decode cX7_weigh 7 = .ok (.if_icmp .ge 25, 3) := by decide +kernel
theorem dX7_weigh_10 : decode cX7_weigh 10 = .ok (.aload_n 0, 1) := by decide +kernel
theorem dX7_weigh_11 : decode cX7_weigh 11 = .ok (.getfield 18, 3) := by decide +kernel
theorem dX7_weigh_14 : decode cX7_weigh 14 = .ok (.aload_n 0, 1) := by decide +kernel
theorem dX7_weigh_15 : decode cX7_weigh 15 = .ok (.getfield 21, 3) := by decide +kernel
theorem dX7_weigh_18 : decode cX7_weigh 18 = .ok (.sipush 256, 3) := by decide +kernel
theorem dX7_weigh_21 : decode cX7_weigh 21 = .ok (.imul, 1) := by decide +kernel
theorem dX7_weigh_22 : decode cX7_weigh 22 = .ok (.iload_n 1, 1) := by decide +kernel
theorem dX7_weigh_23 : decode cX7_weigh 23 = .ok (.iadd, 1) := by decide +kernel
theorem dX7_weigh_24 : decode cX7_weigh 24 = .ok (.iconst 0, 1) := by decide +kernel
theorem dX7_weigh_25 : decode cX7_weigh 25 = .ok (.iastore, 1) := by decide +kernel
theorem dX7_weigh_26 : decode cX7_weigh 26 = .ok (.iinc 1 1, 3) := by decide +kernel
theorem dX7_weigh_29 : decode cX7_weigh 29 = .ok (.goto (-27), 3) := by decide +kernel
theorem dX7_weigh_32 : decode cX7_weigh 32 = .ok (.aload_n 0, 1) := by decide +kernel
theorem dX7_weigh_33 : decode cX7_weigh 33 = .ok (.getfield 21, 3) := by decide +kernel
theorem dX7_weigh_36 : decode cX7_weigh 36 = .ok (.iconst 1, 1) := by decide +kernel
theorem dX7_weigh_37 : decode cX7_weigh 37 = .ok (.isub, 1) := by decide +kernel
theorem dX7_weigh_38 : decode cX7_weigh 38 = .ok (.istore_n 1, 1) := by decide +kernel
theorem dX7_weigh_39 : decode cX7_weigh 39 = .ok (.iload_n 1, 1) := by decide +kernel
theorem dX7_weigh_40 : decode cX7_weigh 40 = .ok (.ifCond .lt 55, 3) := by decide +kernel
theorem dX7_weigh_43 : decode cX7_weigh 43 = .ok (.iconst 0, 1) := by decide +kernel
theorem dX7_weigh_44 : decode cX7_weigh 44 = .ok (.istore_n 2, 1) := by decide +kernel
theorem dX7_weigh_45 : decode cX7_weigh 45 = .ok (.iload_n 2, 1) := by decide +kernel
theorem dX7_weigh_46 : decode cX7_weigh 46 = .ok (.aload_n 0, 1) := by decide +kernel
theorem dX7_weigh_47 : decode cX7_weigh 47 = .ok (.getfield 25, 3) := by decide +kernel
theorem dX7_weigh_50 : decode cX7_weigh 50 = .ok (.if_icmp .ge 39, 3) := by decide +kernel
theorem dX7_weigh_53 : decode cX7_weigh 53 = .ok (.aload_n 0, 1) := by decide +kernel
theorem dX7_weigh_54 : decode cX7_weigh 54 = .ok (.getfield 15, 3) := by decide +kernel
theorem dX7_weigh_57 : decode cX7_weigh 57 = .ok (.iload_n 2, 1) := by decide +kernel
theorem dX7_weigh_58 : decode cX7_weigh 58 = .ok (.aload_n 0, 1) := by decide +kernel
theorem dX7_weigh_59 : decode cX7_weigh 59 = .ok (.iload_n 1, 1) := by decide +kernel
theorem dX7_weigh_60 : decode cX7_weigh 60 = .ok (.iload_n 2, 1) := by decide +kernel
theorem dX7_weigh_61 : decode cX7_weigh 61 = .ok (.invokevirtual 31, 3) := by decide +kernel
theorem dX7_weigh_64 : decode cX7_weigh 64 = .ok (.iastore, 1) := by decide +kernel
theorem dX7_weigh_65 : decode cX7_weigh 65 = .ok (.aload_n 0, 1) := by decide +kernel
theorem dX7_weigh_66 : decode cX7_weigh 66 = .ok (.getfield 18, 3) := by decide +kernel
theorem dX7_weigh_69 : decode cX7_weigh 69 = .ok (.iload_n 1, 1) := by decide +kernel
theorem dX7_weigh_70 : decode cX7_weigh 70 = .ok (.sipush 256, 3) := by decide +kernel
theorem dX7_weigh_73 : decode cX7_weigh 73 = .ok (.imul, 1) := by decide +kernel
theorem dX7_weigh_74 : decode cX7_weigh 74 = .ok (.iload_n 2, 1) := by decide +kernel
theorem dX7_weigh_75 : decode cX7_weigh 75 = .ok (.iadd, 1) := by decide +kernel
theorem dX7_weigh_76 : decode cX7_weigh 76 = .ok (.aload_n 0, 1) := by decide +kernel
theorem dX7_weigh_77 : decode cX7_weigh 77 = .ok (.iload_n 1, 1) := by decide +kernel
theorem dX7_weigh_78 : decode cX7_weigh 78 = .ok (.iload_n 2, 1) := by decide +kernel
theorem dX7_weigh_79 : decode cX7_weigh 79 = .ok (.invokevirtual 35, 3) := by decide +kernel
theorem dX7_weigh_82 : decode cX7_weigh 82 = .ok (.iastore, 1) := by decide +kernel
theorem dX7_weigh_83 : decode cX7_weigh 83 = .ok (.iinc 2 1, 3) := by decide +kernel
theorem dX7_weigh_86 : decode cX7_weigh 86 = .ok (.goto (-41), 3) := by decide +kernel
theorem dX7_weigh_89 : decode cX7_weigh 89 = .ok (.iinc 1 (-1), 3) := by decide +kernel
theorem dX7_weigh_92 : decode cX7_weigh 92 = .ok (.goto (-53), 3) := by decide +kernel
theorem dX7_weigh_95 : decode cX7_weigh 95 = .ok (.return_, 1) := by decide +kernel
theorem dX7_howMuch_0 : decode cX7_howMuch 0 = .ok (.aload_n 0, 1) := by decide +kernel
theorem dX7_howMuch_1 : decode cX7_howMuch 1 = .ok (.getfield 18, 3) := by decide +kernel
theorem dX7_howMuch_4 : decode cX7_howMuch 4 = .ok (.aload_n 0, 1) := by decide +kernel
theorem dX7_howMuch_5 : decode cX7_howMuch 5 = .ok (.getfield 25, 3) := by decide +kernel
theorem dX7_howMuch_8 : decode cX7_howMuch 8 = .ok (.iconst 1, 1) := by decide +kernel
theorem dX7_howMuch_9 : decode cX7_howMuch 9 = .ok (.isub, 1) := by decide +kernel
theorem dX7_howMuch_10 : decode cX7_howMuch 10 = .ok (.iaload, 1) := by decide +kernel
theorem dX7_howMuch_11 : decode cX7_howMuch 11 = .ok (.ireturn, 1) := by decide +kernel
theorem dX7_whoHas_0 : decode cX7_whoHas 0 = .ok (.aload_n 0, 1) := by decide +kernel
theorem dX7_whoHas_1 : decode cX7_whoHas 1 = .ok (.getfield 25, 3) := by decide +kernel
theorem dX7_whoHas_4 : decode cX7_whoHas 4 = .ok (.iconst 1, 1) := by decide +kernel
theorem dX7_whoHas_5 : decode cX7_whoHas 5 = .ok (.isub, 1) := by decide +kernel
theorem dX7_whoHas_6 : decode cX7_whoHas 6 = .ok (.istore_n 2, 1) := by decide +kernel
theorem dX7_whoHas_7 : decode cX7_whoHas 7 = .ok (.iconst 0, 1) := by decide +kernel
theorem dX7_whoHas_8 : decode cX7_whoHas 8 = .ok (.istore_n 3, 1) := by decide +kernel
theorem dX7_whoHas_9 : decode cX7_whoHas 9 = .ok (.iload_n 3, 1) := by decide +kernel
theorem dX7_whoHas_10 : decode cX7_whoHas 10 = .ok (.aload_n 0, 1) := by decide +kernel
theorem dX7_whoHas_11 : decode cX7_whoHas 11 = .ok (.getfield 21, 3) := by decide +kernel
theorem dX7_whoHas_14 : decode cX7_whoHas 14 = .ok (.if_icmp .ge 36, 3) := by decide +kernel
theorem dX7_whoHas_17 : decode cX7_whoHas 17 = .ok (.aload_n 0, 1) := by decide +kernel
theorem dX7_whoHas_18 : decode cX7_whoHas 18 = .ok (.iload_n 3, 1) := by decide +kernel
theorem dX7_whoHas_19 : decode cX7_whoHas 19 = .ok (.iload_n 2, 1) := by decide +kernel
theorem dX7_whoHas_20 : decode cX7_whoHas 20 = .ok (.invokevirtual 38, 3) := by decide +kernel
theorem dX7_whoHas_23 : decode cX7_whoHas 23 = .ok (.istore 4, 2) := by decide +kernel
theorem dX7_whoHas_25 : decode cX7_whoHas 25 = .ok (.iload 4, 2) := by decide +kernel
theorem dX7_whoHas_27 : decode cX7_whoHas 27 = .ok (.iload_n 1, 1) := by decide +kernel
theorem dX7_whoHas_28 : decode cX7_whoHas 28 = .ok (.ishr, 1) := by decide +kernel
theorem dX7_whoHas_29 : decode cX7_whoHas 29 = .ok (.iconst 1, 1) := by decide +kernel
theorem dX7_whoHas_30 : decode cX7_whoHas 30 = .ok (.iand, 1) := by decide +kernel
theorem dX7_whoHas_31 : decode cX7_whoHas 31 = .ok (.iconst 1, 1) := by decide +kernel
theorem dX7_whoHas_32 : decode cX7_whoHas 32 = .ok (.if_icmp .ne 5, 3) := by decide +kernel
theorem dX7_whoHas_35 : decode cX7_whoHas 35 = .ok (.iload_n 3, 1) := by decide +kernel
theorem dX7_whoHas_36 : decode cX7_whoHas 36 = .ok (.ireturn, 1) := by decide +kernel
theorem dX7_whoHas_37 : decode cX7_whoHas 37 = .ok (.iload_n 2, 1) := by decide +kernel
theorem dX7_whoHas_38 : decode cX7_whoHas 38 = .ok (.iload 4, 2) := by decide +kernel
theorem dX7_whoHas_40 : decode cX7_whoHas 40 = .ok (.iconst (-1), 1) := by decide +kernel
theorem dX7_whoHas_41 : decode cX7_whoHas 41 = .ok (.ixor, 1) := by decide +kernel
theorem dX7_whoHas_42 : decode cX7_whoHas 42 = .ok (.iand, 1) := by decide +kernel
theorem dX7_whoHas_43 : decode cX7_whoHas 43 = .ok (.istore_n 2, 1) := by decide +kernel
theorem dX7_whoHas_44 : decode cX7_whoHas 44 = .ok (.iinc 3 1, 3) := by decide +kernel
theorem dX7_whoHas_47 : decode cX7_whoHas 47 = .ok (.goto (-38), 3) := by decide +kernel
theorem dX7_whoHas_50 : decode cX7_whoHas 50 = .ok (.iconst (-1), 1) := by decide +kernel
theorem dX7_whoHas_51 : decode cX7_whoHas 51 = .ok (.ireturn, 1) := by decide +kernel
theorem dX7_worthOf_0 : decode cX7_worthOf 0 = .ok (.iload_n 2, 1) := by decide +kernel
theorem dX7_worthOf_1 : decode cX7_worthOf 1 = .ok (.invokestatic 41, 3) := by decide +kernel
theorem dX7_worthOf_4 : decode cX7_worthOf 4 = .ok (.aload_n 0, 1) := by decide +kernel
theorem dX7_worthOf_5 : decode cX7_worthOf 5 = .ok (.getfield 28, 3) := by decide +kernel
theorem dX7_worthOf_8 : decode cX7_worthOf 8 = .ok (.if_icmp .le 5, 3) := by decide +kernel
theorem dX7_worthOf_11 : decode cX7_worthOf 11 = .ok (.iconst (-1), 1) := by decide +kernel
theorem dX7_worthOf_12 : decode cX7_worthOf 12 = .ok (.ireturn, 1) := by decide +kernel
theorem dX7_worthOf_13 : decode cX7_worthOf 13 = .ok (.iconst 0, 1) := by decide +kernel
theorem dX7_worthOf_14 : decode cX7_worthOf 14 = .ok (.istore_n 3, 1) := by decide +kernel
theorem dX7_worthOf_15 : decode cX7_worthOf 15 = .ok (.iconst 0, 1) := by decide +kernel
theorem dX7_worthOf_16 : decode cX7_worthOf 16 = .ok (.istore 4, 2) := by decide +kernel
theorem dX7_worthOf_18 : decode cX7_worthOf 18 = .ok (.iload 4, 2) := by decide +kernel
theorem dX7_worthOf_20 : decode cX7_worthOf 20 = .ok (.bipush 8, 2) := by decide +kernel
theorem dX7_worthOf_22 : decode cX7_worthOf 22 = .ok (.if_icmp .ge 45, 3) := by decide +kernel
theorem dX7_worthOf_25 : decode cX7_worthOf 25 = .ok (.iload_n 2, 1) := by decide +kernel
theorem dX7_worthOf_26 : decode cX7_worthOf 26 = .ok (.iload 4, 2) := by decide +kernel
theorem dX7_worthOf_28 : decode cX7_worthOf 28 = .ok (.ishr, 1) := by decide +kernel
theorem dX7_worthOf_29 : decode cX7_worthOf 29 = .ok (.iconst 1, 1) := by decide +kernel
theorem dX7_worthOf_30 : decode cX7_worthOf 30 = .ok (.iand, 1) := by decide +kernel
theorem dX7_worthOf_31 : decode cX7_worthOf 31 = .ok (.iconst 1, 1) := by decide +kernel
theorem dX7_worthOf_32 : decode cX7_worthOf 32 = .ok (.if_icmp .ne 29, 3) := by decide +kernel
theorem dX7_worthOf_35 : decode cX7_worthOf 35 = .ok (.aload_n 0, 1) := by decide +kernel
theorem dX7_worthOf_36 : decode cX7_worthOf 36 = .ok (.getfield 9, 3) := by decide +kernel
theorem dX7_worthOf_39 : decode cX7_worthOf 39 = .ok (.iload_n 1, 1) := by decide +kernel
theorem dX7_worthOf_40 : decode cX7_worthOf 40 = .ok (.bipush 8, 2) := by decide +kernel
theorem dX7_worthOf_42 : decode cX7_worthOf 42 = .ok (.imul, 1) := by decide +kernel
theorem dX7_worthOf_43 : decode cX7_worthOf 43 = .ok (.iload 4, 2) := by decide +kernel
theorem dX7_worthOf_45 : decode cX7_worthOf 45 = .ok (.iadd, 1) := by decide +kernel
theorem dX7_worthOf_46 : decode cX7_worthOf 46 = .ok (.iaload, 1) := by decide +kernel
theorem dX7_worthOf_47 : decode cX7_worthOf 47 = .ok (.istore 5, 2) := by decide +kernel
theorem dX7_worthOf_49 : decode cX7_worthOf 49 = .ok (.iload 5, 2) := by decide +kernel
theorem dX7_worthOf_51 : decode cX7_worthOf 51 = .ok (.ifCond .gt 5, 3) := by decide +kernel
theorem dX7_worthOf_54 : decode cX7_worthOf 54 = .ok (.iconst (-1), 1) := by decide +kernel
theorem dX7_worthOf_55 : decode cX7_worthOf 55 = .ok (.ireturn, 1) := by decide +kernel
theorem dX7_worthOf_56 : decode cX7_worthOf 56 = .ok (.iload_n 3, 1) := by decide +kernel
theorem dX7_worthOf_57 : decode cX7_worthOf 57 = .ok (.iload 5, 2) := by decide +kernel
theorem dX7_worthOf_59 : decode cX7_worthOf 59 = .ok (.iadd, 1) := by decide +kernel
theorem dX7_worthOf_60 : decode cX7_worthOf 60 = .ok (.istore_n 3, 1) := by decide +kernel
theorem dX7_worthOf_61 : decode cX7_worthOf 61 = .ok (.iinc 4 1, 3) := by decide +kernel
theorem dX7_worthOf_64 : decode cX7_worthOf 64 = .ok (.goto (-46), 3) := by decide +kernel
theorem dX7_worthOf_67 : decode cX7_worthOf 67 = .ok (.iload_n 3, 1) := by decide +kernel
theorem dX7_worthOf_68 : decode cX7_worthOf 68 = .ok (.ireturn, 1) := by decide +kernel
theorem dX7_bestOf_0 : decode cX7_bestOf 0 = .ok (.iconst 0, 1) := by decide +kernel
theorem dX7_bestOf_1 : decode cX7_bestOf 1 = .ok (.istore_n 3, 1) := by decide +kernel
theorem dX7_bestOf_2 : decode cX7_bestOf 2 = .ok (.iload_n 2, 1) := by decide +kernel
theorem dX7_bestOf_3 : decode cX7_bestOf 3 = .ok (.istore 4, 2) := by decide +kernel
theorem dX7_bestOf_5 : decode cX7_bestOf 5 = .ok (.iconst 0, 1) := by decide +kernel
theorem dX7_bestOf_6 : decode cX7_bestOf 6 = .ok (.istore 5, 2) := by decide +kernel
theorem dX7_bestOf_8 : decode cX7_bestOf 8 = .ok (.iload 5, 2) := by decide +kernel
theorem dX7_bestOf_10 : decode cX7_bestOf 10 = .ok (.iload_n 2, 1) := by decide +kernel
theorem dX7_bestOf_11 : decode cX7_bestOf 11 = .ok (.if_icmp .gt 65, 3) := by decide +kernel
theorem dX7_bestOf_14 : decode cX7_bestOf 14 = .ok (.aload_n 0, 1) := by decide +kernel
theorem dX7_bestOf_15 : decode cX7_bestOf 15 = .ok (.getfield 15, 3) := by decide +kernel
theorem dX7_bestOf_18 : decode cX7_bestOf 18 = .ok (.iload 4, 2) := by decide +kernel
theorem dX7_bestOf_20 : decode cX7_bestOf 20 = .ok (.iaload, 1) := by decide +kernel
theorem dX7_bestOf_21 : decode cX7_bestOf 21 = .ok (.istore 6, 2) := by decide +kernel
theorem dX7_bestOf_23 : decode cX7_bestOf 23 = .ok (.iload 6, 2) := by decide +kernel
theorem dX7_bestOf_25 : decode cX7_bestOf 25 = .ok (.iconst (-1), 1) := by decide +kernel
theorem dX7_bestOf_26 : decode cX7_bestOf 26 = .ok (.if_icmp .eq 28, 3) := by decide +kernel
theorem dX7_bestOf_29 : decode cX7_bestOf 29 = .ok (.iload_n 3, 1) := by decide +kernel
theorem dX7_bestOf_30 : decode cX7_bestOf 30 = .ok (.iload 6, 2) := by decide +kernel
theorem dX7_bestOf_32 : decode cX7_bestOf 32 = .ok (.aload_n 0, 1) := by decide +kernel
theorem dX7_bestOf_33 : decode cX7_bestOf 33 = .ok (.getfield 18, 3) := by decide +kernel
theorem dX7_bestOf_36 : decode cX7_bestOf 36 = .ok (.iload_n 1, 1) := by decide +kernel
theorem dX7_bestOf_37 : decode cX7_bestOf 37 = .ok (.iconst 1, 1) := by decide +kernel
theorem dX7_bestOf_38 : decode cX7_bestOf 38 = .ok (.iadd, 1) := by decide +kernel
theorem dX7_bestOf_39 : decode cX7_bestOf 39 = .ok (.sipush 256, 3) := by decide +kernel
theorem dX7_bestOf_42 : decode cX7_bestOf 42 = .ok (.imul, 1) := by decide +kernel
theorem dX7_bestOf_43 : decode cX7_bestOf 43 = .ok (.iload_n 2, 1) := by decide +kernel
theorem dX7_bestOf_44 : decode cX7_bestOf 44 = .ok (.iload 4, 2) := by decide +kernel
theorem dX7_bestOf_46 : decode cX7_bestOf 46 = .ok (.ixor, 1) := by decide +kernel
theorem dX7_bestOf_47 : decode cX7_bestOf 47 = .ok (.iadd, 1) := by decide +kernel
theorem dX7_bestOf_48 : decode cX7_bestOf 48 = .ok (.iaload, 1) := by decide +kernel
theorem dX7_bestOf_49 : decode cX7_bestOf 49 = .ok (.iadd, 1) := by decide +kernel
theorem dX7_bestOf_50 : decode cX7_bestOf 50 = .ok (.invokestatic 47, 3) := by decide +kernel
theorem dX7_bestOf_53 : decode cX7_bestOf 53 = .ok (.istore_n 3, 1) := by decide +kernel
theorem dX7_bestOf_54 : decode cX7_bestOf 54 = .ok (.iload 4, 2) := by decide +kernel
theorem dX7_bestOf_56 : decode cX7_bestOf 56 = .ok (.ifCond .ne 6, 3) := by decide +kernel
theorem dX7_bestOf_59 : decode cX7_bestOf 59 = .ok (.goto 17, 3) := by decide +kernel
theorem dX7_bestOf_62 : decode cX7_bestOf 62 = .ok (.iload 4, 2) := by decide +kernel
theorem dX7_bestOf_64 : decode cX7_bestOf 64 = .ok (.iconst 1, 1) := by decide +kernel
theorem dX7_bestOf_65 : decode cX7_bestOf 65 = .ok (.isub, 1) := by decide +kernel
theorem dX7_bestOf_66 : decode cX7_bestOf 66 = .ok (.iload_n 2, 1) := by decide +kernel
theorem dX7_bestOf_67 : decode cX7_bestOf 67 = .ok (.iand, 1) := by decide +kernel
theorem dX7_bestOf_68 : decode cX7_bestOf 68 = .ok (.istore 4, 2) := by decide +kernel
theorem dX7_bestOf_70 : decode cX7_bestOf 70 = .ok (.iinc 5 1, 3) := by decide +kernel
theorem dX7_bestOf_73 : decode cX7_bestOf 73 = .ok (.goto (-65), 3) := by decide +kernel
theorem dX7_bestOf_76 : decode cX7_bestOf 76 = .ok (.iload_n 3, 1) := by decide +kernel
theorem dX7_bestOf_77 : decode cX7_bestOf 77 = .ok (.ireturn, 1) := by decide +kernel
theorem dX7_leastPart_0 : decode cX7_leastPart 0 = .ok (.iconst 0, 1) := by decide +kernel
theorem dX7_leastPart_1 : decode cX7_leastPart 1 = .ok (.istore_n 3, 1) := by decide +kernel
theorem dX7_leastPart_2 : decode cX7_leastPart 2 = .ok (.iload_n 3, 1) := by decide +kernel
theorem dX7_leastPart_3 : decode cX7_leastPart 3 = .ok (.aload_n 0, 1) := by decide +kernel
theorem dX7_leastPart_4 : decode cX7_leastPart 4 = .ok (.getfield 25, 3) := by decide +kernel
theorem dX7_leastPart_7 : decode cX7_leastPart 7 = .ok (.if_icmp .ge 79, 3) := by decide +kernel
theorem dX7_leastPart_10 : decode cX7_leastPart 10 = .ok (.aload_n 0, 1) := by decide +kernel
theorem dX7_leastPart_11 : decode cX7_leastPart 11 = .ok (.iload_n 1, 1) := by decide +kernel
theorem dX7_leastPart_12 : decode cX7_leastPart 12 = .ok (.iload_n 3, 1) := by decide +kernel
theorem dX7_leastPart_13 : decode cX7_leastPart 13 = .ok (.invokevirtual 31, 3) := by decide +kernel
theorem dX7_leastPart_16 : decode cX7_leastPart 16 = .ok (.istore 4, 2) := by decide +kernel
theorem dX7_leastPart_18 : decode cX7_leastPart 18 = .ok (.iload_n 3, 1) := by decide +kernel
theorem dX7_leastPart_19 : decode cX7_leastPart 19 = .ok (.iload_n 2, 1) := by decide +kernel
theorem dX7_leastPart_20 : decode cX7_leastPart 20 = .ok (.iconst (-1), 1) := by decide +kernel
theorem dX7_leastPart_21 : decode cX7_leastPart 21 = .ok (.ixor, 1) := by decide +kernel
theorem dX7_leastPart_22 : decode cX7_leastPart 22 = .ok (.iand, 1) := by decide +kernel
theorem dX7_leastPart_23 : decode cX7_leastPart 23 = .ok (.ifCond .ne 13, 3) := by decide +kernel
theorem dX7_leastPart_26 : decode cX7_leastPart 26 = .ok (.iload 4, 2) := by decide +kernel
theorem dX7_leastPart_28 : decode cX7_leastPart 28 = .ok (.iconst (-1), 1) := by decide +kernel
theorem dX7_leastPart_29 : decode cX7_leastPart 29 = .ok (.if_icmp .eq 7, 3) := by decide +kernel
theorem dX7_leastPart_32 : decode cX7_leastPart 32 = .ok (.iconst 1, 1) := by decide +kernel
theorem dX7_leastPart_33 : decode cX7_leastPart 33 = .ok (.goto 4, 3) := by decide +kernel
theorem dX7_leastPart_36 : decode cX7_leastPart 36 = .ok (.iconst 0, 1) := by decide +kernel
theorem dX7_leastPart_37 : decode cX7_leastPart 37 = .ok (.istore 5, 2) := by decide +kernel
theorem dX7_leastPart_39 : decode cX7_leastPart 39 = .ok (.iload 5, 2) := by decide +kernel
theorem dX7_leastPart_41 : decode cX7_leastPart 41 = .ok (.ifCond .eq 39, 3) := by decide +kernel
theorem dX7_leastPart_44 : decode cX7_leastPart 44 = .ok (.iload 4, 2) := by decide +kernel
theorem dX7_leastPart_46 : decode cX7_leastPart 46 = .ok (.aload_n 0, 1) := by decide +kernel
theorem dX7_leastPart_47 : decode cX7_leastPart 47 = .ok (.getfield 18, 3) := by decide +kernel
theorem dX7_leastPart_50 : decode cX7_leastPart 50 = .ok (.iload_n 1, 1) := by decide +kernel
theorem dX7_leastPart_51 : decode cX7_leastPart 51 = .ok (.iconst 1, 1) := by decide +kernel
theorem dX7_leastPart_52 : decode cX7_leastPart 52 = .ok (.iadd, 1) := by decide +kernel
theorem dX7_leastPart_53 : decode cX7_leastPart 53 = .ok (.sipush 256, 3) := by decide +kernel
theorem dX7_leastPart_56 : decode cX7_leastPart 56 = .ok (.imul, 1) := by decide +kernel
theorem dX7_leastPart_57 : decode cX7_leastPart 57 = .ok (.iload_n 2, 1) := by decide +kernel
theorem dX7_leastPart_58 : decode cX7_leastPart 58 = .ok (.iload_n 3, 1) := by decide +kernel
theorem dX7_leastPart_59 : decode cX7_leastPart 59 = .ok (.ixor, 1) := by decide +kernel
theorem dX7_leastPart_60 : decode cX7_leastPart 60 = .ok (.iadd, 1) := by decide +kernel
theorem dX7_leastPart_61 : decode cX7_leastPart 61 = .ok (.iaload, 1) := by decide +kernel
theorem dX7_leastPart_62 : decode cX7_leastPart 62 = .ok (.iadd, 1) := by decide +kernel
theorem dX7_leastPart_63 : decode cX7_leastPart 63 = .ok (.aload_n 0, 1) := by decide +kernel
theorem dX7_leastPart_64 : decode cX7_leastPart 64 = .ok (.getfield 18, 3) := by decide +kernel
theorem dX7_leastPart_67 : decode cX7_leastPart 67 = .ok (.iload_n 1, 1) := by decide +kernel
theorem dX7_leastPart_68 : decode cX7_leastPart 68 = .ok (.sipush 256, 3) := by decide +kernel
theorem dX7_leastPart_71 : decode cX7_leastPart 71 = .ok (.imul, 1) := by decide +kernel
theorem dX7_leastPart_72 : decode cX7_leastPart 72 = .ok (.iload_n 2, 1) := by decide +kernel
theorem dX7_leastPart_73 : decode cX7_leastPart 73 = .ok (.iadd, 1) := by decide +kernel
theorem dX7_leastPart_74 : decode cX7_leastPart 74 = .ok (.iaload, 1) := by decide +kernel
theorem dX7_leastPart_75 : decode cX7_leastPart 75 = .ok (.if_icmp .ne 5, 3) := by decide +kernel
theorem dX7_leastPart_78 : decode cX7_leastPart 78 = .ok (.iload_n 3, 1) := by decide +kernel
theorem dX7_leastPart_79 : decode cX7_leastPart 79 = .ok (.ireturn, 1) := by decide +kernel
theorem dX7_leastPart_80 : decode cX7_leastPart 80 = .ok (.iinc 3 1, 3) := by decide +kernel
theorem dX7_leastPart_83 : decode cX7_leastPart 83 = .ok (.goto (-81), 3) := by decide +kernel
theorem dX7_leastPart_86 : decode cX7_leastPart 86 = .ok (.iconst 0, 1) := by decide +kernel
theorem dX7_leastPart_87 : decode cX7_leastPart 87 = .ok (.ireturn, 1) := by decide +kernel
theorem dX8_init_0 : decode cX8_init 0 = .ok (.aload_n 0, 1) := by decide +kernel
theorem dX8_init_1 : decode cX8_init 1 = .ok (.invokespecial 3, 3) := by decide +kernel
theorem dX8_init_4 : decode cX8_init 4 = .ok (.aload_n 0, 1) := by decide +kernel
theorem dX8_init_5 : decode cX8_init 5 = .ok (.new 9, 3) := by decide +kernel
theorem dX8_init_8 : decode cX8_init 8 = .ok (.dup, 1) := by decide +kernel
theorem dX8_init_9 : decode cX8_init 9 = .ok (.invokespecial 11, 3) := by decide +kernel
theorem dX8_init_12 : decode cX8_init 12 = .ok (.putfield 12, 3) := by decide +kernel
theorem dX8_init_15 : decode cX8_init 15 = .ok (.aload_n 0, 1) := by decide +kernel
theorem dX8_init_16 : decode cX8_init 16 = .ok (.bipush 10, 2) := by decide +kernel
theorem dX8_init_18 : decode cX8_init 18 = .ok (.newarray .int, 2) := by decide +kernel
theorem dX8_init_20 : decode cX8_init 20 = .ok (.putfield 18, 3) := by decide +kernel
theorem dX8_init_23 : decode cX8_init 23 = .ok (.aload_n 0, 1) := by decide +kernel
theorem dX8_init_24 : decode cX8_init 24 = .ok (.bipush 8, 2) := by decide +kernel
theorem dX8_init_26 : decode cX8_init 26 = .ok (.newarray .int, 2) := by decide +kernel
theorem dX8_init_28 : decode cX8_init 28 = .ok (.putfield 22, 3) := by decide +kernel
theorem dX8_init_31 : decode cX8_init 31 = .ok (.aload_n 0, 1) := by decide +kernel
theorem dX8_init_32 : decode cX8_init 32 = .ok (.bipush 7, 2) := by decide +kernel
theorem dX8_init_34 : decode cX8_init 34 = .ok (.newarray .int, 2) := by decide +kernel
theorem dX8_init_36 : decode cX8_init 36 = .ok (.putfield 25, 3) := by decide +kernel
theorem dX8_init_39 : decode cX8_init 39 = .ok (.aload_n 0, 1) := by decide +kernel
theorem dX8_init_40 : decode cX8_init 40 = .ok (.iconst 0, 1) := by decide +kernel
theorem dX8_init_41 : decode cX8_init 41 = .ok (.putfield 28, 3) := by decide +kernel
theorem dX8_init_44 : decode cX8_init 44 = .ok (.return_, 1) := by decide +kernel
theorem dX8_passQuarters_0 : decode cX8_passQuarters 0 = .ok (.iconst 0, 1) := by decide +kernel
theorem dX8_passQuarters_1 : decode cX8_passQuarters 1 = .ok (.istore_n 3, 1) := by decide +kernel
theorem dX8_passQuarters_2 : decode cX8_passQuarters 2 = .ok (.iload_n 3, 1) := by decide +kernel
theorem dX8_passQuarters_3 : decode cX8_passQuarters 3 = .ok (.iload_n 2, 1) := by decide +kernel
theorem dX8_passQuarters_4 : decode cX8_passQuarters 4 = .ok (.if_icmp .ge 14, 3) := by decide +kernel
theorem dX8_passQuarters_7 : decode cX8_passQuarters 7 = .ok (.aload_n 0, 1) := by decide +kernel
theorem dX8_passQuarters_8 : decode cX8_passQuarters 8 = .ok (.aload_n 1, 1) := by decide +kernel
theorem dX8_passQuarters_9 : decode cX8_passQuarters 9 = .ok (.invokevirtual 32, 3) := by decide +kernel
theorem dX8_passQuarters_12 : decode cX8_passQuarters 12 = .ok (.iinc 3 1, 3) := by decide +kernel
theorem dX8_passQuarters_15 : decode cX8_passQuarters 15 = .ok (.goto (-13), 3) := by decide +kernel
theorem dX8_passQuarters_18 : decode cX8_passQuarters 18 = .ok (.return_, 1) := by decide +kernel
theorem dX8_passQuarter_0 : decode cX8_passQuarter 0 = .ok (.aload_n 0, 1) := by decide +kernel
theorem dX8_passQuarter_1 : decode cX8_passQuarter 1 = .ok (.aload_n 1, 1) := by decide +kernel
theorem dX8_passQuarter_2 : decode cX8_passQuarter 2 = .ok (.invokevirtual 36, 3) := by decide +kernel
theorem dX8_passQuarter_5 : decode cX8_passQuarter 5 = .ok (.aload_n 0, 1) := by decide +kernel
theorem dX8_passQuarter_6 : decode cX8_passQuarter 6 = .ok (.aload_n 1, 1) := by decide +kernel
theorem dX8_passQuarter_7 : decode cX8_passQuarter 7 = .ok (.invokevirtual 39, 3) := by decide +kernel
theorem dX8_passQuarter_10 : decode cX8_passQuarter 10 = .ok (.iconst 0, 1) := by decide +kernel
theorem dX8_passQuarter_11 : decode cX8_passQuarter 11 = .ok (.istore_n 2, 1) := by decide +kernel
theorem dX8_passQuarter_12 : decode cX8_passQuarter 12 = .ok (.iload_n 2, 1) := by decide +kernel
theorem dX8_passQuarter_13 : decode cX8_passQuarter 13 = .ok (.aload_n 0, 1) := by decide +kernel
theorem dX8_passQuarter_14 : decode cX8_passQuarter 14 = .ok (.getfield 12, 3) := by decide +kernel
theorem dX8_passQuarter_17 : decode cX8_passQuarter 17 = .ok (.getfield 42, 3) := by decide +kernel
theorem dX8_passQuarter_20 : decode cX8_passQuarter 20 = .ok (.if_icmp .ge 32, 3) := by decide +kernel
theorem dX8_passQuarter_23 : decode cX8_passQuarter 23 = .ok (.aload_n 1, 1) := by decide +kernel
theorem dX8_passQuarter_24 : decode cX8_passQuarter 24 = .ok (.bipush 62, 2) := by decide +kernel
theorem dX8_passQuarter_26 : decode cX8_passQuarter 26 = .ok (.iaload, 1) := by decide +kernel
theorem dX8_passQuarter_27 : decode cX8_passQuarter 27 = .ok (.iload_n 2, 1) := by decide +kernel
theorem dX8_passQuarter_28 : decode cX8_passQuarter 28 = .ok (.ishr, 1) := by decide +kernel
theorem dX8_passQuarter_29 : decode cX8_passQuarter 29 = .ok (.iconst 1, 1) := by decide +kernel
theorem dX8_passQuarter_30 : decode cX8_passQuarter 30 = .ok (.iand, 1) := by decide +kernel
theorem dX8_passQuarter_31 : decode cX8_passQuarter 31 = .ok (.ifCond .ne 15, 3) := by decide +kernel
theorem dX8_passQuarter_34 : decode cX8_passQuarter 34 = .ok (.aload_n 0, 1) := by decide +kernel
theorem dX8_passQuarter_35 : decode cX8_passQuarter 35 = .ok (.aload_n 1, 1) := by decide +kernel
theorem dX8_passQuarter_36 : decode cX8_passQuarter 36 = .ok (.iload_n 2, 1) := by decide +kernel
theorem dX8_passQuarter_37 : decode cX8_passQuarter 37 = .ok (.aload_n 0, 1) := by decide +kernel
theorem dX8_passQuarter_38 : decode cX8_passQuarter 38 = .ok (.aload_n 1, 1) := by decide +kernel
theorem dX8_passQuarter_39 : decode cX8_passQuarter 39 = .ok (.iload_n 2, 1) := by decide +kernel
theorem dX8_passQuarter_40 : decode cX8_passQuarter 40 = .ok (.invokevirtual 45, 3) := by decide +kernel
theorem dX8_passQuarter_43 : decode cX8_passQuarter 43 = .ok (.invokevirtual 49, 3) := by decide +kernel
theorem dX8_passQuarter_46 : decode cX8_passQuarter 46 = .ok (.iinc 2 1, 3) := by decide +kernel
theorem dX8_passQuarter_49 : decode cX8_passQuarter 49 = .ok (.goto (-37), 3) := by decide +kernel
theorem dX8_passQuarter_52 : decode cX8_passQuarter 52 = .ok (.aload_n 0, 1) := by decide +kernel
theorem dX8_passQuarter_53 : decode cX8_passQuarter 53 = .ok (.aload_n 1, 1) := by decide +kernel
theorem dX8_passQuarter_54 : decode cX8_passQuarter 54 = .ok (.invokevirtual 53, 3) := by decide +kernel
theorem dX8_passQuarter_57 : decode cX8_passQuarter 57 = .ok (.aload_n 1, 1) := by decide +kernel
theorem dX8_passQuarter_58 : decode cX8_passQuarter 58 = .ok (.bipush 61, 2) := by decide +kernel
theorem dX8_passQuarter_60 : decode cX8_passQuarter 60 = .ok (.iconst 0, 1) := by decide +kernel
theorem dX8_passQuarter_61 : decode cX8_passQuarter 61 = .ok (.iastore, 1) := by decide +kernel
theorem dX8_passQuarter_62 : decode cX8_passQuarter 62 = .ok (.aload_n 1, 1) := by decide +kernel
theorem dX8_passQuarter_63 : decode cX8_passQuarter 63 = .ok (.bipush 63, 2) := by decide +kernel
theorem dX8_passQuarter_65 : decode cX8_passQuarter 65 = .ok (.dup2, 1) := by decide +kernel
theorem dX8_passQuarter_66 : decode cX8_passQuarter 66 = .ok (.iaload, 1) := by decide +kernel
theorem dX8_passQuarter_67 : decode cX8_passQuarter 67 = .ok (.iconst 1, 1) := by decide +kernel
theorem dX8_passQuarter_68 : decode cX8_passQuarter 68 = .ok (.iadd, 1) := by decide +kernel
theorem dX8_passQuarter_69 : decode cX8_passQuarter 69 = .ok (.iastore, 1) := by decide +kernel
theorem dX8_passQuarter_70 : decode cX8_passQuarter 70 = .ok (.return_, 1) := by decide +kernel
theorem dX8_passYears_0 : decode cX8_passYears 0 = .ok (.aload_n 0, 1) := by decide +kernel
theorem dX8_passYears_1 : decode cX8_passYears 1 = .ok (.iload_n 2, 1) := by decide +kernel
theorem dX8_passYears_2 : decode cX8_passYears 2 = .ok (.putfield 28, 3) := by decide +kernel
theorem dX8_passYears_5 : decode cX8_passYears 5 = .ok (.iconst 0, 1) := by decide +kernel
theorem dX8_passYears_6 : decode cX8_passYears 6 = .ok (.istore 4, 2) := by decide +kernel
theorem dX8_passYears_8 : decode cX8_passYears 8 = .ok (.iconst 0, 1) := by decide +kernel
theorem dX8_passYears_9 : decode cX8_passYears 9 = .ok (.istore 5, 2) := by decide +kernel
theorem dX8_passYears_11 : decode cX8_passYears 11 = .ok (.iload 5, 2) := by decide +kernel
theorem dX8_passYears_13 : decode cX8_passYears 13 = .ok (.iload_n 3, 1) := by decide +kernel
theorem dX8_passYears_14 : decode cX8_passYears 14 = .ok (.if_icmp .ge 87, 3) := by decide +kernel
theorem dX8_passYears_17 : decode cX8_passYears 17 = .ok (.aload_n 0, 1) := by decide +kernel
theorem dX8_passYears_18 : decode cX8_passYears 18 = .ok (.getfield 12, 3) := by decide +kernel
theorem dX8_passYears_21 : decode cX8_passYears 21 = .ok (.getfield 42, 3) := by decide +kernel
theorem dX8_passYears_24 : decode cX8_passYears 24 = .ok (.ifCond .le 18, 3) := by decide +kernel
theorem dX8_passYears_27 : decode cX8_passYears 27 = .ok (.aload_n 0, 1) := by decide +kernel
theorem dX8_passYears_28 : decode cX8_passYears 28 = .ok (.getfield 12, 3) := by decide +kernel
theorem dX8_passYears_31 : decode cX8_passYears 31 = .ok (.getfield 56, 3) := by decide +kernel
theorem dX8_passYears_34 : decode cX8_passYears 34 = .ok (.ifCond .le 8, 3) := by decide +kernel
theorem dX8_passYears_37 : decode cX8_passYears 37 = .ok (.aload_n 0, 1) := by decide +kernel
theorem dX8_passYears_38 : decode cX8_passYears 38 = .ok (.aload_n 1, 1) := by decide +kernel
theorem dX8_passYears_39 : decode cX8_passYears 39 = .ok (.invokevirtual 59, 3) := by decide +kernel
theorem dX8_passYears_42 : decode cX8_passYears 42 = .ok (.aload_n 0, 1) := by decide +kernel
theorem dX8_passYears_43 : decode cX8_passYears 43 = .ok (.aload_n 1, 1) := by decide +kernel
theorem dX8_passYears_44 : decode cX8_passYears 44 = .ok (.invokevirtual 32, 3) := by decide +kernel
theorem dX8_passYears_47 : decode cX8_passYears 47 = .ok (.iconst 0, 1) := by decide +kernel
theorem dX8_passYears_48 : decode cX8_passYears 48 = .ok (.istore 6, 2) := by decide +kernel
theorem dX8_passYears_50 : decode cX8_passYears 50 = .ok (.iload 6, 2) := by decide +kernel
theorem dX8_passYears_52 : decode cX8_passYears 52 = .ok (.aload_n 0, 1) := by decide +kernel
theorem dX8_passYears_53 : decode cX8_passYears 53 = .ok (.getfield 12, 3) := by decide +kernel
theorem dX8_passYears_56 : decode cX8_passYears 56 = .ok (.getfield 42, 3) := by decide +kernel
theorem dX8_passYears_59 : decode cX8_passYears 59 = .ok (.if_icmp .ge 36, 3) := by decide +kernel
theorem dX8_passYears_62 : decode cX8_passYears 62 = .ok (.iload 4, 2) := by decide +kernel
theorem dX8_passYears_64 : decode cX8_passYears 64 = .ok (.aload_n 1, 1) := by decide +kernel
theorem dX8_passYears_65 : decode cX8_passYears 65 = .ok (.bipush 24, 2) := by decide +kernel
theorem dX8_passYears_67 : decode cX8_passYears 67 = .ok (.iload 6, 2) := by decide +kernel
theorem dX8_passYears_69 : decode cX8_passYears 69 = .ok (.iadd, 1) := by decide +kernel
theorem dX8_passYears_70 : decode cX8_passYears 70 = .ok (.iaload, 1) := by decide +kernel
theorem dX8_passYears_71 : decode cX8_passYears 71 = .ok (.aload_n 0, 1) := by decide +kernel
theorem dX8_passYears_72 : decode cX8_passYears 72 = .ok (.getfield 22, 3) := by decide +kernel
theorem dX8_passYears_75 : decode cX8_passYears 75 = .ok (.iload 6, 2) := by decide +kernel
theorem dX8_passYears_77 : decode cX8_passYears 77 = .ok (.iaload, 1) := by decide +kernel
theorem dX8_passYears_78 : decode cX8_passYears 78 = .ok (.if_icmp .ne 7, 3) := by decide +kernel
theorem dX8_passYears_81 : decode cX8_passYears 81 = .ok (.iconst 0, 1) := by decide +kernel
theorem dX8_passYears_82 : decode cX8_passYears 82 = .ok (.goto 4, 3) := by decide +kernel
theorem dX8_passYears_85 : decode cX8_passYears 85 = .ok (.iconst 1, 1) := by decide +kernel
theorem dX8_passYears_86 : decode cX8_passYears 86 = .ok (.iadd, 1) := by decide +kernel
theorem dX8_passYears_87 : decode cX8_passYears 87 = .ok (.istore 4, 2) := by decide +kernel
theorem dX8_passYears_89 : decode cX8_passYears 89 = .ok (.iinc 6 1, 3) := by decide +kernel
theorem dX8_passYears_92 : decode cX8_passYears 92 = .ok (.goto (-42), 3) := by decide +kernel
theorem dX8_passYears_95 : decode cX8_passYears 95 = .ok (.iinc 5 1, 3) := by decide +kernel
theorem dX8_passYears_98 : decode cX8_passYears 98 = .ok (.goto (-87), 3) := by decide +kernel
theorem dX8_passYears_101 : decode cX8_passYears 101 = .ok (.iload 4, 2) := by decide +kernel
theorem dX8_passYears_103 : decode cX8_passYears 103 = .ok (.ireturn, 1) := by decide +kernel
theorem dX8_housesOf_0 : decode cX8_housesOf 0 = .ok (.iconst 0, 1) := by decide +kernel
theorem dX8_housesOf_1 : decode cX8_housesOf 1 = .ok (.istore_n 3, 1) := by decide +kernel
theorem dX8_housesOf_2 : decode cX8_housesOf 2 = .ok (.iconst 0, 1) := by decide +kernel
theorem dX8_housesOf_3 : decode cX8_housesOf 3 = .ok (.istore 4, 2) := by decide +kernel
theorem dX8_housesOf_5 : decode cX8_housesOf 5 = .ok (.iload 4, 2) := by decide +kernel
theorem dX8_housesOf_7 : decode cX8_housesOf 7 = .ok (.aload_n 0, 1) := by decide +kernel
theorem dX8_housesOf_8 : decode cX8_housesOf 8 = .ok (.getfield 12, 3) := by decide +kernel
theorem dX8_housesOf_11 : decode cX8_housesOf 11 = .ok (.getfield 42, 3) := by decide +kernel
theorem dX8_housesOf_14 : decode cX8_housesOf 14 = .ok (.if_icmp .ge 27, 3) := by decide +kernel
theorem dX8_housesOf_17 : decode cX8_housesOf 17 = .ok (.aload_n 1, 1) := by decide +kernel
theorem dX8_housesOf_18 : decode cX8_housesOf 18 = .ok (.bipush 24, 2) := by decide +kernel
theorem dX8_housesOf_20 : decode cX8_housesOf 20 = .ok (.iload 4, 2) := by decide +kernel
theorem dX8_housesOf_22 : decode cX8_housesOf 22 = .ok (.iadd, 1) := by decide +kernel
theorem dX8_housesOf_23 : decode cX8_housesOf 23 = .ok (.iaload, 1) := by decide +kernel
theorem dX8_housesOf_24 : decode cX8_housesOf 24 = .ok (.iload_n 2, 1) := by decide +kernel
theorem dX8_housesOf_25 : decode cX8_housesOf 25 = .ok (.if_icmp .ne 10, 3) := by decide +kernel
theorem dX8_housesOf_28 : decode cX8_housesOf 28 = .ok (.iload_n 3, 1) := by decide +kernel
theorem dX8_housesOf_29 : decode cX8_housesOf 29 = .ok (.iconst 1, 1) := by decide +kernel
theorem dX8_housesOf_30 : decode cX8_housesOf 30 = .ok (.iload 4, 2) := by decide +kernel
theorem dX8_housesOf_32 : decode cX8_housesOf 32 = .ok (.ishl, 1) := by decide +kernel
theorem dX8_housesOf_33 : decode cX8_housesOf 33 = .ok (.ior, 1) := by decide +kernel
theorem dX8_housesOf_34 : decode cX8_housesOf 34 = .ok (.istore_n 3, 1) := by decide +kernel
theorem dX8_housesOf_35 : decode cX8_housesOf 35 = .ok (.iinc 4 1, 3) := by decide +kernel
theorem dX8_housesOf_38 : decode cX8_housesOf 38 = .ok (.goto (-33), 3) := by decide +kernel
theorem dX8_housesOf_41 : decode cX8_housesOf 41 = .ok (.iload_n 3, 1) := by decide +kernel
theorem dX8_housesOf_42 : decode cX8_housesOf 42 = .ok (.ireturn, 1) := by decide +kernel
theorem dX8_rentOf_0 : decode cX8_rentOf 0 = .ok (.iconst 0, 1) := by decide +kernel
theorem dX8_rentOf_1 : decode cX8_rentOf 1 = .ok (.istore_n 3, 1) := by decide +kernel
theorem dX8_rentOf_2 : decode cX8_rentOf 2 = .ok (.iconst 0, 1) := by decide +kernel
theorem dX8_rentOf_3 : decode cX8_rentOf 3 = .ok (.istore 4, 2) := by decide +kernel
theorem dX8_rentOf_5 : decode cX8_rentOf 5 = .ok (.iload 4, 2) := by decide +kernel
theorem dX8_rentOf_7 : decode cX8_rentOf 7 = .ok (.aload_n 0, 1) := by decide +kernel
theorem dX8_rentOf_8 : decode cX8_rentOf 8 = .ok (.getfield 12, 3) := by decide +kernel
theorem dX8_rentOf_11 : decode cX8_rentOf 11 = .ok (.getfield 42, 3) := by decide +kernel
theorem dX8_rentOf_14 : decode cX8_rentOf 14 = .ok (.if_icmp .ge 33, 3) := by decide +kernel
theorem dX8_rentOf_17 : decode cX8_rentOf 17 = .ok (.aload_n 1, 1) := by decide +kernel
theorem dX8_rentOf_18 : decode cX8_rentOf 18 = .ok (.bipush 24, 2) := by decide +kernel
theorem dX8_rentOf_20 : decode cX8_rentOf 20 = .ok (.iload 4, 2) := by decide +kernel
theorem dX8_rentOf_22 : decode cX8_rentOf 22 = .ok (.iadd, 1) := by decide +kernel
theorem dX8_rentOf_23 : decode cX8_rentOf 23 = .ok (.iaload, 1) := by decide +kernel
theorem dX8_rentOf_24 : decode cX8_rentOf 24 = .ok (.iload_n 2, 1) := by decide +kernel
theorem dX8_rentOf_25 : decode cX8_rentOf 25 = .ok (.if_icmp .ne 16, 3) := by decide +kernel
theorem dX8_rentOf_28 : decode cX8_rentOf 28 = .ok (.iload_n 3, 1) := by decide +kernel
theorem dX8_rentOf_29 : decode cX8_rentOf 29 = .ok (.aload_n 0, 1) := by decide +kernel
theorem dX8_rentOf_30 : decode cX8_rentOf 30 = .ok (.getfield 12, 3) := by decide +kernel
theorem dX8_rentOf_33 : decode cX8_rentOf 33 = .ok (.getfield 62, 3) := by decide +kernel
theorem dX8_rentOf_36 : decode cX8_rentOf 36 = .ok (.iload 4, 2) := by decide +kernel
theorem dX8_rentOf_38 : decode cX8_rentOf 38 = .ok (.iaload, 1) := by decide +kernel
theorem dX8_rentOf_39 : decode cX8_rentOf 39 = .ok (.iadd, 1) := by decide +kernel
theorem dX8_rentOf_40 : decode cX8_rentOf 40 = .ok (.istore_n 3, 1) := by decide +kernel
theorem dX8_rentOf_41 : decode cX8_rentOf 41 = .ok (.iinc 4 1, 3) := by decide +kernel
theorem dX8_rentOf_44 : decode cX8_rentOf 44 = .ok (.goto (-39), 3) := by decide +kernel
theorem dX8_rentOf_47 : decode cX8_rentOf 47 = .ok (.iload_n 3, 1) := by decide +kernel
theorem dX8_rentOf_48 : decode cX8_rentOf 48 = .ok (.ireturn, 1) := by decide +kernel
theorem dX8_coinsOfAll_0 : decode cX8_coinsOfAll 0 = .ok (.iconst 0, 1) := by decide +kernel
theorem dX8_coinsOfAll_1 : decode cX8_coinsOfAll 1 = .ok (.istore_n 2, 1) := by decide +kernel
theorem dX8_coinsOfAll_2 : decode cX8_coinsOfAll 2 = .ok (.iconst 0, 1) := by decide +kernel
theorem dX8_coinsOfAll_3 : decode cX8_coinsOfAll 3 = .ok (.istore_n 3, 1) := by decide +kernel
theorem dX8_coinsOfAll_4 : decode cX8_coinsOfAll 4 = .ok (.iload_n 3, 1) := by decide +kernel
theorem dX8_coinsOfAll_5 : decode cX8_coinsOfAll 5 = .ok (.aload_n 0, 1) := by decide +kernel
theorem dX8_coinsOfAll_6 : decode cX8_coinsOfAll 6 = .ok (.getfield 12, 3) := by decide +kernel
theorem dX8_coinsOfAll_9 : decode cX8_coinsOfAll 9 = .ok (.getfield 56, 3) := by decide +kernel
theorem dX8_coinsOfAll_12 : decode cX8_coinsOfAll 12 = .ok (.if_icmp .ge 18, 3) := by decide +kernel
theorem dX8_coinsOfAll_15 : decode cX8_coinsOfAll 15 = .ok (.iload_n 2, 1) := by decide +kernel
theorem dX8_coinsOfAll_16 : decode cX8_coinsOfAll 16 = .ok (.aload_n 1, 1) := by decide +kernel
theorem dX8_coinsOfAll_17 : decode cX8_coinsOfAll 17 = .ok (.bipush 54, 2) := by decide +kernel
theorem dX8_coinsOfAll_19 : decode cX8_coinsOfAll 19 = .ok (.iload_n 3, 1) := by decide +kernel
theorem dX8_coinsOfAll_20 : decode cX8_coinsOfAll 20 = .ok (.iadd, 1) := by decide +kernel
theorem dX8_coinsOfAll_21 : decode cX8_coinsOfAll 21 = .ok (.iaload, 1) := by decide +kernel
theorem dX8_coinsOfAll_22 : decode cX8_coinsOfAll 22 = .ok (.iadd, 1) := by decide +kernel
theorem dX8_coinsOfAll_23 : decode cX8_coinsOfAll 23 = .ok (.istore_n 2, 1) := by decide +kernel
theorem dX8_coinsOfAll_24 : decode cX8_coinsOfAll 24 = .ok (.iinc 3 1, 3) := by decide +kernel
theorem dX8_coinsOfAll_27 : decode cX8_coinsOfAll 27 = .ok (.goto (-23), 3) := by decide +kernel
theorem dX8_coinsOfAll_30 : decode cX8_coinsOfAll 30 = .ok (.iload_n 2, 1) := by decide +kernel
theorem dX8_coinsOfAll_31 : decode cX8_coinsOfAll 31 = .ok (.ireturn, 1) := by decide +kernel
theorem dX8_lifeOf_0 : decode cX8_lifeOf 0 = .ok (.aload_n 0, 1) := by decide +kernel
theorem dX8_lifeOf_1 : decode cX8_lifeOf 1 = .ok (.getfield 12, 3) := by decide +kernel
theorem dX8_lifeOf_4 : decode cX8_lifeOf 4 = .ok (.getfield 65, 3) := by decide +kernel
theorem dX8_lifeOf_7 : decode cX8_lifeOf 7 = .ok (.iload_n 1, 1) := by decide +kernel
theorem dX8_lifeOf_8 : decode cX8_lifeOf 8 = .ok (.iaload, 1) := by decide +kernel
theorem dX8_lifeOf_9 : decode cX8_lifeOf 9 = .ok (.iconst 1, 1) := by decide +kernel
theorem dX8_lifeOf_10 : decode cX8_lifeOf 10 = .ok (.if_icmp .ne 15, 3) := by decide +kernel
theorem dX8_lifeOf_13 : decode cX8_lifeOf 13 = .ok (.iconst 2, 1) := by decide +kernel
theorem dX8_lifeOf_14 : decode cX8_lifeOf 14 = .ok (.aload_n 0, 1) := by decide +kernel
theorem dX8_lifeOf_15 : decode cX8_lifeOf 15 = .ok (.getfield 12, 3) := by decide +kernel
theorem dX8_lifeOf_18 : decode cX8_lifeOf 18 = .ok (.getfield 68, 3) := by decide +kernel
theorem dX8_lifeOf_21 : decode cX8_lifeOf 21 = .ok (.imul, 1) := by decide +kernel
theorem dX8_lifeOf_22 : decode cX8_lifeOf 22 = .ok (.goto 10, 3) := by decide +kernel
theorem dX8_lifeOf_25 : decode cX8_lifeOf 25 = .ok (.aload_n 0, 1) := by decide +kernel
theorem dX8_lifeOf_26 : decode cX8_lifeOf 26 = .ok (.getfield 12, 3) := by decide +kernel
theorem dX8_lifeOf_29 : decode cX8_lifeOf 29 = .ok (.getfield 68, 3) := by decide +kernel
theorem dX8_lifeOf_32 : decode cX8_lifeOf 32 = .ok (.ireturn, 1) := by decide +kernel
theorem dX8_buriedIn_0 : decode cX8_buriedIn 0 = .ok (.iconst 1, 1) := by decide +kernel
theorem dX8_buriedIn_1 : decode cX8_buriedIn 1 = .ok (.aload_n 0, 1) := by decide +kernel
theorem dX8_buriedIn_2 : decode cX8_buriedIn 2 = .ok (.iload_n 2, 1) := by decide +kernel
theorem dX8_buriedIn_3 : decode cX8_buriedIn 3 = .ok (.invokevirtual 71, 3) := by decide +kernel
theorem dX8_buriedIn_6 : decode cX8_buriedIn 6 = .ok (.aload_n 1, 1) := by decide +kernel
theorem dX8_buriedIn_7 : decode cX8_buriedIn 7 = .ok (.iconst 0, 1) := by decide +kernel
theorem dX8_buriedIn_8 : decode cX8_buriedIn 8 = .ok (.iload_n 2, 1) := by decide +kernel
theorem dX8_buriedIn_9 : decode cX8_buriedIn 9 = .ok (.iadd, 1) := by decide +kernel
theorem dX8_buriedIn_10 : decode cX8_buriedIn 10 = .ok (.iaload, 1) := by decide +kernel
theorem dX8_buriedIn_11 : decode cX8_buriedIn 11 = .ok (.isub, 1) := by decide +kernel
theorem dX8_buriedIn_12 : decode cX8_buriedIn 12 = .ok (.invokestatic 75, 3) := by decide +kernel
theorem dX8_buriedIn_15 : decode cX8_buriedIn 15 = .ok (.ireturn, 1) := by decide +kernel
theorem dX8_isAsleep_0 : decode cX8_isAsleep 0 = .ok (.aload_n 0, 1) := by decide +kernel
theorem dX8_isAsleep_1 : decode cX8_isAsleep 1 = .ok (.aload_n 1, 1) := by decide +kernel
theorem dX8_isAsleep_2 : decode cX8_isAsleep 2 = .ok (.iload_n 2, 1) := by decide +kernel
theorem dX8_isAsleep_3 : decode cX8_isAsleep 3 = .ok (.invokevirtual 81, 3) := by decide +kernel
theorem dX8_isAsleep_6 : decode cX8_isAsleep 6 = .ok (.aload_n 0, 1) := by decide +kernel
theorem dX8_isAsleep_7 : decode cX8_isAsleep 7 = .ok (.getfield 12, 3) := by decide +kernel
theorem dX8_isAsleep_10 : decode cX8_isAsleep 10 = .ok (.getfield 85, 3) := by decide +kernel
theorem dX8_isAsleep_13 : decode cX8_isAsleep 13 = .ok (.invokevirtual 89, 3) := by decide +kernel
theorem dX8_isAsleep_16 : decode cX8_isAsleep 16 = .ok (.ifCond .eq 28, 3) := by decide +kernel
theorem dX8_isAsleep_19 : decode cX8_isAsleep 19 = .ok (.aload_n 0, 1) := by decide +kernel
theorem dX8_isAsleep_20 : decode cX8_isAsleep 20 = .ok (.getfield 12, 3) := by decide +kernel
theorem dX8_isAsleep_23 : decode cX8_isAsleep 23 = .ok (.getfield 85, 3) := by decide +kernel
theorem dX8_isAsleep_26 : decode cX8_isAsleep 26 = .ok (.aload_n 0, 1) := by decide +kernel
theorem dX8_isAsleep_27 : decode cX8_isAsleep 27 = .ok (.getfield 18, 3) := by decide +kernel
theorem dX8_isAsleep_30 : decode cX8_isAsleep 30 = .ok (.invokevirtual 95, 3) := by decide +kernel
theorem dX8_isAsleep_33 : decode cX8_isAsleep 33 = .ok (.ifCond .le 7, 3) := by decide +kernel
theorem dX8_isAsleep_36 : decode cX8_isAsleep 36 = .ok (.iconst 1, 1) := by decide +kernel
theorem dX8_isAsleep_37 : decode cX8_isAsleep 37 = .ok (.goto 22, 3) := by decide +kernel
theorem dX8_isAsleep_40 : decode cX8_isAsleep 40 = .ok (.iconst 0, 1) := by decide +kernel
theorem dX8_isAsleep_41 : decode cX8_isAsleep 41 = .ok (.goto 18, 3) := by decide +kernel
theorem dX8_isAsleep_44 : decode cX8_isAsleep 44 = .ok (.aload_n 1, 1) := by decide +kernel
theorem dX8_isAsleep_45 : decode cX8_isAsleep 45 = .ok (.iconst 0, 1) := by decide +kernel
theorem dX8_isAsleep_46 : decode cX8_isAsleep 46 = .ok (.iload_n 2, 1) := by decide +kernel
theorem dX8_isAsleep_47 : decode cX8_isAsleep 47 = .ok (.iadd, 1) := by decide +kernel
theorem dX8_isAsleep_48 : decode cX8_isAsleep 48 = .ok (.iaload, 1) := by decide +kernel
theorem dX8_isAsleep_49 : decode cX8_isAsleep 49 = .ok (.bipush 30, 2) := by decide +kernel
theorem dX8_isAsleep_51 : decode cX8_isAsleep 51 = .ok (.if_icmp .lt 7, 3) := by decide +kernel
theorem dX8_isAsleep_54 : decode cX8_isAsleep 54 = .ok (.iconst 1, 1) := by decide +kernel
theorem dX8_isAsleep_55 : decode cX8_isAsleep 55 = .ok (.goto 4, 3) := by decide +kernel
theorem dX8_isAsleep_58 : decode cX8_isAsleep 58 = .ok (.iconst 0, 1) := by decide +kernel
theorem dX8_isAsleep_59 : decode cX8_isAsleep 59 = .ok (.ireturn, 1) := by decide +kernel
theorem dX8_likingNow_0 : decode cX8_likingNow 0 = .ok (.aload_n 1, 1) := by decide +kernel
theorem dX8_likingNow_1 : decode cX8_likingNow 1 = .ok (.bipush 62, 2) := by decide +kernel
theorem dX8_likingNow_3 : decode cX8_likingNow 3 = .ok (.iaload, 1) := by decide +kernel
theorem dX8_likingNow_4 : decode cX8_likingNow 4 = .ok (.iload_n 2, 1) := by decide +kernel
theorem dX8_likingNow_5 : decode cX8_likingNow 5 = .ok (.ishr, 1) := by decide +kernel
theorem dX8_likingNow_6 : decode cX8_likingNow 6 = .ok (.iconst 1, 1) := by decide +kernel
theorem dX8_likingNow_7 : decode cX8_likingNow 7 = .ok (.iand, 1) := by decide +kernel
theorem dX8_likingNow_8 : decode cX8_likingNow 8 = .ok (.iconst 1, 1) := by decide +kernel
theorem dX8_likingNow_9 : decode cX8_likingNow 9 = .ok (.if_icmp .ne 5, 3) := by decide +kernel
theorem dX8_likingNow_12 : decode cX8_likingNow 12 = .ok (.iconst 0, 1) := by decide +kernel
theorem dX8_likingNow_13 : decode cX8_likingNow 13 = .ok (.ireturn, 1) := by decide +kernel
theorem dX8_likingNow_14 : decode cX8_likingNow 14 = .ok (.aload_n 0, 1) := by decide +kernel
theorem dX8_likingNow_15 : decode cX8_likingNow 15 = .ok (.aload_n 1, 1) := by decide +kernel
theorem dX8_likingNow_16 : decode cX8_likingNow 16 = .ok (.invokevirtual 36, 3) := by decide +kernel
theorem dX8_likingNow_19 : decode cX8_likingNow 19 = .ok (.aload_n 0, 1) := by decide +kernel
theorem dX8_likingNow_20 : decode cX8_likingNow 20 = .ok (.aload_n 1, 1) := by decide +kernel
theorem dX8_likingNow_21 : decode cX8_likingNow 21 = .ok (.iload_n 2, 1) := by decide +kernel
theorem dX8_likingNow_22 : decode cX8_likingNow 22 = .ok (.invokevirtual 81, 3) := by decide +kernel
theorem dX8_likingNow_25 : decode cX8_likingNow 25 = .ok (.aload_n 0, 1) := by decide +kernel
theorem dX8_likingNow_26 : decode cX8_likingNow 26 = .ok (.aload_n 1, 1) := by decide +kernel
theorem dX8_likingNow_27 : decode cX8_likingNow 27 = .ok (.iload_n 2, 1) := by decide +kernel
theorem dX8_likingNow_28 : decode cX8_likingNow 28 = .ok (.iload_n 3, 1) := by decide +kernel
theorem dX8_likingNow_29 : decode cX8_likingNow 29 = .ok (.invokevirtual 99, 3) := by decide +kernel
theorem dX8_likingNow_32 : decode cX8_likingNow 32 = .ok (.ireturn, 1) := by decide +kernel
theorem dX8_rememberOwners_0 : decode cX8_rememberOwners 0 = .ok (.iconst 0, 1) := by decide +kernel
theorem dX8_rememberOwners_1 : decode cX8_rememberOwners 1 = .ok (.istore_n 2, 1) := by decide +kernel
theorem dX8_rememberOwners_2 : decode cX8_rememberOwners 2 = .ok (.iload_n 2, 1) := by decide +kernel
theorem dX8_rememberOwners_3 : decode cX8_rememberOwners 3 = .ok (.bipush 7, 2) := by decide +kernel
theorem dX8_rememberOwners_5 : decode cX8_rememberOwners 5 = .ok (.if_icmp .ge 16, 3) := by decide +kernel
theorem dX8_rememberOwners_8 : decode cX8_rememberOwners 8 = .ok (.aload_n 0, 1) := by decide +kernel
theorem dX8_rememberOwners_9 : decode cX8_rememberOwners 9 = .ok (.getfield 25, 3) := by decide +kernel
theorem dX8_rememberOwners_12 : decode cX8_rememberOwners 12 = .ok (.iload_n 2, 1) := by decide +kernel
theorem dX8_rememberOwners_13 : decode cX8_rememberOwners 13 = .ok (.iconst 0, 1) := by decide +kernel
theorem dX8_rememberOwners_14 : decode cX8_rememberOwners 14 = .ok (.iastore, 1) := by decide +kernel
theorem dX8_rememberOwners_15 : decode cX8_rememberOwners 15 = .ok (.iinc 2 1, 3) := by decide +kernel
theorem dX8_rememberOwners_18 : decode cX8_rememberOwners 18 = .ok (.goto (-16), 3) := by decide +kernel
theorem dX8_rememberOwners_21 : decode cX8_rememberOwners 21 = .ok (.iconst 0, 1) := by decide +kernel
theorem dX8_rememberOwners_22 : decode cX8_rememberOwners 22 = .ok (.istore_n 2, 1) := by decide +kernel
theorem dX8_rememberOwners_23 : decode cX8_rememberOwners 23 = .ok (.iload_n 2, 1) := by decide +kernel
theorem dX8_rememberOwners_24 : decode cX8_rememberOwners 24 = .ok (.bipush 8, 2) := by decide +kernel
theorem dX8_rememberOwners_26 : decode cX8_rememberOwners 26 = .ok (.if_icmp .ge 43, 3) := by decide +kernel
theorem dX8_rememberOwners_29 : decode cX8_rememberOwners 29 = .ok (.aload_n 1, 1) := by decide +kernel
theorem dX8_rememberOwners_30 : decode cX8_rememberOwners 30 = .ok (.bipush 24, 2) := by decide +kernel
theorem dX8_rememberOwners_32 : decode cX8_rememberOwners 32 = .ok (.iload_n 2, 1) := by decide +kernel
theorem dX8_rememberOwners_33 : decode cX8_rememberOwners 33 = .ok (.iadd, 1) := by decide +kernel
theorem dX8_rememberOwners_34 : decode cX8_rememberOwners 34 = .ok (.iaload, 1) := by decide +kernel
theorem dX8_rememberOwners_35 : decode cX8_rememberOwners 35 = .ok (.istore_n 3, 1) := by decide +kernel
theorem dX8_rememberOwners_36 : decode cX8_rememberOwners 36 = .ok (.aload_n 0, 1) := by decide +kernel
theorem dX8_rememberOwners_37 : decode cX8_rememberOwners 37 = .ok (.getfield 22, 3) := by decide +kernel
theorem dX8_rememberOwners_40 : decode cX8_rememberOwners 40 = .ok (.iload_n 2, 1) := by decide +kernel
theorem dX8_rememberOwners_41 : decode cX8_rememberOwners 41 = .ok (.iload_n 3, 1) := by decide +kernel
theorem dX8_rememberOwners_42 : decode cX8_rememberOwners 42 = .ok (.iastore, 1) := by decide +kernel
theorem dX8_rememberOwners_43 : decode cX8_rememberOwners 43 = .ok (.iload_n 3, 1) := by decide +kernel
theorem dX8_rememberOwners_44 : decode cX8_rememberOwners 44 = .ok (.ifCond .lt 19, 3) := by decide +kernel
theorem dX8_rememberOwners_47 : decode cX8_rememberOwners 47 = .ok (.iload_n 3, 1) := by decide +kernel
theorem dX8_rememberOwners_48 : decode cX8_rememberOwners 48 = .ok (.bipush 7, 2) := by decide +kernel
theorem dX8_rememberOwners_50 : decode cX8_rememberOwners 50 = .ok (.if_icmp .ge 13, 3) := by decide +kernel
theorem dX8_rememberOwners_53 : decode cX8_rememberOwners 53 = .ok (.aload_n 0, 1) := by decide +kernel
theorem dX8_rememberOwners_54 : decode cX8_rememberOwners 54 = .ok (.getfield 25, 3) := by decide +kernel
theorem dX8_rememberOwners_57 : decode cX8_rememberOwners 57 = .ok (.iload_n 3, 1) := by decide +kernel
theorem dX8_rememberOwners_58 : decode cX8_rememberOwners 58 = .ok (.dup2, 1) := by decide +kernel
theorem dX8_rememberOwners_59 : decode cX8_rememberOwners 59 = .ok (.iaload, 1) := by decide +kernel
theorem dX8_rememberOwners_60 : decode cX8_rememberOwners 60 = .ok (.iconst 1, 1) := by decide +kernel
theorem dX8_rememberOwners_61 : decode cX8_rememberOwners 61 = .ok (.iadd, 1) := by decide +kernel
theorem dX8_rememberOwners_62 : decode cX8_rememberOwners 62 = .ok (.iastore, 1) := by decide +kernel
theorem dX8_rememberOwners_63 : decode cX8_rememberOwners 63 = .ok (.iinc 2 1, 3) := by decide +kernel
theorem dX8_rememberOwners_66 : decode cX8_rememberOwners 66 = .ok (.goto (-43), 3) := by decide +kernel
theorem dX8_rememberOwners_69 : decode cX8_rememberOwners 69 = .ok (.return_, 1) := by decide +kernel
theorem dX8_growOld_0 : decode cX8_growOld 0 = .ok (.iconst 0, 1) := by decide +kernel
theorem dX8_growOld_1 : decode cX8_growOld 1 = .ok (.istore_n 2, 1) := by decide +kernel
theorem dX8_growOld_2 : decode cX8_growOld 2 = .ok (.iload_n 2, 1) := by decide +kernel
theorem dX8_growOld_3 : decode cX8_growOld 3 = .ok (.aload_n 0, 1) := by decide +kernel
theorem dX8_growOld_4 : decode cX8_growOld 4 = .ok (.getfield 12, 3) := by decide +kernel
theorem dX8_growOld_7 : decode cX8_growOld 7 = .ok (.getfield 42, 3) := by decide +kernel
theorem dX8_growOld_10 : decode cX8_growOld 10 = .ok (.if_icmp .ge 48, 3) := by decide +kernel
theorem dX8_growOld_13 : decode cX8_growOld 13 = .ok (.aload_n 1, 1) := by decide +kernel
theorem dX8_growOld_14 : decode cX8_growOld 14 = .ok (.bipush 62, 2) := by decide +kernel
theorem dX8_growOld_16 : decode cX8_growOld 16 = .ok (.iaload, 1) := by decide +kernel
theorem dX8_growOld_17 : decode cX8_growOld 17 = .ok (.iload_n 2, 1) := by decide +kernel
theorem dX8_growOld_18 : decode cX8_growOld 18 = .ok (.ishr, 1) := by decide +kernel
theorem dX8_growOld_19 : decode cX8_growOld 19 = .ok (.iconst 1, 1) := by decide +kernel
theorem dX8_growOld_20 : decode cX8_growOld 20 = .ok (.iand, 1) := by decide +kernel
theorem dX8_growOld_21 : decode cX8_growOld 21 = .ok (.ifCond .ne 31, 3) := by decide +kernel
theorem dX8_growOld_24 : decode cX8_growOld 24 = .ok (.aload_n 1, 1) := by decide +kernel
theorem dX8_growOld_25 : decode cX8_growOld 25 = .ok (.iconst 0, 1) := by decide +kernel
theorem dX8_growOld_26 : decode cX8_growOld 26 = .ok (.iload_n 2, 1) := by decide +kernel
theorem dX8_growOld_27 : decode cX8_growOld 27 = .ok (.iadd, 1) := by decide +kernel
theorem dX8_growOld_28 : decode cX8_growOld 28 = .ok (.dup2, 1) := by decide +kernel
theorem dX8_growOld_29 : decode cX8_growOld 29 = .ok (.iaload, 1) := by decide +kernel
theorem dX8_growOld_30 : decode cX8_growOld 30 = .ok (.iconst 1, 1) := by decide +kernel
theorem dX8_growOld_31 : decode cX8_growOld 31 = .ok (.iadd, 1) := by decide +kernel
theorem dX8_growOld_32 : decode cX8_growOld 32 = .ok (.iastore, 1) := by decide +kernel
theorem dX8_growOld_33 : decode cX8_growOld 33 = .ok (.aload_n 1, 1) := by decide +kernel
theorem dX8_growOld_34 : decode cX8_growOld 34 = .ok (.iconst 0, 1) := by decide +kernel
theorem dX8_growOld_35 : decode cX8_growOld 35 = .ok (.iload_n 2, 1) := by decide +kernel
theorem dX8_growOld_36 : decode cX8_growOld 36 = .ok (.iadd, 1) := by decide +kernel
theorem dX8_growOld_37 : decode cX8_growOld 37 = .ok (.iaload, 1) := by decide +kernel
theorem dX8_growOld_38 : decode cX8_growOld 38 = .ok (.aload_n 0, 1) := by decide +kernel
theorem dX8_growOld_39 : decode cX8_growOld 39 = .ok (.iload_n 2, 1) := by decide +kernel
theorem dX8_growOld_40 : decode cX8_growOld 40 = .ok (.invokevirtual 71, 3) := by decide +kernel
theorem dX8_growOld_43 : decode cX8_growOld 43 = .ok (.if_icmp .lt 9, 3) := by decide +kernel
theorem dX8_growOld_46 : decode cX8_growOld 46 = .ok (.aload_n 0, 1) := by decide +kernel
theorem dX8_growOld_47 : decode cX8_growOld 47 = .ok (.aload_n 1, 1) := by decide +kernel
theorem dX8_growOld_48 : decode cX8_growOld 48 = .ok (.iload_n 2, 1) := by decide +kernel
theorem dX8_growOld_49 : decode cX8_growOld 49 = .ok (.invokevirtual 103, 3) := by decide +kernel
theorem dX8_growOld_52 : decode cX8_growOld 52 = .ok (.iinc 2 1, 3) := by decide +kernel
theorem dX8_growOld_55 : decode cX8_growOld 55 = .ok (.goto (-53), 3) := by decide +kernel
theorem dX8_growOld_58 : decode cX8_growOld 58 = .ok (.return_, 1) := by decide +kernel
theorem dX8_bury_0 : decode cX8_bury 0 = .ok (.aload_n 1, 1) := by decide +kernel
theorem dX8_bury_1 : decode cX8_bury 1 = .ok (.bipush 16, 2) := by decide +kernel
theorem dX8_bury_3 : decode cX8_bury 3 = .ok (.iload_n 2, 1) := by decide +kernel
theorem dX8_bury_4 : decode cX8_bury 4 = .ok (.iadd, 1) := by decide +kernel
theorem dX8_bury_5 : decode cX8_bury 5 = .ok (.iaload, 1) := by decide +kernel
theorem dX8_bury_6 : decode cX8_bury 6 = .ok (.ifCond .le 22, 3) := by decide +kernel
theorem dX8_bury_9 : decode cX8_bury 9 = .ok (.aload_n 1, 1) := by decide +kernel
theorem dX8_bury_10 : decode cX8_bury 10 = .ok (.bipush 16, 2) := by decide +kernel
theorem dX8_bury_12 : decode cX8_bury 12 = .ok (.iload_n 2, 1) := by decide +kernel
theorem dX8_bury_13 : decode cX8_bury 13 = .ok (.iadd, 1) := by decide +kernel
theorem dX8_bury_14 : decode cX8_bury 14 = .ok (.dup2, 1) := by decide +kernel
theorem dX8_bury_15 : decode cX8_bury 15 = .ok (.iaload, 1) := by decide +kernel
theorem dX8_bury_16 : decode cX8_bury 16 = .ok (.iconst 1, 1) := by decide +kernel
theorem dX8_bury_17 : decode cX8_bury 17 = .ok (.isub, 1) := by decide +kernel
theorem dX8_bury_18 : decode cX8_bury 18 = .ok (.iastore, 1) := by decide +kernel
theorem dX8_bury_19 : decode cX8_bury 19 = .ok (.aload_n 1, 1) := by decide +kernel
theorem dX8_bury_20 : decode cX8_bury 20 = .ok (.iconst 0, 1) := by decide +kernel
theorem dX8_bury_21 : decode cX8_bury 21 = .ok (.iload_n 2, 1) := by decide +kernel
theorem dX8_bury_22 : decode cX8_bury 22 = .ok (.iadd, 1) := by decide +kernel
theorem dX8_bury_23 : decode cX8_bury 23 = .ok (.iconst 0, 1) := by decide +kernel
theorem dX8_bury_24 : decode cX8_bury 24 = .ok (.iastore, 1) := by decide +kernel
theorem dX8_bury_25 : decode cX8_bury 25 = .ok (.goto 27, 3) := by decide +kernel
theorem dX8_bury_28 : decode cX8_bury 28 = .ok (.aload_n 1, 1) := by decide +kernel
theorem dX8_bury_29 : decode cX8_bury 29 = .ok (.bipush 62, 2) := by decide +kernel
theorem dX8_bury_31 : decode cX8_bury 31 = .ok (.dup2, 1) := by decide +kernel
theorem dX8_bury_32 : decode cX8_bury 32 = .ok (.iaload, 1) := by decide +kernel
theorem dX8_bury_33 : decode cX8_bury 33 = .ok (.iconst 1, 1) := by decide +kernel
theorem dX8_bury_34 : decode cX8_bury 34 = .ok (.iload_n 2, 1) := by decide +kernel
theorem dX8_bury_35 : decode cX8_bury 35 = .ok (.ishl, 1) := by decide +kernel
theorem dX8_bury_36 : decode cX8_bury 36 = .ok (.ior, 1) := by decide +kernel
theorem dX8_bury_37 : decode cX8_bury 37 = .ok (.iastore, 1) := by decide +kernel
theorem dX8_bury_38 : decode cX8_bury 38 = .ok (.aload_n 1, 1) := by decide +kernel
theorem dX8_bury_39 : decode cX8_bury 39 = .ok (.bipush 24, 2) := by decide +kernel
theorem dX8_bury_41 : decode cX8_bury 41 = .ok (.iload_n 2, 1) := by decide +kernel
theorem dX8_bury_42 : decode cX8_bury 42 = .ok (.iadd, 1) := by decide +kernel
theorem dX8_bury_43 : decode cX8_bury 43 = .ok (.iconst (-1), 1) := by decide +kernel
theorem dX8_bury_44 : decode cX8_bury 44 = .ok (.iastore, 1) := by decide +kernel
theorem dX8_bury_45 : decode cX8_bury 45 = .ok (.aload_n 1, 1) := by decide +kernel
theorem dX8_bury_46 : decode cX8_bury 46 = .ok (.bipush 32, 2) := by decide +kernel
theorem dX8_bury_48 : decode cX8_bury 48 = .ok (.iload_n 2, 1) := by decide +kernel
theorem dX8_bury_49 : decode cX8_bury 49 = .ok (.iadd, 1) := by decide +kernel
theorem dX8_bury_50 : decode cX8_bury 50 = .ok (.iconst 0, 1) := by decide +kernel
theorem dX8_bury_51 : decode cX8_bury 51 = .ok (.iastore, 1) := by decide +kernel
theorem dX8_bury_52 : decode cX8_bury 52 = .ok (.return_, 1) := by decide +kernel
theorem dX8_settle_0 : decode cX8_settle 0 = .ok (.iload_n 3, 1) := by decide +kernel
theorem dX8_settle_1 : decode cX8_settle 1 = .ok (.iconst (-1), 1) := by decide +kernel
theorem dX8_settle_2 : decode cX8_settle 2 = .ok (.if_icmp .ne 13, 3) := by decide +kernel
theorem dX8_settle_5 : decode cX8_settle 5 = .ok (.aload_n 1, 1) := by decide +kernel
theorem dX8_settle_6 : decode cX8_settle 6 = .ok (.bipush 32, 2) := by decide +kernel
theorem dX8_settle_8 : decode cX8_settle 8 = .ok (.iload_n 2, 1) := by decide +kernel
theorem dX8_settle_9 : decode cX8_settle 9 = .ok (.iadd, 1) := by decide +kernel
theorem dX8_settle_10 : decode cX8_settle 10 = .ok (.iconst 0, 1) := by decide +kernel
theorem dX8_settle_11 : decode cX8_settle 11 = .ok (.iastore, 1) := by decide +kernel
theorem dX8_settle_12 : decode cX8_settle 12 = .ok (.goto 49, 3) := by decide +kernel
theorem dX8_settle_15 : decode cX8_settle 15 = .ok (.aload_n 1, 1) := by decide +kernel
theorem dX8_settle_16 : decode cX8_settle 16 = .ok (.bipush 32, 2) := by decide +kernel
theorem dX8_settle_18 : decode cX8_settle 18 = .ok (.iload_n 2, 1) := by decide +kernel
theorem dX8_settle_19 : decode cX8_settle 19 = .ok (.iadd, 1) := by decide +kernel
theorem dX8_settle_20 : decode cX8_settle 20 = .ok (.iload_n 3, 1) := by decide +kernel
theorem dX8_settle_21 : decode cX8_settle 21 = .ok (.aload_n 0, 1) := by decide +kernel
theorem dX8_settle_22 : decode cX8_settle 22 = .ok (.getfield 22, 3) := by decide +kernel
theorem dX8_settle_25 : decode cX8_settle 25 = .ok (.iload_n 2, 1) := by decide +kernel
theorem dX8_settle_26 : decode cX8_settle 26 = .ok (.iaload, 1) := by decide +kernel
theorem dX8_settle_27 : decode cX8_settle 27 = .ok (.if_icmp .ne 14, 3) := by decide +kernel
theorem dX8_settle_30 : decode cX8_settle 30 = .ok (.aload_n 1, 1) := by decide +kernel
theorem dX8_settle_31 : decode cX8_settle 31 = .ok (.bipush 32, 2) := by decide +kernel
theorem dX8_settle_33 : decode cX8_settle 33 = .ok (.iload_n 2, 1) := by decide +kernel
theorem dX8_settle_34 : decode cX8_settle 34 = .ok (.iadd, 1) := by decide +kernel
theorem dX8_settle_35 : decode cX8_settle 35 = .ok (.iaload, 1) := by decide +kernel
theorem dX8_settle_36 : decode cX8_settle 36 = .ok (.iconst 1, 1) := by decide +kernel
theorem dX8_settle_37 : decode cX8_settle 37 = .ok (.iadd, 1) := by decide +kernel
theorem dX8_settle_38 : decode cX8_settle 38 = .ok (.goto 4, 3) := by decide +kernel
theorem dX8_settle_41 : decode cX8_settle 41 = .ok (.iconst 1, 1) := by decide +kernel
theorem dX8_settle_42 : decode cX8_settle 42 = .ok (.iastore, 1) := by decide +kernel
theorem dX8_settle_43 : decode cX8_settle 43 = .ok (.aload_n 1, 1) := by decide +kernel
theorem dX8_settle_44 : decode cX8_settle 44 = .ok (.bipush 40, 2) := by decide +kernel
theorem dX8_settle_46 : decode cX8_settle 46 = .ok (.iload_n 3, 1) := by decide +kernel
theorem dX8_settle_47 : decode cX8_settle 47 = .ok (.iadd, 1) := by decide +kernel
theorem dX8_settle_48 : decode cX8_settle 48 = .ok (.iconst 0, 1) := by decide +kernel
theorem dX8_settle_49 : decode cX8_settle 49 = .ok (.aload_n 1, 1) := by decide +kernel
theorem dX8_settle_50 : decode cX8_settle 50 = .ok (.bipush 40, 2) := by decide +kernel
theorem dX8_settle_52 : decode cX8_settle 52 = .ok (.iload_n 3, 1) := by decide +kernel
theorem dX8_settle_53 : decode cX8_settle 53 = .ok (.iadd, 1) := by decide +kernel
theorem dX8_settle_54 : decode cX8_settle 54 = .ok (.iaload, 1) := by decide +kernel
theorem dX8_settle_55 : decode cX8_settle 55 = .ok (.iconst 1, 1) := by decide +kernel
theorem dX8_settle_56 : decode cX8_settle 56 = .ok (.isub, 1) := by decide +kernel
theorem dX8_settle_57 : decode cX8_settle 57 = .ok (.invokestatic 75, 3) := by decide +kernel
theorem dX8_settle_60 : decode cX8_settle 60 = .ok (.iastore, 1) := by decide +kernel
theorem dX8_settle_61 : decode cX8_settle 61 = .ok (.aload_n 1, 1) := by decide +kernel
theorem dX8_settle_62 : decode cX8_settle 62 = .ok (.bipush 24, 2) := by decide +kernel
theorem dX8_settle_64 : decode cX8_settle 64 = .ok (.iload_n 2, 1) := by decide +kernel
theorem dX8_settle_65 : decode cX8_settle 65 = .ok (.iadd, 1) := by decide +kernel
theorem dX8_settle_66 : decode cX8_settle 66 = .ok (.iload_n 3, 1) := by decide +kernel
theorem dX8_settle_67 : decode cX8_settle 67 = .ok (.iastore, 1) := by decide +kernel
theorem dX8_settle_68 : decode cX8_settle 68 = .ok (.return_, 1) := by decide +kernel
theorem dX8_sitsBy_0 : decode cX8_sitsBy 0 = .ok (.aload_n 1, 1) := by decide +kernel
theorem dX8_sitsBy_1 : decode cX8_sitsBy 1 = .ok (.bipush 61, 2) := by decide +kernel
theorem dX8_sitsBy_3 : decode cX8_sitsBy 3 = .ok (.iaload, 1) := by decide +kernel
theorem dX8_sitsBy_4 : decode cX8_sitsBy 4 = .ok (.iload_n 2, 1) := by decide +kernel
theorem dX8_sitsBy_5 : decode cX8_sitsBy 5 = .ok (.ishr, 1) := by decide +kernel
theorem dX8_sitsBy_6 : decode cX8_sitsBy 6 = .ok (.iconst 1, 1) := by decide +kernel
theorem dX8_sitsBy_7 : decode cX8_sitsBy 7 = .ok (.iand, 1) := by decide +kernel
theorem dX8_sitsBy_8 : decode cX8_sitsBy 8 = .ok (.iconst 1, 1) := by decide +kernel
theorem dX8_sitsBy_9 : decode cX8_sitsBy 9 = .ok (.if_icmp .eq 12, 3) := by decide +kernel
theorem dX8_sitsBy_12 : decode cX8_sitsBy 12 = .ok (.aload_n 0, 1) := by decide +kernel
theorem dX8_sitsBy_13 : decode cX8_sitsBy 13 = .ok (.aload_n 1, 1) := by decide +kernel
theorem dX8_sitsBy_14 : decode cX8_sitsBy 14 = .ok (.iload_n 2, 1) := by decide +kernel
theorem dX8_sitsBy_15 : decode cX8_sitsBy 15 = .ok (.invokevirtual 106, 3) := by decide +kernel
theorem dX8_sitsBy_18 : decode cX8_sitsBy 18 = .ok (.ifCond .eq 5, 3) := by decide +kernel
theorem dX8_sitsBy_21 : decode cX8_sitsBy 21 = .ok (.iconst (-1), 1) := by decide +kernel
theorem dX8_sitsBy_22 : decode cX8_sitsBy 22 = .ok (.ireturn, 1) := by decide +kernel
theorem dX8_sitsBy_23 : decode cX8_sitsBy 23 = .ok (.iconst (-1), 1) := by decide +kernel
theorem dX8_sitsBy_24 : decode cX8_sitsBy 24 = .ok (.istore_n 3, 1) := by decide +kernel
theorem dX8_sitsBy_25 : decode cX8_sitsBy 25 = .ok (.iconst 0, 1) := by decide +kernel
theorem dX8_sitsBy_26 : decode cX8_sitsBy 26 = .ok (.istore 4, 2) := by decide +kernel
theorem dX8_sitsBy_28 : decode cX8_sitsBy 28 = .ok (.iconst 0, 1) := by decide +kernel
theorem dX8_sitsBy_29 : decode cX8_sitsBy 29 = .ok (.istore 5, 2) := by decide +kernel
theorem dX8_sitsBy_31 : decode cX8_sitsBy 31 = .ok (.iload 5, 2) := by decide +kernel
theorem dX8_sitsBy_33 : decode cX8_sitsBy 33 = .ok (.aload_n 0, 1) := by decide +kernel
theorem dX8_sitsBy_34 : decode cX8_sitsBy 34 = .ok (.getfield 12, 3) := by decide +kernel
theorem dX8_sitsBy_37 : decode cX8_sitsBy 37 = .ok (.getfield 56, 3) := by decide +kernel
theorem dX8_sitsBy_40 : decode cX8_sitsBy 40 = .ok (.if_icmp .ge 33, 3) := by decide +kernel
theorem dX8_sitsBy_43 : decode cX8_sitsBy 43 = .ok (.aload_n 0, 1) := by decide +kernel
theorem dX8_sitsBy_44 : decode cX8_sitsBy 44 = .ok (.aload_n 1, 1) := by decide +kernel
theorem dX8_sitsBy_45 : decode cX8_sitsBy 45 = .ok (.iload_n 2, 1) := by decide +kernel
theorem dX8_sitsBy_46 : decode cX8_sitsBy 46 = .ok (.iload 5, 2) := by decide +kernel
theorem dX8_sitsBy_48 : decode cX8_sitsBy 48 = .ok (.invokevirtual 99, 3) := by decide +kernel
theorem dX8_sitsBy_51 : decode cX8_sitsBy 51 = .ok (.istore 6, 2) := by decide +kernel
theorem dX8_sitsBy_53 : decode cX8_sitsBy 53 = .ok (.iload 6, 2) := by decide +kernel
theorem dX8_sitsBy_55 : decode cX8_sitsBy 55 = .ok (.iload 4, 2) := by decide +kernel
theorem dX8_sitsBy_57 : decode cX8_sitsBy 57 = .ok (.if_icmp .le 10, 3) := by decide +kernel
theorem dX8_sitsBy_60 : decode cX8_sitsBy 60 = .ok (.iload 6, 2) := by decide +kernel
theorem dX8_sitsBy_62 : decode cX8_sitsBy 62 = .ok (.istore 4, 2) := by decide +kernel
theorem dX8_sitsBy_64 : decode cX8_sitsBy 64 = .ok (.iload 5, 2) := by decide +kernel
theorem dX8_sitsBy_66 : decode cX8_sitsBy 66 = .ok (.istore_n 3, 1) := by decide +kernel
theorem dX8_sitsBy_67 : decode cX8_sitsBy 67 = .ok (.iinc 5 1, 3) := by decide +kernel
theorem dX8_sitsBy_70 : decode cX8_sitsBy 70 = .ok (.goto (-39), 3) := by decide +kernel
theorem dX8_sitsBy_73 : decode cX8_sitsBy 73 = .ok (.iload_n 3, 1) := by decide +kernel
theorem dX8_sitsBy_74 : decode cX8_sitsBy 74 = .ok (.ireturn, 1) := by decide +kernel
theorem dX8_likingOf_0 : decode cX8_likingOf 0 = .ok (.aload_n 0, 1) := by decide +kernel
theorem dX8_likingOf_1 : decode cX8_likingOf 1 = .ok (.getfield 22, 3) := by decide +kernel
theorem dX8_likingOf_4 : decode cX8_likingOf 4 = .ok (.iload_n 2, 1) := by decide +kernel
theorem dX8_likingOf_5 : decode cX8_likingOf 5 = .ok (.iaload, 1) := by decide +kernel
theorem dX8_likingOf_6 : decode cX8_likingOf 6 = .ok (.iload_n 3, 1) := by decide +kernel
theorem dX8_likingOf_7 : decode cX8_likingOf 7 = .ok (.if_icmp .ne 12, 3) := by decide +kernel
theorem dX8_likingOf_10 : decode cX8_likingOf 10 = .ok (.aload_n 1, 1) := by decide +kernel
theorem dX8_likingOf_11 : decode cX8_likingOf 11 = .ok (.bipush 32, 2) := by decide +kernel
theorem dX8_likingOf_13 : decode cX8_likingOf 13 = .ok (.iload_n 2, 1) := by decide +kernel
theorem dX8_likingOf_14 : decode cX8_likingOf 14 = .ok (.iadd, 1) := by decide +kernel
theorem dX8_likingOf_15 : decode cX8_likingOf 15 = .ok (.iaload, 1) := by decide +kernel
theorem dX8_likingOf_16 : decode cX8_likingOf 16 = .ok (.goto 4, 3) := by decide +kernel
theorem dX8_likingOf_19 : decode cX8_likingOf 19 = .ok (.iconst 0, 1) := by decide +kernel
theorem dX8_likingOf_20 : decode cX8_likingOf 20 = .ok (.istore 4, 2) := by decide +kernel
theorem dX8_likingOf_22 : decode cX8_likingOf 22 = .ok (.aload_n 0, 1) := by decide +kernel
theorem dX8_likingOf_23 : decode cX8_likingOf 23 = .ok (.getfield 12, 3) := by decide +kernel
theorem dX8_likingOf_26 : decode cX8_likingOf 26 = .ok (.getfield 110, 3) := by decide +kernel
theorem dX8_likingOf_29 : decode cX8_likingOf 29 = .ok (.invokevirtual 89, 3) := by decide +kernel
theorem dX8_likingOf_32 : decode cX8_likingOf 32 = .ok (.ifCond .eq 38, 3) := by decide +kernel
theorem dX8_likingOf_35 : decode cX8_likingOf 35 = .ok (.aload_n 0, 1) := by decide +kernel
theorem dX8_likingOf_36 : decode cX8_likingOf 36 = .ok (.getfield 18, 3) := by decide +kernel
theorem dX8_likingOf_39 : decode cX8_likingOf 39 = .ok (.bipush 7, 2) := by decide +kernel
theorem dX8_likingOf_41 : decode cX8_likingOf 41 = .ok (.iload 4, 2) := by decide +kernel
theorem dX8_likingOf_43 : decode cX8_likingOf 43 = .ok (.iastore, 1) := by decide +kernel
theorem dX8_likingOf_44 : decode cX8_likingOf 44 = .ok (.aload_n 0, 1) := by decide +kernel
theorem dX8_likingOf_45 : decode cX8_likingOf 45 = .ok (.aload_n 1, 1) := by decide +kernel
theorem dX8_likingOf_46 : decode cX8_likingOf 46 = .ok (.iload_n 2, 1) := by decide +kernel
theorem dX8_likingOf_47 : decode cX8_likingOf 47 = .ok (.iload_n 3, 1) := by decide +kernel
theorem dX8_likingOf_48 : decode cX8_likingOf 48 = .ok (.invokevirtual 113, 3) := by decide +kernel
theorem dX8_likingOf_51 : decode cX8_likingOf 51 = .ok (.aload_n 0, 1) := by decide +kernel
theorem dX8_likingOf_52 : decode cX8_likingOf 52 = .ok (.getfield 12, 3) := by decide +kernel
theorem dX8_likingOf_55 : decode cX8_likingOf 55 = .ok (.getfield 110, 3) := by decide +kernel
theorem dX8_likingOf_58 : decode cX8_likingOf 58 = .ok (.aload_n 0, 1) := by decide +kernel
theorem dX8_likingOf_59 : decode cX8_likingOf 59 = .ok (.getfield 18, 3) := by decide +kernel
theorem dX8_likingOf_62 : decode cX8_likingOf 62 = .ok (.invokevirtual 95, 3) := by decide +kernel
theorem dX8_likingOf_65 : decode cX8_likingOf 65 = .ok (.istore 5, 2) := by decide +kernel
theorem dX8_likingOf_67 : decode cX8_likingOf 67 = .ok (.goto 30, 3) := by decide +kernel
theorem dX8_likingOf_70 : decode cX8_likingOf 70 = .ok (.iconst 3, 1) := by decide +kernel
theorem dX8_likingOf_71 : decode cX8_likingOf 71 = .ok (.aload_n 1, 1) := by decide +kernel
theorem dX8_likingOf_72 : decode cX8_likingOf 72 = .ok (.bipush 40, 2) := by decide +kernel
theorem dX8_likingOf_74 : decode cX8_likingOf 74 = .ok (.iload_n 3, 1) := by decide +kernel
theorem dX8_likingOf_75 : decode cX8_likingOf 75 = .ok (.iadd, 1) := by decide +kernel
theorem dX8_likingOf_76 : decode cX8_likingOf 76 = .ok (.iaload, 1) := by decide +kernel
theorem dX8_likingOf_77 : decode cX8_likingOf 77 = .ok (.imul, 1) := by decide +kernel
theorem dX8_likingOf_78 : decode cX8_likingOf 78 = .ok (.iload 4, 2) := by decide +kernel
theorem dX8_likingOf_80 : decode cX8_likingOf 80 = .ok (.iadd, 1) := by decide +kernel
theorem dX8_likingOf_81 : decode cX8_likingOf 81 = .ok (.aload_n 1, 1) := by decide +kernel
theorem dX8_likingOf_82 : decode cX8_likingOf 82 = .ok (.bipush 47, 2) := by decide +kernel
theorem dX8_likingOf_84 : decode cX8_likingOf 84 = .ok (.iload_n 3, 1) := by decide +kernel
theorem dX8_likingOf_85 : decode cX8_likingOf 85 = .ok (.iadd, 1) := by decide +kernel
theorem dX8_likingOf_86 : decode cX8_likingOf 86 = .ok (.iaload, 1) := by decide +kernel
theorem dX8_likingOf_87 : decode cX8_likingOf 87 = .ok (.aload_n 1, 1) := by decide +kernel
theorem dX8_likingOf_88 : decode cX8_likingOf 88 = .ok (.bipush 8, 2) := by decide +kernel
theorem dX8_likingOf_90 : decode cX8_likingOf 90 = .ok (.iload_n 2, 1) := by decide +kernel
theorem dX8_likingOf_91 : decode cX8_likingOf 91 = .ok (.iadd, 1) := by decide +kernel
theorem dX8_likingOf_92 : decode cX8_likingOf 92 = .ok (.iaload, 1) := by decide +kernel
theorem dX8_likingOf_93 : decode cX8_likingOf 93 = .ok (.imul, 1) := by decide +kernel
theorem dX8_likingOf_94 : decode cX8_likingOf 94 = .ok (.isub, 1) := by decide +kernel
theorem dX8_likingOf_95 : decode cX8_likingOf 95 = .ok (.istore 5, 2) := by decide +kernel
theorem dX8_likingOf_97 : decode cX8_likingOf 97 = .ok (.sipush (-999), 3) := by decide +kernel
theorem dX8_likingOf_100 : decode cX8_likingOf 100 = .ok (.sipush 999, 3) := by decide +kernel
theorem dX8_likingOf_103 : decode cX8_likingOf 103 = .ok (.iload 5, 2) := by decide +kernel
theorem dX8_likingOf_105 : decode cX8_likingOf 105 = .ok (.invokestatic 116, 3) := by decide +kernel
theorem dX8_likingOf_108 : decode cX8_likingOf 108 = .ok (.invokestatic 75, 3) := by decide +kernel
theorem dX8_likingOf_111 : decode cX8_likingOf 111 = .ok (.istore 5, 2) := by decide +kernel
theorem dX8_likingOf_113 : decode cX8_likingOf 113 = .ok (.aload_n 0, 1) := by decide +kernel
theorem dX8_likingOf_114 : decode cX8_likingOf 114 = .ok (.getfield 12, 3) := by decide +kernel
theorem dX8_likingOf_117 : decode cX8_likingOf 117 = .ok (.getfield 119, 3) := by decide +kernel
theorem dX8_likingOf_120 : decode cX8_likingOf 120 = .ok (.iload_n 3, 1) := by decide +kernel
theorem dX8_likingOf_121 : decode cX8_likingOf 121 = .ok (.iaload, 1) := by decide +kernel
theorem dX8_likingOf_122 : decode cX8_likingOf 122 = .ok (.iconst 1, 1) := by decide +kernel
theorem dX8_likingOf_123 : decode cX8_likingOf 123 = .ok (.if_icmp .ne 10, 3) := by decide +kernel
theorem dX8_likingOf_126 : decode cX8_likingOf 126 = .ok (.iload 5, 2) := by decide +kernel
theorem dX8_likingOf_128 : decode cX8_likingOf 128 = .ok (.iconst 2, 1) := by decide +kernel
theorem dX8_likingOf_129 : decode cX8_likingOf 129 = .ok (.iadd, 1) := by decide +kernel
theorem dX8_likingOf_130 : decode cX8_likingOf 130 = .ok (.goto 5, 3) := by decide +kernel
theorem dX8_likingOf_133 : decode cX8_likingOf 133 = .ok (.iload 5, 2) := by decide +kernel
theorem dX8_likingOf_135 : decode cX8_likingOf 135 = .ok (.ireturn, 1) := by decide +kernel
theorem dX8_tellHouse_0 : decode cX8_tellHouse 0 = .ok (.aload_n 0, 1) := by decide +kernel
theorem dX8_tellHouse_1 : decode cX8_tellHouse 1 = .ok (.getfield 18, 3) := by decide +kernel
theorem dX8_tellHouse_4 : decode cX8_tellHouse 4 = .ok (.iconst 0, 1) := by decide +kernel
theorem dX8_tellHouse_5 : decode cX8_tellHouse 5 = .ok (.aload_n 1, 1) := by decide +kernel
theorem dX8_tellHouse_6 : decode cX8_tellHouse 6 = .ok (.iconst 0, 1) := by decide +kernel
theorem dX8_tellHouse_7 : decode cX8_tellHouse 7 = .ok (.iload_n 2, 1) := by decide +kernel
theorem dX8_tellHouse_8 : decode cX8_tellHouse 8 = .ok (.iadd, 1) := by decide +kernel
theorem dX8_tellHouse_9 : decode cX8_tellHouse 9 = .ok (.iaload, 1) := by decide +kernel
theorem dX8_tellHouse_10 : decode cX8_tellHouse 10 = .ok (.iastore, 1) := by decide +kernel
theorem dX8_tellHouse_11 : decode cX8_tellHouse 11 = .ok (.aload_n 0, 1) := by decide +kernel
theorem dX8_tellHouse_12 : decode cX8_tellHouse 12 = .ok (.getfield 18, 3) := by decide +kernel
theorem dX8_tellHouse_15 : decode cX8_tellHouse 15 = .ok (.iconst 1, 1) := by decide +kernel
theorem dX8_tellHouse_16 : decode cX8_tellHouse 16 = .ok (.aload_n 1, 1) := by decide +kernel
theorem dX8_tellHouse_17 : decode cX8_tellHouse 17 = .ok (.bipush 8, 2) := by decide +kernel
theorem dX8_tellHouse_19 : decode cX8_tellHouse 19 = .ok (.iload_n 2, 1) := by decide +kernel
theorem dX8_tellHouse_20 : decode cX8_tellHouse 20 = .ok (.iadd, 1) := by decide +kernel
theorem dX8_tellHouse_21 : decode cX8_tellHouse 21 = .ok (.iaload, 1) := by decide +kernel
theorem dX8_tellHouse_22 : decode cX8_tellHouse 22 = .ok (.iastore, 1) := by decide +kernel
theorem dX8_tellHouse_23 : decode cX8_tellHouse 23 = .ok (.aload_n 0, 1) := by decide +kernel
theorem dX8_tellHouse_24 : decode cX8_tellHouse 24 = .ok (.getfield 18, 3) := by decide +kernel
theorem dX8_tellHouse_27 : decode cX8_tellHouse 27 = .ok (.iconst 2, 1) := by decide +kernel
theorem dX8_tellHouse_28 : decode cX8_tellHouse 28 = .ok (.aload_n 1, 1) := by decide +kernel
theorem dX8_tellHouse_29 : decode cX8_tellHouse 29 = .ok (.bipush 63, 2) := by decide +kernel
theorem dX8_tellHouse_31 : decode cX8_tellHouse 31 = .ok (.iaload, 1) := by decide +kernel
theorem dX8_tellHouse_32 : decode cX8_tellHouse 32 = .ok (.iastore, 1) := by decide +kernel
theorem dX8_tellHouse_33 : decode cX8_tellHouse 33 = .ok (.aload_n 0, 1) := by decide +kernel
theorem dX8_tellHouse_34 : decode cX8_tellHouse 34 = .ok (.getfield 18, 3) := by decide +kernel
theorem dX8_tellHouse_37 : decode cX8_tellHouse 37 = .ok (.iconst 3, 1) := by decide +kernel
theorem dX8_tellHouse_38 : decode cX8_tellHouse 38 = .ok (.aload_n 0, 1) := by decide +kernel
theorem dX8_tellHouse_39 : decode cX8_tellHouse 39 = .ok (.getfield 12, 3) := by decide +kernel
theorem dX8_tellHouse_42 : decode cX8_tellHouse 42 = .ok (.getfield 62, 3) := by decide +kernel
theorem dX8_tellHouse_45 : decode cX8_tellHouse 45 = .ok (.iload_n 2, 1) := by decide +kernel
theorem dX8_tellHouse_46 : decode cX8_tellHouse 46 = .ok (.iaload, 1) := by decide +kernel
theorem dX8_tellHouse_47 : decode cX8_tellHouse 47 = .ok (.iastore, 1) := by decide +kernel
theorem dX8_tellHouse_48 : decode cX8_tellHouse 48 = .ok (.return_, 1) := by decide +kernel
theorem dX8_tellTenant_0 : decode cX8_tellTenant 0 = .ok (.aload_n 0, 1) := by decide +kernel
theorem dX8_tellTenant_1 : decode cX8_tellTenant 1 = .ok (.getfield 18, 3) := by decide +kernel
theorem dX8_tellTenant_4 : decode cX8_tellTenant 4 = .ok (.iconst 4, 1) := by decide +kernel
theorem dX8_tellTenant_5 : decode cX8_tellTenant 5 = .ok (.aload_n 1, 1) := by decide +kernel
theorem dX8_tellTenant_6 : decode cX8_tellTenant 6 = .ok (.bipush 40, 2) := by decide +kernel
theorem dX8_tellTenant_8 : decode cX8_tellTenant 8 = .ok (.iload_n 3, 1) := by decide +kernel
theorem dX8_tellTenant_9 : decode cX8_tellTenant 9 = .ok (.iadd, 1) := by decide +kernel
theorem dX8_tellTenant_10 : decode cX8_tellTenant 10 = .ok (.iaload, 1) := by decide +kernel
theorem dX8_tellTenant_11 : decode cX8_tellTenant 11 = .ok (.iastore, 1) := by decide +kernel
theorem dX8_tellTenant_12 : decode cX8_tellTenant 12 = .ok (.aload_n 0, 1) := by decide +kernel
theorem dX8_tellTenant_13 : decode cX8_tellTenant 13 = .ok (.getfield 18, 3) := by decide +kernel
theorem dX8_tellTenant_16 : decode cX8_tellTenant 16 = .ok (.iconst 5, 1) := by decide +kernel
theorem dX8_tellTenant_17 : decode cX8_tellTenant 17 = .ok (.aload_n 1, 1) := by decide +kernel
theorem dX8_tellTenant_18 : decode cX8_tellTenant 18 = .ok (.bipush 47, 2) := by decide +kernel
theorem dX8_tellTenant_20 : decode cX8_tellTenant 20 = .ok (.iload_n 3, 1) := by decide +kernel
theorem dX8_tellTenant_21 : decode cX8_tellTenant 21 = .ok (.iadd, 1) := by decide +kernel
theorem dX8_tellTenant_22 : decode cX8_tellTenant 22 = .ok (.iaload, 1) := by decide +kernel
theorem dX8_tellTenant_23 : decode cX8_tellTenant 23 = .ok (.iastore, 1) := by decide +kernel
theorem dX8_tellTenant_24 : decode cX8_tellTenant 24 = .ok (.aload_n 0, 1) := by decide +kernel
theorem dX8_tellTenant_25 : decode cX8_tellTenant 25 = .ok (.getfield 18, 3) := by decide +kernel
theorem dX8_tellTenant_28 : decode cX8_tellTenant 28 = .ok (.bipush 6, 2) := by decide +kernel
theorem dX8_tellTenant_30 : decode cX8_tellTenant 30 = .ok (.aload_n 1, 1) := by decide +kernel
theorem dX8_tellTenant_31 : decode cX8_tellTenant 31 = .ok (.bipush 54, 2) := by decide +kernel
theorem dX8_tellTenant_33 : decode cX8_tellTenant 33 = .ok (.iload_n 3, 1) := by decide +kernel
theorem dX8_tellTenant_34 : decode cX8_tellTenant 34 = .ok (.iadd, 1) := by decide +kernel
theorem dX8_tellTenant_35 : decode cX8_tellTenant 35 = .ok (.iaload, 1) := by decide +kernel
theorem dX8_tellTenant_36 : decode cX8_tellTenant 36 = .ok (.iastore, 1) := by decide +kernel
theorem dX8_tellTenant_37 : decode cX8_tellTenant 37 = .ok (.aload_n 0, 1) := by decide +kernel
theorem dX8_tellTenant_38 : decode cX8_tellTenant 38 = .ok (.getfield 18, 3) := by decide +kernel
theorem dX8_tellTenant_41 : decode cX8_tellTenant 41 = .ok (.bipush 8, 2) := by decide +kernel
theorem dX8_tellTenant_43 : decode cX8_tellTenant 43 = .ok (.aload_n 0, 1) := by decide +kernel
theorem dX8_tellTenant_44 : decode cX8_tellTenant 44 = .ok (.getfield 25, 3) := by decide +kernel
theorem dX8_tellTenant_47 : decode cX8_tellTenant 47 = .ok (.iload_n 3, 1) := by decide +kernel
theorem dX8_tellTenant_48 : decode cX8_tellTenant 48 = .ok (.iaload, 1) := by decide +kernel
theorem dX8_tellTenant_49 : decode cX8_tellTenant 49 = .ok (.iastore, 1) := by decide +kernel
theorem dX8_tellTenant_50 : decode cX8_tellTenant 50 = .ok (.iload_n 2, 1) := by decide +kernel
theorem dX8_tellTenant_51 : decode cX8_tellTenant 51 = .ok (.ifCond .le 19, 3) := by decide +kernel
theorem dX8_tellTenant_54 : decode cX8_tellTenant 54 = .ok (.aload_n 0, 1) := by decide +kernel
theorem dX8_tellTenant_55 : decode cX8_tellTenant 55 = .ok (.getfield 22, 3) := by decide +kernel
theorem dX8_tellTenant_58 : decode cX8_tellTenant 58 = .ok (.iload_n 2, 1) := by decide +kernel
theorem dX8_tellTenant_59 : decode cX8_tellTenant 59 = .ok (.iconst 1, 1) := by decide +kernel
theorem dX8_tellTenant_60 : decode cX8_tellTenant 60 = .ok (.isub, 1) := by decide +kernel
theorem dX8_tellTenant_61 : decode cX8_tellTenant 61 = .ok (.iaload, 1) := by decide +kernel
theorem dX8_tellTenant_62 : decode cX8_tellTenant 62 = .ok (.iload_n 3, 1) := by decide +kernel
theorem dX8_tellTenant_63 : decode cX8_tellTenant 63 = .ok (.if_icmp .ne 7, 3) := by decide +kernel
theorem dX8_tellTenant_66 : decode cX8_tellTenant 66 = .ok (.iconst 1, 1) := by decide +kernel
theorem dX8_tellTenant_67 : decode cX8_tellTenant 67 = .ok (.goto 4, 3) := by decide +kernel
theorem dX8_tellTenant_70 : decode cX8_tellTenant 70 = .ok (.iconst 0, 1) := by decide +kernel
theorem dX8_tellTenant_71 : decode cX8_tellTenant 71 = .ok (.istore 4, 2) := by decide +kernel
theorem dX8_tellTenant_73 : decode cX8_tellTenant 73 = .ok (.aload_n 0, 1) := by decide +kernel
theorem dX8_tellTenant_74 : decode cX8_tellTenant 74 = .ok (.getfield 18, 3) := by decide +kernel
theorem dX8_tellTenant_77 : decode cX8_tellTenant 77 = .ok (.bipush 9, 2) := by decide +kernel
theorem dX8_tellTenant_79 : decode cX8_tellTenant 79 = .ok (.iload_n 2, 1) := by decide +kernel
theorem dX8_tellTenant_80 : decode cX8_tellTenant 80 = .ok (.iconst 1, 1) := by decide +kernel
theorem dX8_tellTenant_81 : decode cX8_tellTenant 81 = .ok (.iadd, 1) := by decide +kernel
theorem dX8_tellTenant_82 : decode cX8_tellTenant 82 = .ok (.bipush 8, 2) := by decide +kernel
theorem dX8_tellTenant_84 : decode cX8_tellTenant 84 = .ok (.if_icmp .ge 22, 3) := by decide +kernel
theorem dX8_tellTenant_87 : decode cX8_tellTenant 87 = .ok (.aload_n 0, 1) := by decide +kernel
theorem dX8_tellTenant_88 : decode cX8_tellTenant 88 = .ok (.getfield 22, 3) := by decide +kernel
theorem dX8_tellTenant_91 : decode cX8_tellTenant 91 = .ok (.iload_n 2, 1) := by decide +kernel
theorem dX8_tellTenant_92 : decode cX8_tellTenant 92 = .ok (.iconst 1, 1) := by decide +kernel
theorem dX8_tellTenant_93 : decode cX8_tellTenant 93 = .ok (.iadd, 1) := by decide +kernel
theorem dX8_tellTenant_94 : decode cX8_tellTenant 94 = .ok (.iaload, 1) := by decide +kernel
theorem dX8_tellTenant_95 : decode cX8_tellTenant 95 = .ok (.iload_n 3, 1) := by decide +kernel
theorem dX8_tellTenant_96 : decode cX8_tellTenant 96 = .ok (.if_icmp .ne 10, 3) := by decide +kernel
theorem dX8_tellTenant_99 : decode cX8_tellTenant 99 = .ok (.iload 4, 2) := by decide +kernel
theorem dX8_tellTenant_101 : decode cX8_tellTenant 101 = .ok (.iconst 1, 1) := by decide +kernel
theorem dX8_tellTenant_102 : decode cX8_tellTenant 102 = .ok (.iadd, 1) := by decide +kernel
theorem dX8_tellTenant_103 : decode cX8_tellTenant 103 = .ok (.goto 5, 3) := by decide +kernel
theorem dX8_tellTenant_106 : decode cX8_tellTenant 106 = .ok (.iload 4, 2) := by decide +kernel
theorem dX8_tellTenant_108 : decode cX8_tellTenant 108 = .ok (.iastore, 1) := by decide +kernel
theorem dX8_tellTenant_109 : decode cX8_tellTenant 109 = .ok (.return_, 1) := by decide +kernel
theorem dX8_pay_0 : decode cX8_pay 0 = .ok (.iconst 0, 1) := by decide +kernel
theorem dX8_pay_1 : decode cX8_pay 1 = .ok (.istore_n 2, 1) := by decide +kernel
theorem dX8_pay_2 : decode cX8_pay 2 = .ok (.iload_n 2, 1) := by decide +kernel
theorem dX8_pay_3 : decode cX8_pay 3 = .ok (.aload_n 0, 1) := by decide +kernel
theorem dX8_pay_4 : decode cX8_pay 4 = .ok (.getfield 12, 3) := by decide +kernel
theorem dX8_pay_7 : decode cX8_pay 7 = .ok (.getfield 56, 3) := by decide +kernel
theorem dX8_pay_10 : decode cX8_pay 10 = .ok (.if_icmp .ge 61, 3) := by decide +kernel
theorem dX8_pay_13 : decode cX8_pay 13 = .ok (.aload_n 1, 1) := by decide +kernel
theorem dX8_pay_14 : decode cX8_pay 14 = .ok (.bipush 54, 2) := by decide +kernel
theorem dX8_pay_16 : decode cX8_pay 16 = .ok (.iload_n 2, 1) := by decide +kernel
theorem dX8_pay_17 : decode cX8_pay 17 = .ok (.iadd, 1) := by decide +kernel
theorem dX8_pay_18 : decode cX8_pay 18 = .ok (.sipush 9999, 3) := by decide +kernel
theorem dX8_pay_21 : decode cX8_pay 21 = .ok (.aload_n 1, 1) := by decide +kernel
theorem dX8_pay_22 : decode cX8_pay 22 = .ok (.bipush 54, 2) := by decide +kernel
theorem dX8_pay_24 : decode cX8_pay 24 = .ok (.iload_n 2, 1) := by decide +kernel
theorem dX8_pay_25 : decode cX8_pay 25 = .ok (.iadd, 1) := by decide +kernel
theorem dX8_pay_26 : decode cX8_pay 26 = .ok (.iaload, 1) := by decide +kernel
theorem dX8_pay_27 : decode cX8_pay 27 = .ok (.aload_n 0, 1) := by decide +kernel
theorem dX8_pay_28 : decode cX8_pay 28 = .ok (.aload_n 1, 1) := by decide +kernel
theorem dX8_pay_29 : decode cX8_pay 29 = .ok (.iload_n 2, 1) := by decide +kernel
theorem dX8_pay_30 : decode cX8_pay 30 = .ok (.invokevirtual 122, 3) := by decide +kernel
theorem dX8_pay_33 : decode cX8_pay 33 = .ok (.iadd, 1) := by decide +kernel
theorem dX8_pay_34 : decode cX8_pay 34 = .ok (.invokestatic 116, 3) := by decide +kernel
theorem dX8_pay_37 : decode cX8_pay 37 = .ok (.iastore, 1) := by decide +kernel
theorem dX8_pay_38 : decode cX8_pay 38 = .ok (.aload_n 1, 1) := by decide +kernel
theorem dX8_pay_39 : decode cX8_pay 39 = .ok (.bipush 40, 2) := by decide +kernel
theorem dX8_pay_41 : decode cX8_pay 41 = .ok (.iload_n 2, 1) := by decide +kernel
theorem dX8_pay_42 : decode cX8_pay 42 = .ok (.iadd, 1) := by decide +kernel
theorem dX8_pay_43 : decode cX8_pay 43 = .ok (.bipush 20, 2) := by decide +kernel
theorem dX8_pay_45 : decode cX8_pay 45 = .ok (.aload_n 1, 1) := by decide +kernel
theorem dX8_pay_46 : decode cX8_pay 46 = .ok (.bipush 40, 2) := by decide +kernel
theorem dX8_pay_48 : decode cX8_pay 48 = .ok (.iload_n 2, 1) := by decide +kernel
theorem dX8_pay_49 : decode cX8_pay 49 = .ok (.iadd, 1) := by decide +kernel
theorem dX8_pay_50 : decode cX8_pay 50 = .ok (.iaload, 1) := by decide +kernel
theorem dX8_pay_51 : decode cX8_pay 51 = .ok (.aload_n 0, 1) := by decide +kernel
theorem dX8_pay_52 : decode cX8_pay 52 = .ok (.getfield 12, 3) := by decide +kernel
theorem dX8_pay_55 : decode cX8_pay 55 = .ok (.getfield 125, 3) := by decide +kernel
theorem dX8_pay_58 : decode cX8_pay 58 = .ok (.iload_n 2, 1) := by decide +kernel
theorem dX8_pay_59 : decode cX8_pay 59 = .ok (.iaload, 1) := by decide +kernel
theorem dX8_pay_60 : decode cX8_pay 60 = .ok (.iadd, 1) := by decide +kernel
theorem dX8_pay_61 : decode cX8_pay 61 = .ok (.invokestatic 116, 3) := by decide +kernel
theorem dX8_pay_64 : decode cX8_pay 64 = .ok (.iastore, 1) := by decide +kernel
theorem dX8_pay_65 : decode cX8_pay 65 = .ok (.iinc 2 1, 3) := by decide +kernel
theorem dX8_pay_68 : decode cX8_pay 68 = .ok (.goto (-66), 3) := by decide +kernel
theorem dX8_pay_71 : decode cX8_pay 71 = .ok (.return_, 1) := by decide +kernel
theorem dX8_disturb_0 : decode cX8_disturb 0 = .ok (.aload_n 0, 1) := by decide +kernel
theorem dX8_disturb_1 : decode cX8_disturb 1 = .ok (.aload_n 0, 1) := by decide +kernel
theorem dX8_disturb_2 : decode cX8_disturb 2 = .ok (.getfield 12, 3) := by decide +kernel
theorem dX8_disturb_5 : decode cX8_disturb 5 = .ok (.getfield 42, 3) := by decide +kernel
theorem dX8_disturb_8 : decode cX8_disturb 8 = .ok (.invokevirtual 128, 3) := by decide +kernel
theorem dX8_disturb_11 : decode cX8_disturb 11 = .ok (.istore_n 2, 1) := by decide +kernel
theorem dX8_disturb_12 : decode cX8_disturb 12 = .ok (.aload_n 1, 1) := by decide +kernel
theorem dX8_disturb_13 : decode cX8_disturb 13 = .ok (.bipush 62, 2) := by decide +kernel
