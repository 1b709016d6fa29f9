theorem dX11_sealed_30 : decode cX11_sealed 30 = .ok (.iconst 0, 1) := by decide +kernel
theorem dX11_sealed_31 : decode cX11_sealed 31 = .ok (.istore_n 3, 1) := by decide +kernel
theorem dX11_sealed_32 : decode cX11_sealed 32 = .ok (.iload_n 3, 1) := by decide +kernel
theorem dX11_sealed_33 : decode cX11_sealed 33 = .ok (.bipush 99, 2) := by decide +kernel
theorem dX11_sealed_35 : decode cX11_sealed 35 = .ok (.if_icmp .gt 31, 3) := by decide +kernel
theorem dX11_sealed_38 : decode cX11_sealed 38 = .ok (.iload_n 2, 1) := by decide +kernel
theorem dX11_sealed_39 : decode cX11_sealed 39 = .ok (.iconst (-1), 1) := by decide +kernel
theorem dX11_sealed_40 : decode cX11_sealed 40 = .ok (.if_icmp .ne 26, 3) := by decide +kernel
theorem dX11_sealed_43 : decode cX11_sealed 43 = .ok (.aload_n 0, 1) := by decide +kernel
theorem dX11_sealed_44 : decode cX11_sealed 44 = .ok (.getfield 344, 3) := by decide +kernel
theorem dX11_sealed_47 : decode cX11_sealed 47 = .ok (.iload_n 1, 1) := by decide +kernel
theorem dX11_sealed_48 : decode cX11_sealed 48 = .ok (.invokestatic 385, 3) := by decide +kernel
theorem dX11_sealed_51 : decode cX11_sealed 51 = .ok (.ifCond .eq 5, 3) := by decide +kernel
theorem dX11_sealed_54 : decode cX11_sealed 54 = .ok (.iload_n 3, 1) := by decide +kernel
theorem dX11_sealed_55 : decode cX11_sealed 55 = .ok (.istore_n 2, 1) := by decide +kernel
theorem dX11_sealed_56 : decode cX11_sealed 56 = .ok (.aload_n 0, 1) := by decide +kernel
theorem dX11_sealed_57 : decode cX11_sealed 57 = .ok (.invokevirtual 402, 3) := by decide +kernel
theorem dX11_sealed_60 : decode cX11_sealed 60 = .ok (.iinc 3 1, 3) := by decide +kernel
theorem dX11_sealed_63 : decode cX11_sealed 63 = .ok (.goto (-31), 3) := by decide +kernel
theorem dX11_sealed_66 : decode cX11_sealed 66 = .ok (.aload_n 0, 1) := by decide +kernel
theorem dX11_sealed_67 : decode cX11_sealed 67 = .ok (.aload_n 0, 1) := by decide +kernel
theorem dX11_sealed_68 : decode cX11_sealed 68 = .ok (.getfield 140, 3) := by decide +kernel
theorem dX11_sealed_71 : decode cX11_sealed 71 = .ok (.iconst 0, 1) := by decide +kernel
theorem dX11_sealed_72 : decode cX11_sealed 72 = .ok (.invokevirtual 439, 3) := by decide +kernel
theorem dX11_sealed_75 : decode cX11_sealed 75 = .ok (.iload_n 2, 1) := by decide +kernel
theorem dX11_sealed_76 : decode cX11_sealed 76 = .ok (.ireturn, 1) := by decide +kernel
theorem dX11_gets_0 : decode cX11_gets 0 = .ok (.aload_n 0, 1) := by decide +kernel
theorem dX11_gets_1 : decode cX11_gets 1 = .ok (.iconst 0, 1) := by decide +kernel
theorem dX11_gets_2 : decode cX11_gets 2 = .ok (.putfield 195, 3) := by decide +kernel
theorem dX11_gets_5 : decode cX11_gets 5 = .ok (.aload_n 0, 1) := by decide +kernel
theorem dX11_gets_6 : decode cX11_gets 6 = .ok (.iload_n 1, 1) := by decide +kernel
theorem dX11_gets_7 : decode cX11_gets 7 = .ok (.invokevirtual 414, 3) := by decide +kernel
theorem dX11_gets_10 : decode cX11_gets 10 = .ok (.ifCond .eq 11, 3) := by decide +kernel
theorem dX11_gets_13 : decode cX11_gets 13 = .ok (.aload_n 0, 1) := by decide +kernel
theorem dX11_gets_14 : decode cX11_gets 14 = .ok (.iload_n 2, 1) := by decide +kernel
theorem dX11_gets_15 : decode cX11_gets 15 = .ok (.invokevirtual 411, 3) := by decide +kernel
theorem dX11_gets_18 : decode cX11_gets 18 = .ok (.ifCond .ne 9, 3) := by decide +kernel
theorem dX11_gets_21 : decode cX11_gets 21 = .ok (.aload_n 0, 1) := by decide +kernel
theorem dX11_gets_22 : decode cX11_gets 22 = .ok (.iconst 1, 1) := by decide +kernel
theorem dX11_gets_23 : decode cX11_gets 23 = .ok (.invokevirtual 329, 3) := by decide +kernel
theorem dX11_gets_26 : decode cX11_gets 26 = .ok (.ireturn, 1) := by decide +kernel
theorem dX11_gets_27 : decode cX11_gets 27 = .ok (.aload_n 0, 1) := by decide +kernel
theorem dX11_gets_28 : decode cX11_gets 28 = .ok (.aload_n 0, 1) := by decide +kernel
theorem dX11_gets_29 : decode cX11_gets 29 = .ok (.getfield 140, 3) := by decide +kernel
theorem dX11_gets_32 : decode cX11_gets 32 = .ok (.iconst 0, 1) := by decide +kernel
theorem dX11_gets_33 : decode cX11_gets 33 = .ok (.invokevirtual 417, 3) := by decide +kernel
theorem dX11_gets_36 : decode cX11_gets 36 = .ok (.iconst (-1), 1) := by decide +kernel
theorem dX11_gets_37 : decode cX11_gets 37 = .ok (.istore_n 3, 1) := by decide +kernel
theorem dX11_gets_38 : decode cX11_gets 38 = .ok (.iconst 0, 1) := by decide +kernel
theorem dX11_gets_39 : decode cX11_gets 39 = .ok (.istore 4, 2) := by decide +kernel
theorem dX11_gets_41 : decode cX11_gets 41 = .ok (.iload 4, 2) := by decide +kernel
theorem dX11_gets_43 : decode cX11_gets 43 = .ok (.bipush 40, 2) := by decide +kernel
theorem dX11_gets_45 : decode cX11_gets 45 = .ok (.if_icmp .gt 31, 3) := by decide +kernel
theorem dX11_gets_48 : decode cX11_gets 48 = .ok (.iload_n 3, 1) := by decide +kernel
theorem dX11_gets_49 : decode cX11_gets 49 = .ok (.iconst (-1), 1) := by decide +kernel
theorem dX11_gets_50 : decode cX11_gets 50 = .ok (.if_icmp .ne 26, 3) := by decide +kernel
theorem dX11_gets_53 : decode cX11_gets 53 = .ok (.aload_n 0, 1) := by decide +kernel
theorem dX11_gets_54 : decode cX11_gets 54 = .ok (.getfield 110, 3) := by decide +kernel
theorem dX11_gets_57 : decode cX11_gets 57 = .ok (.iload_n 2, 1) := by decide +kernel
theorem dX11_gets_58 : decode cX11_gets 58 = .ok (.iaload, 1) := by decide +kernel
theorem dX11_gets_59 : decode cX11_gets 59 = .ok (.iload_n 1, 1) := by decide +kernel
theorem dX11_gets_60 : decode cX11_gets 60 = .ok (.if_icmp .ne 6, 3) := by decide +kernel
theorem dX11_gets_63 : decode cX11_gets 63 = .ok (.iload 4, 2) := by decide +kernel
theorem dX11_gets_65 : decode cX11_gets 65 = .ok (.istore_n 3, 1) := by decide +kernel
theorem dX11_gets_66 : decode cX11_gets 66 = .ok (.aload_n 0, 1) := by decide +kernel
theorem dX11_gets_67 : decode cX11_gets 67 = .ok (.invokevirtual 402, 3) := by decide +kernel
theorem dX11_gets_70 : decode cX11_gets 70 = .ok (.iinc 4 1, 3) := by decide +kernel
theorem dX11_gets_73 : decode cX11_gets 73 = .ok (.goto (-32), 3) := by decide +kernel
theorem dX11_gets_76 : decode cX11_gets 76 = .ok (.aload_n 0, 1) := by decide +kernel
theorem dX11_gets_77 : decode cX11_gets 77 = .ok (.aload_n 0, 1) := by decide +kernel
theorem dX11_gets_78 : decode cX11_gets 78 = .ok (.getfield 140, 3) := by decide +kernel
theorem dX11_gets_81 : decode cX11_gets 81 = .ok (.iconst 0, 1) := by decide +kernel
theorem dX11_gets_82 : decode cX11_gets 82 = .ok (.invokevirtual 439, 3) := by decide +kernel
theorem dX11_gets_85 : decode cX11_gets 85 = .ok (.iload_n 3, 1) := by decide +kernel
theorem dX11_gets_86 : decode cX11_gets 86 = .ok (.ireturn, 1) := by decide +kernel
theorem dX11_loses_0 : decode cX11_loses 0 = .ok (.aload_n 0, 1) := by decide +kernel
theorem dX11_loses_1 : decode cX11_loses 1 = .ok (.iconst 0, 1) := by decide +kernel
theorem dX11_loses_2 : decode cX11_loses 2 = .ok (.putfield 195, 3) := by decide +kernel
theorem dX11_loses_5 : decode cX11_loses 5 = .ok (.aload_n 0, 1) := by decide +kernel
theorem dX11_loses_6 : decode cX11_loses 6 = .ok (.iload_n 1, 1) := by decide +kernel
theorem dX11_loses_7 : decode cX11_loses 7 = .ok (.invokevirtual 411, 3) := by decide +kernel
theorem dX11_loses_10 : decode cX11_loses 10 = .ok (.ifCond .ne 9, 3) := by decide +kernel
theorem dX11_loses_13 : decode cX11_loses 13 = .ok (.aload_n 0, 1) := by decide +kernel
theorem dX11_loses_14 : decode cX11_loses 14 = .ok (.iconst 1, 1) := by decide +kernel
theorem dX11_loses_15 : decode cX11_loses 15 = .ok (.invokevirtual 329, 3) := by decide +kernel
theorem dX11_loses_18 : decode cX11_loses 18 = .ok (.ireturn, 1) := by decide +kernel
theorem dX11_loses_19 : decode cX11_loses 19 = .ok (.aload_n 0, 1) := by decide +kernel
theorem dX11_loses_20 : decode cX11_loses 20 = .ok (.getfield 110, 3) := by decide +kernel
theorem dX11_loses_23 : decode cX11_loses 23 = .ok (.iload_n 1, 1) := by decide +kernel
theorem dX11_loses_24 : decode cX11_loses 24 = .ok (.iaload, 1) := by decide +kernel
theorem dX11_loses_25 : decode cX11_loses 25 = .ok (.istore_n 2, 1) := by decide +kernel
theorem dX11_loses_26 : decode cX11_loses 26 = .ok (.aload_n 0, 1) := by decide +kernel
theorem dX11_loses_27 : decode cX11_loses 27 = .ok (.aload_n 0, 1) := by decide +kernel
theorem dX11_loses_28 : decode cX11_loses 28 = .ok (.getfield 140, 3) := by decide +kernel
theorem dX11_loses_31 : decode cX11_loses 31 = .ok (.iconst 0, 1) := by decide +kernel
theorem dX11_loses_32 : decode cX11_loses 32 = .ok (.invokevirtual 417, 3) := by decide +kernel
theorem dX11_loses_35 : decode cX11_loses 35 = .ok (.iconst (-1), 1) := by decide +kernel
theorem dX11_loses_36 : decode cX11_loses 36 = .ok (.istore_n 3, 1) := by decide +kernel
theorem dX11_loses_37 : decode cX11_loses 37 = .ok (.iconst 1, 1) := by decide +kernel
theorem dX11_loses_38 : decode cX11_loses 38 = .ok (.istore 4, 2) := by decide +kernel
theorem dX11_loses_40 : decode cX11_loses 40 = .ok (.iload 4, 2) := by decide +kernel
theorem dX11_loses_42 : decode cX11_loses 42 = .ok (.bipush 40, 2) := by decide +kernel
theorem dX11_loses_44 : decode cX11_loses 44 = .ok (.if_icmp .gt 36, 3) := by decide +kernel
theorem dX11_loses_47 : decode cX11_loses 47 = .ok (.iload_n 3, 1) := by decide +kernel
theorem dX11_loses_48 : decode cX11_loses 48 = .ok (.iconst (-1), 1) := by decide +kernel
theorem dX11_loses_49 : decode cX11_loses 49 = .ok (.if_icmp .ne 31, 3) := by decide +kernel
theorem dX11_loses_52 : decode cX11_loses 52 = .ok (.iload_n 2, 1) := by decide +kernel
theorem dX11_loses_53 : decode cX11_loses 53 = .ok (.iconst (-1), 1) := by decide +kernel
theorem dX11_loses_54 : decode cX11_loses 54 = .ok (.if_icmp .eq 26, 3) := by decide +kernel
theorem dX11_loses_57 : decode cX11_loses 57 = .ok (.aload_n 0, 1) := by decide +kernel
theorem dX11_loses_58 : decode cX11_loses 58 = .ok (.invokevirtual 402, 3) := by decide +kernel
theorem dX11_loses_61 : decode cX11_loses 61 = .ok (.aload_n 0, 1) := by decide +kernel
theorem dX11_loses_62 : decode cX11_loses 62 = .ok (.getfield 110, 3) := by decide +kernel
theorem dX11_loses_65 : decode cX11_loses 65 = .ok (.iload_n 1, 1) := by decide +kernel
theorem dX11_loses_66 : decode cX11_loses 66 = .ok (.iaload, 1) := by decide +kernel
theorem dX11_loses_67 : decode cX11_loses 67 = .ok (.iload_n 2, 1) := by decide +kernel
theorem dX11_loses_68 : decode cX11_loses 68 = .ok (.if_icmp .eq 6, 3) := by decide +kernel
theorem dX11_loses_71 : decode cX11_loses 71 = .ok (.iload 4, 2) := by decide +kernel
theorem dX11_loses_73 : decode cX11_loses 73 = .ok (.istore_n 3, 1) := by decide +kernel
theorem dX11_loses_74 : decode cX11_loses 74 = .ok (.iinc 4 1, 3) := by decide +kernel
theorem dX11_loses_77 : decode cX11_loses 77 = .ok (.goto (-37), 3) := by decide +kernel
theorem dX11_loses_80 : decode cX11_loses 80 = .ok (.aload_n 0, 1) := by decide +kernel
theorem dX11_loses_81 : decode cX11_loses 81 = .ok (.aload_n 0, 1) := by decide +kernel
theorem dX11_loses_82 : decode cX11_loses 82 = .ok (.getfield 140, 3) := by decide +kernel
theorem dX11_loses_85 : decode cX11_loses 85 = .ok (.iconst 0, 1) := by decide +kernel
theorem dX11_loses_86 : decode cX11_loses 86 = .ok (.invokevirtual 439, 3) := by decide +kernel
theorem dX11_loses_89 : decode cX11_loses 89 = .ok (.iload_n 3, 1) := by decide +kernel
theorem dX11_loses_90 : decode cX11_loses 90 = .ok (.ireturn, 1) := by decide +kernel
theorem dX11_most_0 : decode cX11_most 0 = .ok (.aload_n 0, 1) := by decide +kernel
theorem dX11_most_1 : decode cX11_most 1 = .ok (.iconst 0, 1) := by decide +kernel
theorem dX11_most_2 : decode cX11_most 2 = .ok (.putfield 195, 3) := by decide +kernel
theorem dX11_most_5 : decode cX11_most 5 = .ok (.iload_n 1, 1) := by decide +kernel
theorem dX11_most_6 : decode cX11_most 6 = .ok (.i2l, 1) := by decide +kernel
theorem dX11_most_7 : decode cX11_most 7 = .ok (.lconst 0, 1) := by decide +kernel
theorem dX11_most_8 : decode cX11_most 8 = .ok (.ldc2_w 442, 3) := by decide +kernel
theorem dX11_most_11 : decode cX11_most 11 = .ok (.invokestatic 198, 3) := by decide +kernel
theorem dX11_most_14 : decode cX11_most 14 = .ok (.ifCond .ne 9, 3) := by decide +kernel
theorem dX11_most_17 : decode cX11_most 17 = .ok (.aload_n 0, 1) := by decide +kernel
theorem dX11_most_18 : decode cX11_most 18 = .ok (.iconst 1, 1) := by decide +kernel
theorem dX11_most_19 : decode cX11_most 19 = .ok (.invokevirtual 329, 3) := by decide +kernel
theorem dX11_most_22 : decode cX11_most 22 = .ok (.ireturn, 1) := by decide +kernel
theorem dX11_most_23 : decode cX11_most 23 = .ok (.aload_n 0, 1) := by decide +kernel
theorem dX11_most_24 : decode cX11_most 24 = .ok (.aload_n 0, 1) := by decide +kernel
theorem dX11_most_25 : decode cX11_most 25 = .ok (.getfield 140, 3) := by decide +kernel
theorem dX11_most_28 : decode cX11_most 28 = .ok (.iconst 0, 1) := by decide +kernel
theorem dX11_most_29 : decode cX11_most 29 = .ok (.invokevirtual 417, 3) := by decide +kernel
theorem dX11_most_32 : decode cX11_most 32 = .ok (.aload_n 0, 1) := by decide +kernel
theorem dX11_most_33 : decode cX11_most 33 = .ok (.iload_n 1, 1) := by decide +kernel
theorem dX11_most_34 : decode cX11_most 34 = .ok (.invokevirtual 429, 3) := by decide +kernel
theorem dX11_most_37 : decode cX11_most 37 = .ok (.iconst (-1), 1) := by decide +kernel
theorem dX11_most_38 : decode cX11_most 38 = .ok (.istore_n 2, 1) := by decide +kernel
theorem dX11_most_39 : decode cX11_most 39 = .ok (.iconst 0, 1) := by decide +kernel
theorem dX11_most_40 : decode cX11_most 40 = .ok (.istore_n 3, 1) := by decide +kernel
theorem dX11_most_41 : decode cX11_most 41 = .ok (.iconst 0, 1) := by decide +kernel
theorem dX11_most_42 : decode cX11_most 42 = .ok (.istore 4, 2) := by decide +kernel
theorem dX11_most_44 : decode cX11_most 44 = .ok (.iload 4, 2) := by decide +kernel
theorem dX11_most_46 : decode cX11_most 46 = .ok (.aload_n 0, 1) := by decide +kernel
theorem dX11_most_47 : decode cX11_most 47 = .ok (.getfield 55, 3) := by decide +kernel
theorem dX11_most_50 : decode cX11_most 50 = .ok (.iconst 1, 1) := by decide +kernel
theorem dX11_most_51 : decode cX11_most 51 = .ok (.iaload, 1) := by decide +kernel
theorem dX11_most_52 : decode cX11_most 52 = .ok (.if_icmp .ge 35, 3) := by decide +kernel
theorem dX11_most_55 : decode cX11_most 55 = .ok (.aload_n 0, 1) := by decide +kernel
theorem dX11_most_56 : decode cX11_most 56 = .ok (.iload 4, 2) := by decide +kernel
theorem dX11_most_58 : decode cX11_most 58 = .ok (.invokevirtual 363, 3) := by decide +kernel
theorem dX11_most_61 : decode cX11_most 61 = .ok (.invokestatic 373, 3) := by decide +kernel
theorem dX11_most_64 : decode cX11_most 64 = .ok (.istore 5, 2) := by decide +kernel
theorem dX11_most_66 : decode cX11_most 66 = .ok (.iload 5, 2) := by decide +kernel
theorem dX11_most_68 : decode cX11_most 68 = .ok (.iload_n 3, 1) := by decide +kernel
theorem dX11_most_69 : decode cX11_most 69 = .ok (.if_icmp .gt 6, 3) := by decide +kernel
theorem dX11_most_72 : decode cX11_most 72 = .ok (.goto 9, 3) := by decide +kernel
theorem dX11_most_75 : decode cX11_most 75 = .ok (.iload 4, 2) := by decide +kernel
theorem dX11_most_77 : decode cX11_most 77 = .ok (.istore_n 2, 1) := by decide +kernel
theorem dX11_most_78 : decode cX11_most 78 = .ok (.iload 5, 2) := by decide +kernel
theorem dX11_most_80 : decode cX11_most 80 = .ok (.istore_n 3, 1) := by decide +kernel
theorem dX11_most_81 : decode cX11_most 81 = .ok (.iinc 4 1, 3) := by decide +kernel
theorem dX11_most_84 : decode cX11_most 84 = .ok (.goto (-40), 3) := by decide +kernel
theorem dX11_most_87 : decode cX11_most 87 = .ok (.aload_n 0, 1) := by decide +kernel
theorem dX11_most_88 : decode cX11_most 88 = .ok (.aload_n 0, 1) := by decide +kernel
theorem dX11_most_89 : decode cX11_most 89 = .ok (.getfield 140, 3) := by decide +kernel
theorem dX11_most_92 : decode cX11_most 92 = .ok (.iconst 0, 1) := by decide +kernel
theorem dX11_most_93 : decode cX11_most 93 = .ok (.invokevirtual 439, 3) := by decide +kernel
theorem dX11_most_96 : decode cX11_most 96 = .ok (.iload_n 2, 1) := by decide +kernel
theorem dX11_most_97 : decode cX11_most 97 = .ok (.ireturn, 1) := by decide +kernel
theorem dX11_row_0 : decode cX11_row 0 = .ok (.aload_n 0, 1) := by decide +kernel
theorem dX11_row_1 : decode cX11_row 1 = .ok (.iconst 0, 1) := by decide +kernel
theorem dX11_row_2 : decode cX11_row 2 = .ok (.putfield 195, 3) := by decide +kernel
theorem dX11_row_5 : decode cX11_row 5 = .ok (.aload_n 0, 1) := by decide +kernel
theorem dX11_row_6 : decode cX11_row 6 = .ok (.iload_n 1, 1) := by decide +kernel
theorem dX11_row_7 : decode cX11_row 7 = .ok (.invokevirtual 414, 3) := by decide +kernel
theorem dX11_row_10 : decode cX11_row 10 = .ok (.ifCond .eq 12, 3) := by decide +kernel
theorem dX11_row_13 : decode cX11_row 13 = .ok (.iload_n 2, 1) := by decide +kernel
theorem dX11_row_14 : decode cX11_row 14 = .ok (.ifCond .lt 8, 3) := by decide +kernel
theorem dX11_row_17 : decode cX11_row 17 = .ok (.iload_n 2, 1) := by decide +kernel
theorem dX11_row_18 : decode cX11_row 18 = .ok (.iconst 1, 1) := by decide +kernel
theorem dX11_row_19 : decode cX11_row 19 = .ok (.if_icmp .le 9, 3) := by decide +kernel
theorem dX11_row_22 : decode cX11_row 22 = .ok (.aload_n 0, 1) := by decide +kernel
theorem dX11_row_23 : decode cX11_row 23 = .ok (.iconst 1, 1) := by decide +kernel
theorem dX11_row_24 : decode cX11_row 24 = .ok (.invokevirtual 329, 3) := by decide +kernel
theorem dX11_row_27 : decode cX11_row 27 = .ok (.ireturn, 1) := by decide +kernel
theorem dX11_row_28 : decode cX11_row 28 = .ok (.iconst (-1), 1) := by decide +kernel
theorem dX11_row_29 : decode cX11_row 29 = .ok (.istore_n 3, 1) := by decide +kernel
theorem dX11_row_30 : decode cX11_row 30 = .ok (.iconst 0, 1) := by decide +kernel
theorem dX11_row_31 : decode cX11_row 31 = .ok (.istore 4, 2) := by decide +kernel
theorem dX11_row_33 : decode cX11_row 33 = .ok (.iconst 0, 1) := by decide +kernel
theorem dX11_row_34 : decode cX11_row 34 = .ok (.istore 5, 2) := by decide +kernel
theorem dX11_row_36 : decode cX11_row 36 = .ok (.iconst 0, 1) := by decide +kernel
theorem dX11_row_37 : decode cX11_row 37 = .ok (.istore 6, 2) := by decide +kernel
theorem dX11_row_39 : decode cX11_row 39 = .ok (.iload 6, 2) := by decide +kernel
theorem dX11_row_41 : decode cX11_row 41 = .ok (.aload_n 0, 1) := by decide +kernel
theorem dX11_row_42 : decode cX11_row 42 = .ok (.getfield 55, 3) := by decide +kernel
theorem dX11_row_45 : decode cX11_row 45 = .ok (.iconst 0, 1) := by decide +kernel
theorem dX11_row_46 : decode cX11_row 46 = .ok (.iaload, 1) := by decide +kernel
theorem dX11_row_47 : decode cX11_row 47 = .ok (.if_icmp .ge 52, 3) := by decide +kernel
theorem dX11_row_50 : decode cX11_row 50 = .ok (.aload_n 0, 1) := by decide +kernel
theorem dX11_row_51 : decode cX11_row 51 = .ok (.getfield 110, 3) := by decide +kernel
theorem dX11_row_54 : decode cX11_row 54 = .ok (.iload 6, 2) := by decide +kernel
theorem dX11_row_56 : decode cX11_row 56 = .ok (.iaload, 1) := by decide +kernel
theorem dX11_row_57 : decode cX11_row 57 = .ok (.iload_n 1, 1) := by decide +kernel
theorem dX11_row_58 : decode cX11_row 58 = .ok (.if_icmp .ne 10, 3) := by decide +kernel
theorem dX11_row_61 : decode cX11_row 61 = .ok (.iload 5, 2) := by decide +kernel
theorem dX11_row_63 : decode cX11_row 63 = .ok (.iconst 1, 1) := by decide +kernel
theorem dX11_row_64 : decode cX11_row 64 = .ok (.iadd, 1) := by decide +kernel
theorem dX11_row_65 : decode cX11_row 65 = .ok (.goto 4, 3) := by decide +kernel
theorem dX11_row_68 : decode cX11_row 68 = .ok (.iconst 0, 1) := by decide +kernel
theorem dX11_row_69 : decode cX11_row 69 = .ok (.istore 5, 2) := by decide +kernel
theorem dX11_row_71 : decode cX11_row 71 = .ok (.iload 5, 2) := by decide +kernel
theorem dX11_row_73 : decode cX11_row 73 = .ok (.iload 4, 2) := by decide +kernel
theorem dX11_row_75 : decode cX11_row 75 = .ok (.if_icmp .gt 6, 3) := by decide +kernel
theorem dX11_row_78 : decode cX11_row 78 = .ok (.goto 15, 3) := by decide +kernel
theorem dX11_row_81 : decode cX11_row 81 = .ok (.iload 5, 2) := by decide +kernel
theorem dX11_row_83 : decode cX11_row 83 = .ok (.istore 4, 2) := by decide +kernel
theorem dX11_row_85 : decode cX11_row 85 = .ok (.iload 6, 2) := by decide +kernel
theorem dX11_row_87 : decode cX11_row 87 = .ok (.iload 5, 2) := by decide +kernel
theorem dX11_row_89 : decode cX11_row 89 = .ok (.isub, 1) := by decide +kernel
theorem dX11_row_90 : decode cX11_row 90 = .ok (.iconst 1, 1) := by decide +kernel
theorem dX11_row_91 : decode cX11_row 91 = .ok (.iadd, 1) := by decide +kernel
theorem dX11_row_92 : decode cX11_row 92 = .ok (.istore_n 3, 1) := by decide +kernel
theorem dX11_row_93 : decode cX11_row 93 = .ok (.iinc 6 1, 3) := by decide +kernel
theorem dX11_row_96 : decode cX11_row 96 = .ok (.goto (-57), 3) := by decide +kernel
theorem dX11_row_99 : decode cX11_row 99 = .ok (.iload_n 2, 1) := by decide +kernel
theorem dX11_row_100 : decode cX11_row 100 = .ok (.ifCond .ne 8, 3) := by decide +kernel
theorem dX11_row_103 : decode cX11_row 103 = .ok (.iload 4, 2) := by decide +kernel
theorem dX11_row_105 : decode cX11_row 105 = .ok (.goto 4, 3) := by decide +kernel
theorem dX11_row_108 : decode cX11_row 108 = .ok (.iload_n 3, 1) := by decide +kernel
theorem dX11_row_109 : decode cX11_row 109 = .ok (.ireturn, 1) := by decide +kernel
theorem dX11_empty_0 : decode cX11_empty 0 = .ok (.aload_n 0, 1) := by decide +kernel
theorem dX11_empty_1 : decode cX11_empty 1 = .ok (.iconst 0, 1) := by decide +kernel
theorem dX11_empty_2 : decode cX11_empty 2 = .ok (.putfield 195, 3) := by decide +kernel
theorem dX11_empty_5 : decode cX11_empty 5 = .ok (.iload_n 1, 1) := by decide +kernel
theorem dX11_empty_6 : decode cX11_empty 6 = .ok (.i2l, 1) := by decide +kernel
theorem dX11_empty_7 : decode cX11_empty 7 = .ok (.lconst 0, 1) := by decide +kernel
theorem dX11_empty_8 : decode cX11_empty 8 = .ok (.ldc2_w 442, 3) := by decide +kernel
theorem dX11_empty_11 : decode cX11_empty 11 = .ok (.invokestatic 198, 3) := by decide +kernel
theorem dX11_empty_14 : decode cX11_empty 14 = .ok (.ifCond .ne 9, 3) := by decide +kernel
theorem dX11_empty_17 : decode cX11_empty 17 = .ok (.aload_n 0, 1) := by decide +kernel
theorem dX11_empty_18 : decode cX11_empty 18 = .ok (.iconst 1, 1) := by decide +kernel
theorem dX11_empty_19 : decode cX11_empty 19 = .ok (.invokevirtual 329, 3) := by decide +kernel
theorem dX11_empty_22 : decode cX11_empty 22 = .ok (.ireturn, 1) := by decide +kernel
theorem dX11_empty_23 : decode cX11_empty 23 = .ok (.aload_n 0, 1) := by decide +kernel
theorem dX11_empty_24 : decode cX11_empty 24 = .ok (.aload_n 0, 1) := by decide +kernel
theorem dX11_empty_25 : decode cX11_empty 25 = .ok (.getfield 140, 3) := by decide +kernel
theorem dX11_empty_28 : decode cX11_empty 28 = .ok (.iconst 0, 1) := by decide +kernel
theorem dX11_empty_29 : decode cX11_empty 29 = .ok (.invokevirtual 417, 3) := by decide +kernel
theorem dX11_empty_32 : decode cX11_empty 32 = .ok (.aload_n 0, 1) := by decide +kernel
theorem dX11_empty_33 : decode cX11_empty 33 = .ok (.iload_n 1, 1) := by decide +kernel
theorem dX11_empty_34 : decode cX11_empty 34 = .ok (.invokevirtual 429, 3) := by decide +kernel
theorem dX11_empty_37 : decode cX11_empty 37 = .ok (.aload_n 0, 1) := by decide +kernel
theorem dX11_empty_38 : decode cX11_empty 38 = .ok (.invokevirtual 405, 3) := by decide +kernel
theorem dX11_empty_41 : decode cX11_empty 41 = .ok (.istore_n 2, 1) := by decide +kernel
theorem dX11_empty_42 : decode cX11_empty 42 = .ok (.aload_n 0, 1) := by decide +kernel
theorem dX11_empty_43 : decode cX11_empty 43 = .ok (.aload_n 0, 1) := by decide +kernel
theorem dX11_empty_44 : decode cX11_empty 44 = .ok (.getfield 140, 3) := by decide +kernel
theorem dX11_empty_47 : decode cX11_empty 47 = .ok (.iconst 0, 1) := by decide +kernel
theorem dX11_empty_48 : decode cX11_empty 48 = .ok (.invokevirtual 439, 3) := by decide +kernel
theorem dX11_empty_51 : decode cX11_empty 51 = .ok (.iload_n 2, 1) := by decide +kernel
theorem dX11_empty_52 : decode cX11_empty 52 = .ok (.ireturn, 1) := by decide +kernel
theorem dX11_likingOf_0 : decode cX11_likingOf 0 = .ok (.aload_n 0, 1) := by decide +kernel
theorem dX11_likingOf_1 : decode cX11_likingOf 1 = .ok (.getfield 344, 3) := by decide +kernel
theorem dX11_likingOf_4 : decode cX11_likingOf 4 = .ok (.iload_n 1, 1) := by decide +kernel
theorem dX11_likingOf_5 : decode cX11_likingOf 5 = .ok (.invokestatic 385, 3) := by decide +kernel
theorem dX11_likingOf_8 : decode cX11_likingOf 8 = .ok (.ifCond .eq 7, 3) := by decide +kernel
theorem dX11_likingOf_11 : decode cX11_likingOf 11 = .ok (.iconst 0, 1) := by decide +kernel
theorem dX11_likingOf_12 : decode cX11_likingOf 12 = .ok (.goto 9, 3) := by decide +kernel
theorem dX11_likingOf_15 : decode cX11_likingOf 15 = .ok (.aload_n 0, 1) := by decide +kernel
theorem dX11_likingOf_16 : decode cX11_likingOf 16 = .ok (.iload_n 1, 1) := by decide +kernel
theorem dX11_likingOf_17 : decode cX11_likingOf 17 = .ok (.iload_n 2, 1) := by decide +kernel
theorem dX11_likingOf_18 : decode cX11_likingOf 18 = .ok (.invokevirtual 391, 3) := by decide +kernel
theorem dX11_likingOf_21 : decode cX11_likingOf 21 = .ok (.ireturn, 1) := by decide +kernel
theorem dX11_liking_0 : decode cX11_liking 0 = .ok (.aload_n 0, 1) := by decide +kernel
theorem dX11_liking_1 : decode cX11_liking 1 = .ok (.iconst 0, 1) := by decide +kernel
theorem dX11_liking_2 : decode cX11_liking 2 = .ok (.putfield 195, 3) := by decide +kernel
theorem dX11_liking_5 : decode cX11_liking 5 = .ok (.aload_n 0, 1) := by decide +kernel
theorem dX11_liking_6 : decode cX11_liking 6 = .ok (.iload_n 1, 1) := by decide +kernel
theorem dX11_liking_7 : decode cX11_liking 7 = .ok (.invokevirtual 411, 3) := by decide +kernel
theorem dX11_liking_10 : decode cX11_liking 10 = .ok (.ifCond .eq 11, 3) := by decide +kernel
theorem dX11_liking_13 : decode cX11_liking 13 = .ok (.aload_n 0, 1) := by decide +kernel
theorem dX11_liking_14 : decode cX11_liking 14 = .ok (.iload_n 2, 1) := by decide +kernel
theorem dX11_liking_15 : decode cX11_liking 15 = .ok (.invokevirtual 414, 3) := by decide +kernel
theorem dX11_liking_18 : decode cX11_liking 18 = .ok (.ifCond .ne 9, 3) := by decide +kernel
theorem dX11_liking_21 : decode cX11_liking 21 = .ok (.aload_n 0, 1) := by decide +kernel
theorem dX11_liking_22 : decode cX11_liking 22 = .ok (.iconst 1, 1) := by decide +kernel
theorem dX11_liking_23 : decode cX11_liking 23 = .ok (.invokevirtual 329, 3) := by decide +kernel
theorem dX11_liking_26 : decode cX11_liking 26 = .ok (.ireturn, 1) := by decide +kernel
theorem dX11_liking_27 : decode cX11_liking 27 = .ok (.aload_n 0, 1) := by decide +kernel
theorem dX11_liking_28 : decode cX11_liking 28 = .ok (.invokevirtual 393, 3) := by decide +kernel
theorem dX11_liking_31 : decode cX11_liking 31 = .ok (.aload_n 0, 1) := by decide +kernel
theorem dX11_liking_32 : decode cX11_liking 32 = .ok (.iload_n 1, 1) := by decide +kernel
theorem dX11_liking_33 : decode cX11_liking 33 = .ok (.iload_n 2, 1) := by decide +kernel
theorem dX11_liking_34 : decode cX11_liking 34 = .ok (.invokevirtual 444, 3) := by decide +kernel
theorem dX11_liking_37 : decode cX11_liking 37 = .ok (.ireturn, 1) := by decide +kernel
theorem dX11_housesNext_0 : decode cX11_housesNext 0 = .ok (.aload_n 0, 1) := by decide +kernel
theorem dX11_housesNext_1 : decode cX11_housesNext 1 = .ok (.aload_n 0, 1) := by decide +kernel
theorem dX11_housesNext_2 : decode cX11_housesNext 2 = .ok (.getfield 140, 3) := by decide +kernel
theorem dX11_housesNext_5 : decode cX11_housesNext 5 = .ok (.iconst 0, 1) := by decide +kernel
theorem dX11_housesNext_6 : decode cX11_housesNext 6 = .ok (.invokevirtual 417, 3) := by decide +kernel
theorem dX11_housesNext_9 : decode cX11_housesNext 9 = .ok (.aload_n 0, 1) := by decide +kernel
theorem dX11_housesNext_10 : decode cX11_housesNext 10 = .ok (.invokevirtual 402, 3) := by decide +kernel
theorem dX11_housesNext_13 : decode cX11_housesNext 13 = .ok (.aload_n 0, 1) := by decide +kernel
theorem dX11_housesNext_14 : decode cX11_housesNext 14 = .ok (.iload_n 1, 1) := by decide +kernel
theorem dX11_housesNext_15 : decode cX11_housesNext 15 = .ok (.invokevirtual 363, 3) := by decide +kernel
theorem dX11_housesNext_18 : decode cX11_housesNext 18 = .ok (.istore_n 2, 1) := by decide +kernel
theorem dX11_housesNext_19 : decode cX11_housesNext 19 = .ok (.aload_n 0, 1) := by decide +kernel
theorem dX11_housesNext_20 : decode cX11_housesNext 20 = .ok (.aload_n 0, 1) := by decide +kernel
theorem dX11_housesNext_21 : decode cX11_housesNext 21 = .ok (.getfield 140, 3) := by decide +kernel
theorem dX11_housesNext_24 : decode cX11_housesNext 24 = .ok (.iconst 0, 1) := by decide +kernel
theorem dX11_housesNext_25 : decode cX11_housesNext 25 = .ok (.invokevirtual 439, 3) := by decide +kernel
theorem dX11_housesNext_28 : decode cX11_housesNext 28 = .ok (.iload_n 2, 1) := by decide +kernel
theorem dX11_housesNext_29 : decode cX11_housesNext 29 = .ok (.ireturn, 1) := by decide +kernel
theorem dX11_leastChops_0 : decode cX11_leastChops 0 = .ok (.aload_n 0, 1) := by decide +kernel
theorem dX11_leastChops_1 : decode cX11_leastChops 1 = .ok (.iconst 0, 1) := by decide +kernel
theorem dX11_leastChops_2 : decode cX11_leastChops 2 = .ok (.putfield 195, 3) := by decide +kernel
theorem dX11_leastChops_5 : decode cX11_leastChops 5 = .ok (.aload_n 0, 1) := by decide +kernel
theorem dX11_leastChops_6 : decode cX11_leastChops 6 = .ok (.iload_n 1, 1) := by decide +kernel
theorem dX11_leastChops_7 : decode cX11_leastChops 7 = .ok (.invokevirtual 414, 3) := by decide +kernel
theorem dX11_leastChops_10 : decode cX11_leastChops 10 = .ok (.ifCond .eq 11, 3) := by decide +kernel
theorem dX11_leastChops_13 : decode cX11_leastChops 13 = .ok (.aload_n 0, 1) := by decide +kernel
theorem dX11_leastChops_14 : decode cX11_leastChops 14 = .ok (.iload_n 2, 1) := by decide +kernel
theorem dX11_leastChops_15 : decode cX11_leastChops 15 = .ok (.invokevirtual 411, 3) := by decide +kernel
theorem dX11_leastChops_18 : decode cX11_leastChops 18 = .ok (.ifCond .ne 9, 3) := by decide +kernel
theorem dX11_leastChops_21 : decode cX11_leastChops 21 = .ok (.aload_n 0, 1) := by decide +kernel
theorem dX11_leastChops_22 : decode cX11_leastChops 22 = .ok (.iconst 1, 1) := by decide +kernel
theorem dX11_leastChops_23 : decode cX11_leastChops 23 = .ok (.invokevirtual 329, 3) := by decide +kernel
theorem dX11_leastChops_26 : decode cX11_leastChops 26 = .ok (.ireturn, 1) := by decide +kernel
theorem dX11_leastChops_27 : decode cX11_leastChops 27 = .ok (.aload_n 0, 1) := by decide +kernel
theorem dX11_leastChops_28 : decode cX11_leastChops 28 = .ok (.getfield 115, 3) := by decide +kernel
theorem dX11_leastChops_31 : decode cX11_leastChops 31 = .ok (.iload_n 1, 1) := by decide +kernel
theorem dX11_leastChops_32 : decode cX11_leastChops 32 = .ok (.iaload, 1) := by decide +kernel
theorem dX11_leastChops_33 : decode cX11_leastChops 33 = .ok (.istore_n 3, 1) := by decide +kernel
theorem dX11_leastChops_34 : decode cX11_leastChops 34 = .ok (.iconst (-1), 1) := by decide +kernel
theorem dX11_leastChops_35 : decode cX11_leastChops 35 = .ok (.istore 4, 2) := by decide +kernel
theorem dX11_leastChops_37 : decode cX11_leastChops 37 = .ok (.iconst 0, 1) := by decide +kernel
theorem dX11_leastChops_38 : decode cX11_leastChops 38 = .ok (.istore 5, 2) := by decide +kernel
theorem dX11_leastChops_40 : decode cX11_leastChops 40 = .ok (.iload 5, 2) := by decide +kernel
theorem dX11_leastChops_42 : decode cX11_leastChops 42 = .ok (.bipush 20, 2) := by decide +kernel
theorem dX11_leastChops_44 : decode cX11_leastChops 44 = .ok (.if_icmp .gt 39, 3) := by decide +kernel
theorem dX11_leastChops_47 : decode cX11_leastChops 47 = .ok (.iload 4, 2) := by decide +kernel
theorem dX11_leastChops_49 : decode cX11_leastChops 49 = .ok (.iconst (-1), 1) := by decide +kernel
theorem dX11_leastChops_50 : decode cX11_leastChops 50 = .ok (.if_icmp .ne 33, 3) := by decide +kernel
theorem dX11_leastChops_53 : decode cX11_leastChops 53 = .ok (.aload_n 0, 1) := by decide +kernel
theorem dX11_leastChops_54 : decode cX11_leastChops 54 = .ok (.getfield 115, 3) := by decide +kernel
theorem dX11_leastChops_57 : decode cX11_leastChops 57 = .ok (.iload_n 1, 1) := by decide +kernel
theorem dX11_leastChops_58 : decode cX11_leastChops 58 = .ok (.iload 5, 2) := by decide +kernel
theorem dX11_leastChops_60 : decode cX11_leastChops 60 = .ok (.iastore, 1) := by decide +kernel
theorem dX11_leastChops_61 : decode cX11_leastChops 61 = .ok (.aload_n 0, 1) := by decide +kernel
theorem dX11_leastChops_62 : decode cX11_leastChops 62 = .ok (.iload_n 1, 1) := by decide +kernel
theorem dX11_leastChops_63 : decode cX11_leastChops 63 = .ok (.invokevirtual 447, 3) := by decide +kernel
theorem dX11_leastChops_66 : decode cX11_leastChops 66 = .ok (.iload_n 2, 1) := by decide +kernel
theorem dX11_leastChops_67 : decode cX11_leastChops 67 = .ok (.invokestatic 385, 3) := by decide +kernel
theorem dX11_leastChops_70 : decode cX11_leastChops 70 = .ok (.ifCond .eq 7, 3) := by decide +kernel
theorem dX11_leastChops_73 : decode cX11_leastChops 73 = .ok (.iload 5, 2) := by decide +kernel
theorem dX11_leastChops_75 : decode cX11_leastChops 75 = .ok (.istore 4, 2) := by decide +kernel
theorem dX11_leastChops_77 : decode cX11_leastChops 77 = .ok (.iinc 5 1, 3) := by decide +kernel
theorem dX11_leastChops_80 : decode cX11_leastChops 80 = .ok (.goto (-40), 3) := by decide +kernel
theorem dX11_leastChops_83 : decode cX11_leastChops 83 = .ok (.aload_n 0, 1) := by decide +kernel
theorem dX11_leastChops_84 : decode cX11_leastChops 84 = .ok (.getfield 115, 3) := by decide +kernel
theorem dX11_leastChops_87 : decode cX11_leastChops 87 = .ok (.iload_n 1, 1) := by decide +kernel
theorem dX11_leastChops_88 : decode cX11_leastChops 88 = .ok (.iload_n 3, 1) := by decide +kernel
theorem dX11_leastChops_89 : decode cX11_leastChops 89 = .ok (.iastore, 1) := by decide +kernel
theorem dX11_leastChops_90 : decode cX11_leastChops 90 = .ok (.iload 4, 2) := by decide +kernel
theorem dX11_leastChops_92 : decode cX11_leastChops 92 = .ok (.ireturn, 1) := by decide +kernel
theorem dX11_toWin_0 : decode cX11_toWin 0 = .ok (.aload_n 0, 1) := by decide +kernel
theorem dX11_toWin_1 : decode cX11_toWin 1 = .ok (.iconst 0, 1) := by decide +kernel
theorem dX11_toWin_2 : decode cX11_toWin 2 = .ok (.putfield 195, 3) := by decide +kernel
theorem dX11_toWin_5 : decode cX11_toWin 5 = .ok (.aload_n 0, 1) := by decide +kernel
theorem dX11_toWin_6 : decode cX11_toWin 6 = .ok (.iload_n 1, 1) := by decide +kernel
theorem dX11_toWin_7 : decode cX11_toWin 7 = .ok (.invokevirtual 414, 3) := by decide +kernel
theorem dX11_toWin_10 : decode cX11_toWin 10 = .ok (.ifCond .eq 12, 3) := by decide +kernel
theorem dX11_toWin_13 : decode cX11_toWin 13 = .ok (.iload_n 2, 1) := by decide +kernel
theorem dX11_toWin_14 : decode cX11_toWin 14 = .ok (.ifCond .lt 8, 3) := by decide +kernel
theorem dX11_toWin_17 : decode cX11_toWin 17 = .ok (.iload_n 2, 1) := by decide +kernel
theorem dX11_toWin_18 : decode cX11_toWin 18 = .ok (.iconst 1, 1) := by decide +kernel
theorem dX11_toWin_19 : decode cX11_toWin 19 = .ok (.if_icmp .le 9, 3) := by decide +kernel
theorem dX11_toWin_22 : decode cX11_toWin 22 = .ok (.aload_n 0, 1) := by decide +kernel
theorem dX11_toWin_23 : decode cX11_toWin 23 = .ok (.iconst 1, 1) := by decide +kernel
theorem dX11_toWin_24 : decode cX11_toWin 24 = .ok (.invokevirtual 329, 3) := by decide +kernel
theorem dX11_toWin_27 : decode cX11_toWin 27 = .ok (.ireturn, 1) := by decide +kernel
theorem dX11_toWin_28 : decode cX11_toWin 28 = .ok (.aload_n 0, 1) := by decide +kernel
theorem dX11_toWin_29 : decode cX11_toWin 29 = .ok (.getfield 115, 3) := by decide +kernel
theorem dX11_toWin_32 : decode cX11_toWin 32 = .ok (.iload_n 1, 1) := by decide +kernel
theorem dX11_toWin_33 : decode cX11_toWin 33 = .ok (.iaload, 1) := by decide +kernel
theorem dX11_toWin_34 : decode cX11_toWin 34 = .ok (.istore_n 3, 1) := by decide +kernel
theorem dX11_toWin_35 : decode cX11_toWin 35 = .ok (.iconst 0, 1) := by decide +kernel
theorem dX11_toWin_36 : decode cX11_toWin 36 = .ok (.istore 4, 2) := by decide +kernel
theorem dX11_toWin_38 : decode cX11_toWin 38 = .ok (.iconst (-1), 1) := by decide +kernel
theorem dX11_toWin_39 : decode cX11_toWin 39 = .ok (.istore 5, 2) := by decide +kernel
theorem dX11_toWin_41 : decode cX11_toWin 41 = .ok (.iconst 0, 1) := by decide +kernel
theorem dX11_toWin_42 : decode cX11_toWin 42 = .ok (.istore 6, 2) := by decide +kernel
theorem dX11_toWin_44 : decode cX11_toWin 44 = .ok (.iload 6, 2) := by decide +kernel
theorem dX11_toWin_46 : decode cX11_toWin 46 = .ok (.bipush 20, 2) := by decide +kernel
theorem dX11_toWin_48 : decode cX11_toWin 48 = .ok (.if_icmp .gt 45, 3) := by decide +kernel
theorem dX11_toWin_51 : decode cX11_toWin 51 = .ok (.aload_n 0, 1) := by decide +kernel
theorem dX11_toWin_52 : decode cX11_toWin 52 = .ok (.getfield 115, 3) := by decide +kernel
theorem dX11_toWin_55 : decode cX11_toWin 55 = .ok (.iload_n 1, 1) := by decide +kernel
theorem dX11_toWin_56 : decode cX11_toWin 56 = .ok (.iload 6, 2) := by decide +kernel
theorem dX11_toWin_58 : decode cX11_toWin 58 = .ok (.iastore, 1) := by decide +kernel
theorem dX11_toWin_59 : decode cX11_toWin 59 = .ok (.aload_n 0, 1) := by decide +kernel
theorem dX11_toWin_60 : decode cX11_toWin 60 = .ok (.iload_n 1, 1) := by decide +kernel
theorem dX11_toWin_61 : decode cX11_toWin 61 = .ok (.invokevirtual 447, 3) := by decide +kernel
theorem dX11_toWin_64 : decode cX11_toWin 64 = .ok (.invokestatic 373, 3) := by decide +kernel
theorem dX11_toWin_67 : decode cX11_toWin 67 = .ok (.istore 7, 2) := by decide +kernel
theorem dX11_toWin_69 : decode cX11_toWin 69 = .ok (.iload 7, 2) := by decide +kernel
theorem dX11_toWin_71 : decode cX11_toWin 71 = .ok (.iload 5, 2) := by decide +kernel
theorem dX11_toWin_73 : decode cX11_toWin 73 = .ok (.if_icmp .gt 6, 3) := by decide +kernel
theorem dX11_toWin_76 : decode cX11_toWin 76 = .ok (.goto 11, 3) := by decide +kernel
theorem dX11_toWin_79 : decode cX11_toWin 79 = .ok (.iload 6, 2) := by decide +kernel
theorem dX11_toWin_81 : decode cX11_toWin 81 = .ok (.istore 4, 2) := by decide +kernel
theorem dX11_toWin_83 : decode cX11_toWin 83 = .ok (.iload 7, 2) := by decide +kernel
theorem dX11_toWin_85 : decode cX11_toWin 85 = .ok (.istore 5, 2) := by decide +kernel
theorem dX11_toWin_87 : decode cX11_toWin 87 = .ok (.iinc 6 1, 3) := by decide +kernel
theorem dX11_toWin_90 : decode cX11_toWin 90 = .ok (.goto (-46), 3) := by decide +kernel
theorem dX11_toWin_93 : decode cX11_toWin 93 = .ok (.aload_n 0, 1) := by decide +kernel
theorem dX11_toWin_94 : decode cX11_toWin 94 = .ok (.getfield 115, 3) := by decide +kernel
theorem dX11_toWin_97 : decode cX11_toWin 97 = .ok (.iload_n 1, 1) := by decide +kernel
theorem dX11_toWin_98 : decode cX11_toWin 98 = .ok (.iload_n 3, 1) := by decide +kernel
theorem dX11_toWin_99 : decode cX11_toWin 99 = .ok (.iastore, 1) := by decide +kernel
theorem dX11_toWin_100 : decode cX11_toWin 100 = .ok (.iload_n 2, 1) := by decide +kernel
theorem dX11_toWin_101 : decode cX11_toWin 101 = .ok (.ifCond .ne 8, 3) := by decide +kernel
theorem dX11_toWin_104 : decode cX11_toWin 104 = .ok (.iload 5, 2) := by decide +kernel
theorem dX11_toWin_106 : decode cX11_toWin 106 = .ok (.goto 5, 3) := by decide +kernel
theorem dX11_toWin_109 : decode cX11_toWin 109 = .ok (.iload 4, 2) := by decide +kernel
theorem dX11_toWin_111 : decode cX11_toWin 111 = .ok (.ireturn, 1) := by decide +kernel
theorem dX11_ruin_0 : decode cX11_ruin 0 = .ok (.aload_n 0, 1) := by decide +kernel
theorem dX11_ruin_1 : decode cX11_ruin 1 = .ok (.iconst 0, 1) := by decide +kernel
theorem dX11_ruin_2 : decode cX11_ruin 2 = .ok (.putfield 195, 3) := by decide +kernel
theorem dX11_ruin_5 : decode cX11_ruin 5 = .ok (.aload_n 0, 1) := by decide +kernel
theorem dX11_ruin_6 : decode cX11_ruin 6 = .ok (.iload_n 1, 1) := by decide +kernel
theorem dX11_ruin_7 : decode cX11_ruin 7 = .ok (.invokevirtual 414, 3) := by decide +kernel
theorem dX11_ruin_10 : decode cX11_ruin 10 = .ok (.ifCond .ne 9, 3) := by decide +kernel
theorem dX11_ruin_13 : decode cX11_ruin 13 = .ok (.aload_n 0, 1) := by decide +kernel
theorem dX11_ruin_14 : decode cX11_ruin 14 = .ok (.iconst 1, 1) := by decide +kernel
theorem dX11_ruin_15 : decode cX11_ruin 15 = .ok (.invokevirtual 329, 3) := by decide +kernel
theorem dX11_ruin_18 : decode cX11_ruin 18 = .ok (.ireturn, 1) := by decide +kernel
theorem dX11_ruin_19 : decode cX11_ruin 19 = .ok (.iconst (-1), 1) := by decide +kernel
theorem dX11_ruin_20 : decode cX11_ruin 20 = .ok (.istore_n 2, 1) := by decide +kernel
theorem dX11_ruin_21 : decode cX11_ruin 21 = .ok (.aload_n 0, 1) := by decide +kernel
theorem dX11_ruin_22 : decode cX11_ruin 22 = .ok (.iload_n 1, 1) := by decide +kernel
theorem dX11_ruin_23 : decode cX11_ruin 23 = .ok (.invokevirtual 447, 3) := by decide +kernel
theorem dX11_ruin_26 : decode cX11_ruin 26 = .ok (.invokestatic 373, 3) := by decide +kernel
theorem dX11_ruin_29 : decode cX11_ruin 29 = .ok (.istore_n 3, 1) := by decide +kernel
theorem dX11_ruin_30 : decode cX11_ruin 30 = .ok (.iconst 0, 1) := by decide +kernel
theorem dX11_ruin_31 : decode cX11_ruin 31 = .ok (.istore 4, 2) := by decide +kernel
theorem dX11_ruin_33 : decode cX11_ruin 33 = .ok (.iload 4, 2) := by decide +kernel
theorem dX11_ruin_35 : decode cX11_ruin 35 = .ok (.aload_n 0, 1) := by decide +kernel
theorem dX11_ruin_36 : decode cX11_ruin 36 = .ok (.getfield 55, 3) := by decide +kernel
theorem dX11_ruin_39 : decode cX11_ruin 39 = .ok (.iconst 1, 1) := by decide +kernel
theorem dX11_ruin_40 : decode cX11_ruin 40 = .ok (.iaload, 1) := by decide +kernel
theorem dX11_ruin_41 : decode cX11_ruin 41 = .ok (.if_icmp .ge 69, 3) := by decide +kernel
theorem dX11_ruin_44 : decode cX11_ruin 44 = .ok (.iload 4, 2) := by decide +kernel
theorem dX11_ruin_46 : decode cX11_ruin 46 = .ok (.iload_n 1, 1) := by decide +kernel
theorem dX11_ruin_47 : decode cX11_ruin 47 = .ok (.if_icmp .ne 6, 3) := by decide +kernel
theorem dX11_ruin_50 : decode cX11_ruin 50 = .ok (.goto 54, 3) := by decide +kernel
theorem dX11_ruin_53 : decode cX11_ruin 53 = .ok (.aload_n 0, 1) := by decide +kernel
theorem dX11_ruin_54 : decode cX11_ruin 54 = .ok (.getfield 117, 3) := by decide +kernel
theorem dX11_ruin_57 : decode cX11_ruin 57 = .ok (.iload 4, 2) := by decide +kernel
theorem dX11_ruin_59 : decode cX11_ruin 59 = .ok (.iaload, 1) := by decide +kernel
theorem dX11_ruin_60 : decode cX11_ruin 60 = .ok (.istore 5, 2) := by decide +kernel
theorem dX11_ruin_62 : decode cX11_ruin 62 = .ok (.aload_n 0, 1) := by decide +kernel
theorem dX11_ruin_63 : decode cX11_ruin 63 = .ok (.getfield 117, 3) := by decide +kernel
theorem dX11_ruin_66 : decode cX11_ruin 66 = .ok (.iload 4, 2) := by decide +kernel
theorem dX11_ruin_68 : decode cX11_ruin 68 = .ok (.iconst 0, 1) := by decide +kernel
theorem dX11_ruin_69 : decode cX11_ruin 69 = .ok (.iastore, 1) := by decide +kernel
theorem dX11_ruin_70 : decode cX11_ruin 70 = .ok (.aload_n 0, 1) := by decide +kernel
theorem dX11_ruin_71 : decode cX11_ruin 71 = .ok (.iload_n 1, 1) := by decide +kernel
theorem dX11_ruin_72 : decode cX11_ruin 72 = .ok (.invokevirtual 447, 3) := by decide +kernel
theorem dX11_ruin_75 : decode cX11_ruin 75 = .ok (.invokestatic 373, 3) := by decide +kernel
theorem dX11_ruin_78 : decode cX11_ruin 78 = .ok (.istore 6, 2) := by decide +kernel
theorem dX11_ruin_80 : decode cX11_ruin 80 = .ok (.aload_n 0, 1) := by decide +kernel
theorem dX11_ruin_81 : decode cX11_ruin 81 = .ok (.getfield 117, 3) := by decide +kernel
theorem dX11_ruin_84 : decode cX11_ruin 84 = .ok (.iload 4, 2) := by decide +kernel
theorem dX11_ruin_86 : decode cX11_ruin 86 = .ok (.iload 5, 2) := by decide +kernel
theorem dX11_ruin_88 : decode cX11_ruin 88 = .ok (.iastore, 1) := by decide +kernel
theorem dX11_ruin_89 : decode cX11_ruin 89 = .ok (.iload 6, 2) := by decide +kernel
theorem dX11_ruin_91 : decode cX11_ruin 91 = .ok (.iload_n 3, 1) := by decide +kernel
theorem dX11_ruin_92 : decode cX11_ruin 92 = .ok (.if_icmp .lt 6, 3) := by decide +kernel
theorem dX11_ruin_95 : decode cX11_ruin 95 = .ok (.goto 9, 3) := by decide +kernel
theorem dX11_ruin_98 : decode cX11_ruin 98 = .ok (.iload 4, 2) := by decide +kernel
theorem dX11_ruin_100 : decode cX11_ruin 100 = .ok (.istore_n 2, 1) := by decide +kernel
theorem dX11_ruin_101 : decode cX11_ruin 101 = .ok (.iload 6, 2) := by decide +kernel
theorem dX11_ruin_103 : decode cX11_ruin 103 = .ok (.istore_n 3, 1) := by decide +kernel
theorem dX11_ruin_104 : decode cX11_ruin 104 = .ok (.iinc 4 1, 3) := by decide +kernel
theorem dX11_ruin_107 : decode cX11_ruin 107 = .ok (.goto (-74), 3) := by decide +kernel
theorem dX11_ruin_110 : decode cX11_ruin 110 = .ok (.iload_n 2, 1) := by decide +kernel
theorem dX11_ruin_111 : decode cX11_ruin 111 = .ok (.ireturn, 1) := by decide +kernel
theorem dX11_tellLiked_0 : decode cX11_tellLiked 0 = .ok (.iconst 0, 1) := by decide +kernel
theorem dX11_tellLiked_1 : decode cX11_tellLiked 1 = .ok (.istore_n 2, 1) := by decide +kernel
theorem dX11_tellLiked_2 : decode cX11_tellLiked 2 = .ok (.iload_n 2, 1) := by decide +kernel
theorem dX11_tellLiked_3 : decode cX11_tellLiked 3 = .ok (.aload_n 0, 1) := by decide +kernel
theorem dX11_tellLiked_4 : decode cX11_tellLiked 4 = .ok (.getfield 55, 3) := by decide +kernel
theorem dX11_tellLiked_7 : decode cX11_tellLiked 7 = .ok (.iconst 1, 1) := by decide +kernel
theorem dX11_tellLiked_8 : decode cX11_tellLiked 8 = .ok (.iaload, 1) := by decide +kernel
theorem dX11_tellLiked_9 : decode cX11_tellLiked 9 = .ok (.if_icmp .ge 120, 3) := by decide +kernel
theorem dX11_tellLiked_12 : decode cX11_tellLiked 12 = .ok (.iconst 0, 1) := by decide +kernel
theorem dX11_tellLiked_13 : decode cX11_tellLiked 13 = .ok (.istore_n 3, 1) := by decide +kernel
theorem dX11_tellLiked_14 : decode cX11_tellLiked 14 = .ok (.iload_n 3, 1) := by decide +kernel
theorem dX11_tellLiked_15 : decode cX11_tellLiked 15 = .ok (.iconst 1, 1) := by decide +kernel
theorem dX11_tellLiked_16 : decode cX11_tellLiked 16 = .ok (.aload_n 0, 1) := by decide +kernel
theorem dX11_tellLiked_17 : decode cX11_tellLiked 17 = .ok (.getfield 55, 3) := by decide +kernel
theorem dX11_tellLiked_20 : decode cX11_tellLiked 20 = .ok (.iconst 0, 1) := by decide +kernel
theorem dX11_tellLiked_21 : decode cX11_tellLiked 21 = .ok (.iaload, 1) := by decide +kernel
theorem dX11_tellLiked_22 : decode cX11_tellLiked 22 = .ok (.ishl, 1) := by decide +kernel
theorem dX11_tellLiked_23 : decode cX11_tellLiked 23 = .ok (.if_icmp .ge 100, 3) := by decide +kernel
theorem dX11_tellLiked_26 : decode cX11_tellLiked 26 = .ok (.iload_n 3, 1) := by decide +kernel
theorem dX11_tellLiked_27 : decode cX11_tellLiked 27 = .ok (.invokestatic 373, 3) := by decide +kernel
theorem dX11_tellLiked_30 : decode cX11_tellLiked 30 = .ok (.iload_n 1, 1) := by decide +kernel
theorem dX11_tellLiked_31 : decode cX11_tellLiked 31 = .ok (.if_icmp .le 7, 3) := by decide +kernel
theorem dX11_tellLiked_34 : decode cX11_tellLiked 34 = .ok (.iconst (-1), 1) := by decide +kernel
theorem dX11_tellLiked_35 : decode cX11_tellLiked 35 = .ok (.goto 4, 3) := by decide +kernel
theorem dX11_tellLiked_38 : decode cX11_tellLiked 38 = .ok (.iconst 0, 1) := by decide +kernel
theorem dX11_tellLiked_39 : decode cX11_tellLiked 39 = .ok (.istore 4, 2) := by decide +kernel
theorem dX11_tellLiked_41 : decode cX11_tellLiked 41 = .ok (.iconst 0, 1) := by decide +kernel
theorem dX11_tellLiked_42 : decode cX11_tellLiked 42 = .ok (.istore 5, 2) := by decide +kernel
theorem dX11_tellLiked_44 : decode cX11_tellLiked 44 = .ok (.iload 5, 2) := by decide +kernel
theorem dX11_tellLiked_46 : decode cX11_tellLiked 46 = .ok (.aload_n 0, 1) := by decide +kernel
theorem dX11_tellLiked_47 : decode cX11_tellLiked 47 = .ok (.getfield 55, 3) := by decide +kernel
theorem dX11_tellLiked_50 : decode cX11_tellLiked 50 = .ok (.iconst 0, 1) := by decide +kernel
theorem dX11_tellLiked_51 : decode cX11_tellLiked 51 = .ok (.iaload, 1) := by decide +kernel
theorem dX11_tellLiked_52 : decode cX11_tellLiked 52 = .ok (.if_icmp .ge 52, 3) := by decide +kernel
theorem dX11_tellLiked_55 : decode cX11_tellLiked 55 = .ok (.iload 4, 2) := by decide +kernel
theorem dX11_tellLiked_57 : decode cX11_tellLiked 57 = .ok (.iconst (-1), 1) := by decide +kernel
theorem dX11_tellLiked_58 : decode cX11_tellLiked 58 = .ok (.if_icmp .eq 46, 3) := by decide +kernel
theorem dX11_tellLiked_61 : decode cX11_tellLiked 61 = .ok (.iload_n 3, 1) := by decide +kernel
theorem dX11_tellLiked_62 : decode cX11_tellLiked 62 = .ok (.iload 5, 2) := by decide +kernel
theorem dX11_tellLiked_64 : decode cX11_tellLiked 64 = .ok (.invokestatic 385, 3) := by decide +kernel
theorem dX11_tellLiked_67 : decode cX11_tellLiked 67 = .ok (.ifCond .ne 6, 3) := by decide +kernel
theorem dX11_tellLiked_70 : decode cX11_tellLiked 70 = .ok (.goto 28, 3) := by decide +kernel
theorem dX11_tellLiked_73 : decode cX11_tellLiked 73 = .ok (.aload_n 0, 1) := by decide +kernel
theorem dX11_tellLiked_74 : decode cX11_tellLiked 74 = .ok (.iload 5, 2) := by decide +kernel
theorem dX11_tellLiked_76 : decode cX11_tellLiked 76 = .ok (.iload_n 2, 1) := by decide +kernel
theorem dX11_tellLiked_77 : decode cX11_tellLiked 77 = .ok (.invokevirtual 444, 3) := by decide +kernel
theorem dX11_tellLiked_80 : decode cX11_tellLiked 80 = .ok (.istore 6, 2) := by decide +kernel
theorem dX11_tellLiked_82 : decode cX11_tellLiked 82 = .ok (.iload 6, 2) := by decide +kernel
theorem dX11_tellLiked_84 : decode cX11_tellLiked 84 = .ok (.ifCond .le 11, 3) := by decide +kernel
theorem dX11_tellLiked_87 : decode cX11_tellLiked 87 = .ok (.iload 4, 2) := by decide +kernel
theorem dX11_tellLiked_89 : decode cX11_tellLiked 89 = .ok (.iload 6, 2) := by decide +kernel
theorem dX11_tellLiked_91 : decode cX11_tellLiked 91 = .ok (.iadd, 1) := by decide +kernel
theorem dX11_tellLiked_92 : decode cX11_tellLiked 92 = .ok (.goto 4, 3) := by decide +kernel
theorem dX11_tellLiked_95 : decode cX11_tellLiked 95 = .ok (.iconst (-1), 1) := by decide +kernel
theorem dX11_tellLiked_96 : decode cX11_tellLiked 96 = .ok (.istore 4, 2) := by decide +kernel
theorem dX11_tellLiked_98 : decode cX11_tellLiked 98 = .ok (.iinc 5 1, 3) := by decide +kernel
theorem dX11_tellLiked_101 : decode cX11_tellLiked 101 = .ok (.goto (-57), 3) := by decide +kernel
theorem dX11_tellLiked_104 : decode cX11_tellLiked 104 = .ok (.aload_n 0, 1) := by decide +kernel
theorem dX11_tellLiked_105 : decode cX11_tellLiked 105 = .ok (.getfield 146, 3) := by decide +kernel
theorem dX11_tellLiked_108 : decode cX11_tellLiked 108 = .ok (.iload_n 2, 1) := by decide +kernel
theorem dX11_tellLiked_109 : decode cX11_tellLiked 109 = .ok (.bipush 8, 2) := by decide +kernel
theorem dX11_tellLiked_111 : decode cX11_tellLiked 111 = .ok (.ishl, 1) := by decide +kernel
theorem dX11_tellLiked_112 : decode cX11_tellLiked 112 = .ok (.iload_n 3, 1) := by decide +kernel
theorem dX11_tellLiked_113 : decode cX11_tellLiked 113 = .ok (.iadd, 1) := by decide +kernel
theorem dX11_tellLiked_114 : decode cX11_tellLiked 114 = .ok (.iload 4, 2) := by decide +kernel
theorem dX11_tellLiked_116 : decode cX11_tellLiked 116 = .ok (.iastore, 1) := by decide +kernel
theorem dX11_tellLiked_117 : decode cX11_tellLiked 117 = .ok (.iinc 3 1, 3) := by decide +kernel
theorem dX11_tellLiked_120 : decode cX11_tellLiked 120 = .ok (.goto (-106), 3) := by decide +kernel
theorem dX11_tellLiked_123 : decode cX11_tellLiked 123 = .ok (.iinc 2 1, 3) := by decide +kernel
theorem dX11_tellLiked_126 : decode cX11_tellLiked 126 = .ok (.goto (-124), 3) := by decide +kernel
theorem dX11_tellLiked_129 : decode cX11_tellLiked 129 = .ok (.return_, 1) := by decide +kernel
theorem dX11_by_0 : decode cX11_by 0 = .ok (.aload_n 0, 1) := by decide +kernel
theorem dX11_by_1 : decode cX11_by 1 = .ok (.getfield 146, 3) := by decide +kernel
theorem dX11_by_4 : decode cX11_by 4 = .ok (.iload_n 1, 1) := by decide +kernel
theorem dX11_by_5 : decode cX11_by 5 = .ok (.bipush 8, 2) := by decide +kernel
theorem dX11_by_7 : decode cX11_by 7 = .ok (.ishl, 1) := by decide +kernel
theorem dX11_by_8 : decode cX11_by 8 = .ok (.iload_n 3, 1) := by decide +kernel
theorem dX11_by_9 : decode cX11_by 9 = .ok (.iadd, 1) := by decide +kernel
theorem dX11_by_10 : decode cX11_by 10 = .ok (.iaload, 1) := by decide +kernel
theorem dX11_by_11 : decode cX11_by 11 = .ok (.aload_n 0, 1) := by decide +kernel
theorem dX11_by_12 : decode cX11_by 12 = .ok (.getfield 143, 3) := by decide +kernel
theorem dX11_by_15 : decode cX11_by 15 = .ok (.iload_n 1, 1) := by decide +kernel
theorem dX11_by_16 : decode cX11_by 16 = .ok (.iconst 1, 1) := by decide +kernel
theorem dX11_by_17 : decode cX11_by 17 = .ok (.iadd, 1) := by decide +kernel
theorem dX11_by_18 : decode cX11_by 18 = .ok (.bipush 8, 2) := by decide +kernel
theorem dX11_by_20 : decode cX11_by 20 = .ok (.ishl, 1) := by decide +kernel
theorem dX11_by_21 : decode cX11_by 21 = .ok (.iload_n 2, 1) := by decide +kernel
theorem dX11_by_22 : decode cX11_by 22 = .ok (.iload_n 3, 1) := by decide +kernel
theorem dX11_by_23 : decode cX11_by 23 = .ok (.iconst (-1), 1) := by decide +kernel
theorem dX11_by_24 : decode cX11_by 24 = .ok (.ixor, 1) := by decide +kernel
theorem dX11_by_25 : decode cX11_by 25 = .ok (.iand, 1) := by decide +kernel
theorem dX11_by_26 : decode cX11_by 26 = .ok (.iadd, 1) := by decide +kernel
theorem dX11_by_27 : decode cX11_by 27 = .ok (.iaload, 1) := by decide +kernel
theorem dX11_by_28 : decode cX11_by 28 = .ok (.iadd, 1) := by decide +kernel
theorem dX11_by_29 : decode cX11_by 29 = .ok (.ireturn, 1) := by decide +kernel
theorem dX11_tellMost_0 : decode cX11_tellMost 0 = .ok (.iconst 1, 1) := by decide +kernel
theorem dX11_tellMost_1 : decode cX11_tellMost 1 = .ok (.aload_n 0, 1) := by decide +kernel
theorem dX11_tellMost_2 : decode cX11_tellMost 2 = .ok (.getfield 55, 3) := by decide +kernel
theorem dX11_tellMost_5 : decode cX11_tellMost 5 = .ok (.iconst 0, 1) := by decide +kernel
theorem dX11_tellMost_6 : decode cX11_tellMost 6 = .ok (.iaload, 1) := by decide +kernel
theorem dX11_tellMost_7 : decode cX11_tellMost 7 = .ok (.ishl, 1) := by decide +kernel
theorem dX11_tellMost_8 : decode cX11_tellMost 8 = .ok (.istore_n 1, 1) := by decide +kernel
theorem dX11_tellMost_9 : decode cX11_tellMost 9 = .ok (.iconst 0, 1) := by decide +kernel
theorem dX11_tellMost_10 : decode cX11_tellMost 10 = .ok (.istore_n 2, 1) := by decide +kernel
theorem dX11_tellMost_11 : decode cX11_tellMost 11 = .ok (.iload_n 2, 1) := by decide +kernel
theorem dX11_tellMost_12 : decode cX11_tellMost 12 = .ok (.iload_n 1, 1) := by decide +kernel
theorem dX11_tellMost_13 : decode cX11_tellMost 13 = .ok (.if_icmp .ge 26, 3) := by decide +kernel
theorem dX11_tellMost_16 : decode cX11_tellMost 16 = .ok (.aload_n 0, 1) := by decide +kernel
theorem dX11_tellMost_17 : decode cX11_tellMost 17 = .ok (.getfield 143, 3) := by decide +kernel
theorem dX11_tellMost_20 : decode cX11_tellMost 20 = .ok (.aload_n 0, 1) := by decide +kernel
theorem dX11_tellMost_21 : decode cX11_tellMost 21 = .ok (.getfield 55, 3) := by decide +kernel
theorem dX11_tellMost_24 : decode cX11_tellMost 24 = .ok (.iconst 1, 1) := by decide +kernel
theorem dX11_tellMost_25 : decode cX11_tellMost 25 = .ok (.iaload, 1) := by decide +kernel
theorem dX11_tellMost_26 : decode cX11_tellMost 26 = .ok (.bipush 8, 2) := by decide +kernel
theorem dX11_tellMost_28 : decode cX11_tellMost 28 = .ok (.ishl, 1) := by decide +kernel
theorem dX11_tellMost_29 : decode cX11_tellMost 29 = .ok (.iload_n 2, 1) := by decide +kernel
theorem dX11_tellMost_30 : decode cX11_tellMost 30 = .ok (.iadd, 1) := by decide +kernel
theorem dX11_tellMost_31 : decode cX11_tellMost 31 = .ok (.iconst 0, 1) := by decide +kernel
theorem dX11_tellMost_32 : decode cX11_tellMost 32 = .ok (.iastore, 1) := by decide +kernel
theorem dX11_tellMost_33 : decode cX11_tellMost 33 = .ok (.iinc 2 1, 3) := by decide +kernel
theorem dX11_tellMost_36 : decode cX11_tellMost 36 = .ok (.goto (-25), 3) := by decide +kernel
theorem dX11_tellMost_39 : decode cX11_tellMost 39 = .ok (.aload_n 0, 1) := by decide +kernel
theorem dX11_tellMost_40 : decode cX11_tellMost 40 = .ok (.getfield 55, 3) := by decide +kernel
theorem dX11_tellMost_43 : decode cX11_tellMost 43 = .ok (.iconst 1, 1) := by decide +kernel
theorem dX11_tellMost_44 : decode cX11_tellMost 44 = .ok (.iaload, 1) := by decide +kernel
theorem dX11_tellMost_45 : decode cX11_tellMost 45 = .ok (.iconst 1, 1) := by decide +kernel
theorem dX11_tellMost_46 : decode cX11_tellMost 46 = .ok (.isub, 1) := by decide +kernel
theorem dX11_tellMost_47 : decode cX11_tellMost 47 = .ok (.istore_n 2, 1) := by decide +kernel
theorem dX11_tellMost_48 : decode cX11_tellMost 48 = .ok (.iload_n 2, 1) := by decide +kernel
theorem dX11_tellMost_49 : decode cX11_tellMost 49 = .ok (.ifCond .lt 94, 3) := by decide +kernel
theorem dX11_tellMost_52 : decode cX11_tellMost 52 = .ok (.iconst 0, 1) := by decide +kernel
theorem dX11_tellMost_53 : decode cX11_tellMost 53 = .ok (.istore_n 3, 1) := by decide +kernel
theorem dX11_tellMost_54 : decode cX11_tellMost 54 = .ok (.iload_n 3, 1) := by decide +kernel
theorem dX11_tellMost_55 : decode cX11_tellMost 55 = .ok (.iload_n 1, 1) := by decide +kernel
theorem dX11_tellMost_56 : decode cX11_tellMost 56 = .ok (.if_icmp .ge 81, 3) := by decide +kernel
theorem dX11_tellMost_59 : decode cX11_tellMost 59 = .ok (.aload_n 0, 1) := by decide +kernel
theorem dX11_tellMost_60 : decode cX11_tellMost 60 = .ok (.iload_n 2, 1) := by decide +kernel
theorem dX11_tellMost_61 : decode cX11_tellMost 61 = .ok (.iload_n 3, 1) := by decide +kernel
theorem dX11_tellMost_62 : decode cX11_tellMost 62 = .ok (.iconst 0, 1) := by decide +kernel
theorem dX11_tellMost_63 : decode cX11_tellMost 63 = .ok (.invokevirtual 450, 3) := by decide +kernel
theorem dX11_tellMost_66 : decode cX11_tellMost 66 = .ok (.istore 4, 2) := by decide +kernel
theorem dX11_tellMost_68 : decode cX11_tellMost 68 = .ok (.iload_n 3, 1) := by decide +kernel
theorem dX11_tellMost_69 : decode cX11_tellMost 69 = .ok (.istore 5, 2) := by decide +kernel
theorem dX11_tellMost_71 : decode cX11_tellMost 71 = .ok (.iload 5, 2) := by decide +kernel
theorem dX11_tellMost_73 : decode cX11_tellMost 73 = .ok (.ifCond .le 45, 3) := by decide +kernel
theorem dX11_tellMost_76 : decode cX11_tellMost 76 = .ok (.aload_n 0, 1) := by decide +kernel
theorem dX11_tellMost_77 : decode cX11_tellMost 77 = .ok (.getfield 146, 3) := by decide +kernel
theorem dX11_tellMost_80 : decode cX11_tellMost 80 = .ok (.iload_n 2, 1) := by decide +kernel
theorem dX11_tellMost_81 : decode cX11_tellMost 81 = .ok (.bipush 8, 2) := by decide +kernel
theorem dX11_tellMost_83 : decode cX11_tellMost 83 = .ok (.ishl, 1) := by decide +kernel
theorem dX11_tellMost_84 : decode cX11_tellMost 84 = .ok (.iload 5, 2) := by decide +kernel
theorem dX11_tellMost_86 : decode cX11_tellMost 86 = .ok (.iadd, 1) := by decide +kernel
theorem dX11_tellMost_87 : decode cX11_tellMost 87 = .ok (.iaload, 1) := by decide +kernel
theorem dX11_tellMost_88 : decode cX11_tellMost 88 = .ok (.iconst (-1), 1) := by decide +kernel
theorem dX11_tellMost_89 : decode cX11_tellMost 89 = .ok (.if_icmp .eq 18, 3) := by decide +kernel
theorem dX11_tellMost_92 : decode cX11_tellMost 92 = .ok (.iload 4, 2) := by decide +kernel
theorem dX11_tellMost_94 : decode cX11_tellMost 94 = .ok (.aload_n 0, 1) := by decide +kernel
theorem dX11_tellMost_95 : decode cX11_tellMost 95 = .ok (.iload_n 2, 1) := by decide +kernel
theorem dX11_tellMost_96 : decode cX11_tellMost 96 = .ok (.iload_n 3, 1) := by decide +kernel
theorem dX11_tellMost_97 : decode cX11_tellMost 97 = .ok (.iload 5, 2) := by decide +kernel
theorem dX11_tellMost_99 : decode cX11_tellMost 99 = .ok (.invokevirtual 450, 3) := by decide +kernel
theorem dX11_tellMost_102 : decode cX11_tellMost 102 = .ok (.invokestatic 379, 3) := by decide +kernel
theorem dX11_tellMost_105 : decode cX11_tellMost 105 = .ok (.istore 4, 2) := by decide +kernel
theorem dX11_tellMost_107 : decode cX11_tellMost 107 = .ok (.iload 5, 2) := by decide +kernel
theorem dX11_tellMost_109 : decode cX11_tellMost 109 = .ok (.iconst 1, 1) := by decide +kernel
theorem dX11_tellMost_110 : decode cX11_tellMost 110 = .ok (.isub, 1) := by decide +kernel
theorem dX11_tellMost_111 : decode cX11_tellMost 111 = .ok (.iload_n 3, 1) := by decide +kernel
theorem dX11_tellMost_112 : decode cX11_tellMost 112 = .ok (.iand, 1) := by decide +kernel
theorem dX11_tellMost_113 : decode cX11_tellMost 113 = .ok (.istore 5, 2) := by decide +kernel
theorem dX11_tellMost_115 : decode cX11_tellMost 115 = .ok (.goto (-44), 3) := by decide +kernel
theorem dX11_tellMost_118 : decode cX11_tellMost 118 = .ok (.aload_n 0, 1) := by decide +kernel
theorem dX11_tellMost_119 : decode cX11_tellMost 119 = .ok (.getfield 143, 3) := by decide +kernel
theorem dX11_tellMost_122 : decode cX11_tellMost 122 = .ok (.iload_n 2, 1) := by decide +kernel
theorem dX11_tellMost_123 : decode cX11_tellMost 123 = .ok (.bipush 8, 2) := by decide +kernel
theorem dX11_tellMost_125 : decode cX11_tellMost 125 = .ok (.ishl, 1) := by decide +kernel
theorem dX11_tellMost_126 : decode cX11_tellMost 126 = .ok (.iload_n 3, 1) := by decide +kernel
theorem dX11_tellMost_127 : decode cX11_tellMost 127 = .ok (.iadd, 1) := by decide +kernel
theorem dX11_tellMost_128 : decode cX11_tellMost 128 = .ok (.iload 4, 2) := by decide +kernel
theorem dX11_tellMost_130 : decode cX11_tellMost 130 = .ok (.iastore, 1) := by decide +kernel
theorem dX11_tellMost_131 : decode cX11_tellMost 131 = .ok (.iinc 3 1, 3) := by decide +kernel
theorem dX11_tellMost_134 : decode cX11_tellMost 134 = .ok (.goto (-80), 3) := by decide +kernel
theorem dX11_tellMost_137 : decode cX11_tellMost 137 = .ok (.iinc 2 (-1), 3) := by decide +kernel
theorem dX11_tellMost_140 : decode cX11_tellMost 140 = .ok (.goto (-92), 3) := by decide +kernel
theorem dX11_tellMost_143 : decode cX11_tellMost 143 = .ok (.return_, 1) := by decide +kernel
theorem dX11_goingTo_0 : decode cX11_goingTo 0 = .ok (.iconst 0, 1) := by decide +kernel
theorem dX11_goingTo_1 : decode cX11_goingTo 1 = .ok (.istore_n 3, 1) := by decide +kernel
theorem dX11_goingTo_2 : decode cX11_goingTo 2 = .ok (.iload_n 3, 1) := by decide +kernel
theorem dX11_goingTo_3 : decode cX11_goingTo 3 = .ok (.iload_n 2, 1) := by decide +kernel
theorem dX11_goingTo_4 : decode cX11_goingTo 4 = .ok (.if_icmp .ge 55, 3) := by decide +kernel
theorem dX11_goingTo_7 : decode cX11_goingTo 7 = .ok (.iload_n 3, 1) := by decide +kernel
theorem dX11_goingTo_8 : decode cX11_goingTo 8 = .ok (.iload_n 2, 1) := by decide +kernel
theorem dX11_goingTo_9 : decode cX11_goingTo 9 = .ok (.iconst (-1), 1) := by decide +kernel
theorem dX11_goingTo_10 : decode cX11_goingTo 10 = .ok (.ixor, 1) := by decide +kernel
theorem dX11_goingTo_11 : decode cX11_goingTo 11 = .ok (.iand, 1) := by decide +kernel
theorem dX11_goingTo_12 : decode cX11_goingTo 12 = .ok (.ifCond .ne 41, 3) := by decide +kernel
theorem dX11_goingTo_15 : decode cX11_goingTo 15 = .ok (.aload_n 0, 1) := by decide +kernel
theorem dX11_goingTo_16 : decode cX11_goingTo 16 = .ok (.getfield 146, 3) := by decide +kernel
theorem dX11_goingTo_19 : decode cX11_goingTo 19 = .ok (.iload_n 1, 1) := by decide +kernel
theorem dX11_goingTo_20 : decode cX11_goingTo 20 = .ok (.bipush 8, 2) := by decide +kernel
theorem dX11_goingTo_22 : decode cX11_goingTo 22 = .ok (.ishl, 1) := by decide +kernel
theorem dX11_goingTo_23 : decode cX11_goingTo 23 = .ok (.iload_n 3, 1) := by decide +kernel
theorem dX11_goingTo_24 : decode cX11_goingTo 24 = .ok (.iadd, 1) := by decide +kernel
theorem dX11_goingTo_25 : decode cX11_goingTo 25 = .ok (.iaload, 1) := by decide +kernel
theorem dX11_goingTo_26 : decode cX11_goingTo 26 = .ok (.iconst (-1), 1) := by decide +kernel
theorem dX11_goingTo_27 : decode cX11_goingTo 27 = .ok (.if_icmp .eq 26, 3) := by decide +kernel
theorem dX11_goingTo_30 : decode cX11_goingTo 30 = .ok (.aload_n 0, 1) := by decide +kernel
theorem dX11_goingTo_31 : decode cX11_goingTo 31 = .ok (.iload_n 1, 1) := by decide +kernel
theorem dX11_goingTo_32 : decode cX11_goingTo 32 = .ok (.iload_n 2, 1) := by decide +kernel
theorem dX11_goingTo_33 : decode cX11_goingTo 33 = .ok (.iload_n 3, 1) := by decide +kernel
theorem dX11_goingTo_34 : decode cX11_goingTo 34 = .ok (.invokevirtual 450, 3) := by decide +kernel
theorem dX11_goingTo_37 : decode cX11_goingTo 37 = .ok (.aload_n 0, 1) := by decide +kernel
theorem dX11_goingTo_38 : decode cX11_goingTo 38 = .ok (.getfield 143, 3) := by decide +kernel
theorem dX11_goingTo_41 : decode cX11_goingTo 41 = .ok (.iload_n 1, 1) := by decide +kernel
theorem dX11_goingTo_42 : decode cX11_goingTo 42 = .ok (.bipush 8, 2) := by decide +kernel
theorem dX11_goingTo_44 : decode cX11_goingTo 44 = .ok (.ishl, 1) := by decide +kernel
theorem dX11_goingTo_45 : decode cX11_goingTo 45 = .ok (.iload_n 2, 1) := by decide +kernel
theorem dX11_goingTo_46 : decode cX11_goingTo 46 = .ok (.iadd, 1) := by decide +kernel
theorem dX11_goingTo_47 : decode cX11_goingTo 47 = .ok (.iaload, 1) := by decide +kernel
theorem dX11_goingTo_48 : decode cX11_goingTo 48 = .ok (.if_icmp .ne 5, 3) := by decide +kernel
theorem dX11_goingTo_51 : decode cX11_goingTo 51 = .ok (.iload_n 3, 1) := by decide +kernel
theorem dX11_goingTo_52 : decode cX11_goingTo 52 = .ok (.ireturn, 1) := by decide +kernel
theorem dX11_goingTo_53 : decode cX11_goingTo 53 = .ok (.iinc 3 1, 3) := by decide +kernel
theorem dX11_goingTo_56 : decode cX11_goingTo 56 = .ok (.goto (-54), 3) := by decide +kernel
theorem dX11_goingTo_59 : decode cX11_goingTo 59 = .ok (.iload_n 2, 1) := by decide +kernel
theorem dX11_goingTo_60 : decode cX11_goingTo 60 = .ok (.ireturn, 1) := by decide +kernel
theorem dX11_share_0 : decode cX11_share 0 = .ok (.aload_n 0, 1) := by decide +kernel
theorem dX11_share_1 : decode cX11_share 1 = .ok (.iconst 0, 1) := by decide +kernel
theorem dX11_share_2 : decode cX11_share 2 = .ok (.putfield 195, 3) := by decide +kernel
theorem dX11_share_5 : decode cX11_share 5 = .ok (.iload_n 1, 1) := by decide +kernel
theorem dX11_share_6 : decode cX11_share 6 = .ok (.i2l, 1) := by decide +kernel
theorem dX11_share_7 : decode cX11_share 7 = .ok (.ldc2_w 453, 3) := by decide +kernel
theorem dX11_share_10 : decode cX11_share 10 = .ok (.aload_n 0, 1) := by decide +kernel
theorem dX11_share_11 : decode cX11_share 11 = .ok (.getfield 55, 3) := by decide +kernel
theorem dX11_share_14 : decode cX11_share 14 = .ok (.iconst 0, 1) := by decide +kernel
theorem dX11_share_15 : decode cX11_share 15 = .ok (.iaload, 1) := by decide +kernel
theorem dX11_share_16 : decode cX11_share 16 = .ok (.iconst 1, 1) := by decide +kernel
theorem dX11_share_17 : decode cX11_share 17 = .ok (.isub, 1) := by decide +kernel
theorem dX11_share_18 : decode cX11_share 18 = .ok (.i2l, 1) := by decide +kernel
theorem dX11_share_19 : decode cX11_share 19 = .ok (.invokestatic 198, 3) := by decide +kernel
theorem dX11_share_22 : decode cX11_share 22 = .ok (.ifCond .ne 9, 3) := by decide +kernel
theorem dX11_share_25 : decode cX11_share 25 = .ok (.aload_n 0, 1) := by decide +kernel
theorem dX11_share_26 : decode cX11_share 26 = .ok (.iconst 1, 1) := by decide +kernel
theorem dX11_share_27 : decode cX11_share 27 = .ok (.invokevirtual 329, 3) := by decide +kernel
theorem dX11_share_30 : decode cX11_share 30 = .ok (.ireturn, 1) := by decide +kernel
theorem dX11_share_31 : decode cX11_share 31 = .ok (.iload_n 2, 1) := by decide +kernel
theorem dX11_share_32 : decode cX11_share 32 = .ok (.i2l, 1) := by decide +kernel
theorem dX11_share_33 : decode cX11_share 33 = .ok (.lconst 1, 1) := by decide +kernel
theorem dX11_share_34 : decode cX11_share 34 = .ok (.ldc2_w 455, 3) := by decide +kernel
theorem dX11_share_37 : decode cX11_share 37 = .ok (.invokestatic 198, 3) := by decide +kernel
theorem dX11_share_40 : decode cX11_share 40 = .ok (.ifCond .ne 9, 3) := by decide +kernel
theorem dX11_share_43 : decode cX11_share 43 = .ok (.aload_n 0, 1) := by decide +kernel
theorem dX11_share_44 : decode cX11_share 44 = .ok (.iconst 2, 1) := by decide +kernel
theorem dX11_share_45 : decode cX11_share 45 = .ok (.invokevirtual 329, 3) := by decide +kernel
theorem dX11_share_48 : decode cX11_share 48 = .ok (.ireturn, 1) := by decide +kernel
theorem dX11_share_49 : decode cX11_share 49 = .ok (.aload_n 0, 1) := by decide +kernel
theorem dX11_share_50 : decode cX11_share 50 = .ok (.invokevirtual 393, 3) := by decide +kernel
theorem dX11_share_53 : decode cX11_share 53 = .ok (.aload_n 0, 1) := by decide +kernel
theorem dX11_share_54 : decode cX11_share 54 = .ok (.iload_n 2, 1) := by decide +kernel
theorem dX11_share_55 : decode cX11_share 55 = .ok (.invokevirtual 457, 3) := by decide +kernel
theorem dX11_share_58 : decode cX11_share 58 = .ok (.aload_n 0, 1) := by decide +kernel
theorem dX11_share_59 : decode cX11_share 59 = .ok (.invokevirtual 460, 3) := by decide +kernel
theorem dX11_share_62 : decode cX11_share 62 = .ok (.iconst 1, 1) := by decide +kernel
theorem dX11_share_63 : decode cX11_share 63 = .ok (.aload_n 0, 1) := by decide +kernel
theorem dX11_share_64 : decode cX11_share 64 = .ok (.getfield 55, 3) := by decide +kernel
theorem dX11_share_67 : decode cX11_share 67 = .ok (.iconst 0, 1) := by decide +kernel
theorem dX11_share_68 : decode cX11_share 68 = .ok (.iaload, 1) := by decide +kernel
theorem dX11_share_69 : decode cX11_share 69 = .ok (.ishl, 1) := by decide +kernel
theorem dX11_share_70 : decode cX11_share 70 = .ok (.iconst 1, 1) := by decide +kernel
theorem dX11_share_71 : decode cX11_share 71 = .ok (.isub, 1) := by decide +kernel
theorem dX11_share_72 : decode cX11_share 72 = .ok (.istore_n 3, 1) := by decide +kernel
theorem dX11_share_73 : decode cX11_share 73 = .ok (.iload_n 1, 1) := by decide +kernel
theorem dX11_share_74 : decode cX11_share 74 = .ok (.iconst (-1), 1) := by decide +kernel
theorem dX11_share_75 : decode cX11_share 75 = .ok (.if_icmp .ne 10, 3) := by decide +kernel
theorem dX11_share_78 : decode cX11_share 78 = .ok (.aload_n 0, 1) := by decide +kernel
theorem dX11_share_79 : decode cX11_share 79 = .ok (.getfield 143, 3) := by decide +kernel
theorem dX11_share_82 : decode cX11_share 82 = .ok (.iload_n 3, 1) := by decide +kernel
theorem dX11_share_83 : decode cX11_share 83 = .ok (.iaload, 1) := by decide +kernel
theorem dX11_share_84 : decode cX11_share 84 = .ok (.ireturn, 1) := by decide +kernel
theorem dX11_share_85 : decode cX11_share 85 = .ok (.iconst 0, 1) := by decide +kernel
theorem dX11_share_86 : decode cX11_share 86 = .ok (.istore 4, 2) := by decide +kernel
theorem dX11_share_88 : decode cX11_share 88 = .ok (.iload 4, 2) := by decide +kernel
theorem dX11_share_90 : decode cX11_share 90 = .ok (.aload_n 0, 1) := by decide +kernel
theorem dX11_share_91 : decode cX11_share 91 = .ok (.getfield 55, 3) := by decide +kernel
theorem dX11_share_94 : decode cX11_share 94 = .ok (.iconst 1, 1) := by decide +kernel
theorem dX11_share_95 : decode cX11_share 95 = .ok (.iaload, 1) := by decide +kernel
theorem dX11_share_96 : decode cX11_share 96 = .ok (.if_icmp .ge 37, 3) := by decide +kernel
theorem dX11_share_99 : decode cX11_share 99 = .ok (.aload_n 0, 1) := by decide +kernel
theorem dX11_share_100 : decode cX11_share 100 = .ok (.iload 4, 2) := by decide +kernel
theorem dX11_share_102 : decode cX11_share 102 = .ok (.iload_n 3, 1) := by decide +kernel
theorem dX11_share_103 : decode cX11_share 103 = .ok (.invokevirtual 463, 3) := by decide +kernel
theorem dX11_share_106 : decode cX11_share 106 = .ok (.istore 5, 2) := by decide +kernel
theorem dX11_share_108 : decode cX11_share 108 = .ok (.iload 5, 2) := by decide +kernel
theorem dX11_share_110 : decode cX11_share 110 = .ok (.iload_n 1, 1) := by decide +kernel
theorem dX11_share_111 : decode cX11_share 111 = .ok (.invokestatic 385, 3) := by decide +kernel
theorem dX11_share_114 : decode cX11_share 114 = .ok (.ifCond .eq 6, 3) := by decide +kernel
theorem dX11_share_117 : decode cX11_share 117 = .ok (.iload 4, 2) := by decide +kernel
theorem dX11_share_119 : decode cX11_share 119 = .ok (.ireturn, 1) := by decide +kernel
theorem dX11_share_120 : decode cX11_share 120 = .ok (.iload_n 3, 1) := by decide +kernel
theorem dX11_share_121 : decode cX11_share 121 = .ok (.iload 5, 2) := by decide +kernel
theorem dX11_share_123 : decode cX11_share 123 = .ok (.iconst (-1), 1) := by decide +kernel
theorem dX11_share_124 : decode cX11_share 124 = .ok (.ixor, 1) := by decide +kernel
theorem dX11_share_125 : decode cX11_share 125 = .ok (.iand, 1) := by decide +kernel
theorem dX11_share_126 : decode cX11_share 126 = .ok (.istore_n 3, 1) := by decide +kernel
theorem dX11_share_127 : decode cX11_share 127 = .ok (.iinc 4 1, 3) := by decide +kernel
theorem dX11_share_130 : decode cX11_share 130 = .ok (.goto (-42), 3) := by decide +kernel
theorem dX11_share_133 : decode cX11_share 133 = .ok (.iconst (-1), 1) := by decide +kernel
theorem dX11_share_134 : decode cX11_share 134 = .ok (.ireturn, 1) := by decide +kernel
theorem dX11_beside_0 : decode cX11_beside 0 = .ok (.aload_n 0, 1) := by decide +kernel
theorem dX11_beside_1 : decode cX11_beside 1 = .ok (.iconst 0, 1) := by decide +kernel
theorem dX11_beside_2 : decode cX11_beside 2 = .ok (.putfield 195, 3) := by decide +kernel
theorem dX11_beside_5 : decode cX11_beside 5 = .ok (.aload_n 0, 1) := by decide +kernel
theorem dX11_beside_6 : decode cX11_beside 6 = .ok (.iload_n 1, 1) := by decide +kernel
theorem dX11_beside_7 : decode cX11_beside 7 = .ok (.invokevirtual 414, 3) := by decide +kernel
theorem dX11_beside_10 : decode cX11_beside 10 = .ok (.ifCond .ne 9, 3) := by decide +kernel
theorem dX11_beside_13 : decode cX11_beside 13 = .ok (.aload_n 0, 1) := by decide +kernel
theorem dX11_beside_14 : decode cX11_beside 14 = .ok (.iconst 1, 1) := by decide +kernel
theorem dX11_beside_15 : decode cX11_beside 15 = .ok (.invokevirtual 329, 3) := by decide +kernel
theorem dX11_beside_18 : decode cX11_beside 18 = .ok (.ireturn, 1) := by decide +kernel
theorem dX11_beside_19 : decode cX11_beside 19 = .ok (.aload_n 0, 1) := by decide +kernel
theorem dX11_beside_20 : decode cX11_beside 20 = .ok (.iload_n 1, 1) := by decide +kernel
theorem dX11_beside_21 : decode cX11_beside 21 = .ok (.invokevirtual 363, 3) := by decide +kernel
theorem dX11_beside_24 : decode cX11_beside 24 = .ok (.istore_n 2, 1) := by decide +kernel
theorem dX11_beside_25 : decode cX11_beside 25 = .ok (.iload_n 2, 1) := by decide +kernel
theorem dX11_beside_26 : decode cX11_beside 26 = .ok (.invokestatic 376, 3) := by decide +kernel
theorem dX11_beside_29 : decode cX11_beside 29 = .ok (.iconst 1, 1) := by decide +kernel
theorem dX11_beside_30 : decode cX11_beside 30 = .ok (.aload_n 0, 1) := by decide +kernel
theorem dX11_beside_31 : decode cX11_beside 31 = .ok (.getfield 55, 3) := by decide +kernel
theorem dX11_beside_34 : decode cX11_beside 34 = .ok (.iconst 0, 1) := by decide +kernel
theorem dX11_beside_35 : decode cX11_beside 35 = .ok (.iaload, 1) := by decide +kernel
theorem dX11_beside_36 : decode cX11_beside 36 = .ok (.ishl, 1) := by decide +kernel
theorem dX11_beside_37 : decode cX11_beside 37 = .ok (.iconst 1, 1) := by decide +kernel
theorem dX11_beside_38 : decode cX11_beside 38 = .ok (.isub, 1) := by decide +kernel
theorem dX11_beside_39 : decode cX11_beside 39 = .ok (.iand, 1) := by decide +kernel
theorem dX11_beside_40 : decode cX11_beside 40 = .ok (.iload_n 2, 1) := by decide +kernel
theorem dX11_beside_41 : decode cX11_beside 41 = .ok (.iconst (-1), 1) := by decide +kernel
theorem dX11_beside_42 : decode cX11_beside 42 = .ok (.ixor, 1) := by decide +kernel
theorem dX11_beside_43 : decode cX11_beside 43 = .ok (.iand, 1) := by decide +kernel
theorem dX11_beside_44 : decode cX11_beside 44 = .ok (.aload_n 0, 1) := by decide +kernel
theorem dX11_beside_45 : decode cX11_beside 45 = .ok (.getfield 344, 3) := by decide +kernel
theorem dX11_beside_48 : decode cX11_beside 48 = .ok (.iconst (-1), 1) := by decide +kernel
theorem dX11_beside_49 : decode cX11_beside 49 = .ok (.ixor, 1) := by decide +kernel
theorem dX11_beside_50 : decode cX11_beside 50 = .ok (.iand, 1) := by decide +kernel
theorem dX11_beside_51 : decode cX11_beside 51 = .ok (.ireturn, 1) := by decide +kernel
theorem dX11_oldest_0 : decode cX11_oldest 0 = .ok (.aload_n 0, 1) := by decide +kernel
theorem dX11_oldest_1 : decode cX11_oldest 1 = .ok (.iconst 0, 1) := by decide +kernel
theorem dX11_oldest_2 : decode cX11_oldest 2 = .ok (.putfield 195, 3) := by decide +kernel
theorem dX11_oldest_5 : decode cX11_oldest 5 = .ok (.iload_n 1, 1) := by decide +kernel
theorem dX11_oldest_6 : decode cX11_oldest 6 = .ok (.ifCond .lt 8, 3) := by decide +kernel
theorem dX11_oldest_9 : decode cX11_oldest 9 = .ok (.iload_n 1, 1) := by decide +kernel
theorem dX11_oldest_10 : decode cX11_oldest 10 = .ok (.iconst 1, 1) := by decide +kernel
theorem dX11_oldest_11 : decode cX11_oldest 11 = .ok (.if_icmp .le 9, 3) := by decide +kernel
theorem dX11_oldest_14 : decode cX11_oldest 14 = .ok (.aload_n 0, 1) := by decide +kernel
theorem dX11_oldest_15 : decode cX11_oldest 15 = .ok (.iconst 1, 1) := by decide +kernel
theorem dX11_oldest_16 : decode cX11_oldest 16 = .ok (.invokevirtual 329, 3) := by decide +kernel
theorem dX11_oldest_19 : decode cX11_oldest 19 = .ok (.ireturn, 1) := by decide +kernel
theorem dX11_oldest_20 : decode cX11_oldest 20 = .ok (.iconst (-1), 1) := by decide +kernel
theorem dX11_oldest_21 : decode cX11_oldest 21 = .ok (.istore_n 2, 1) := by decide +kernel
theorem dX11_oldest_22 : decode cX11_oldest 22 = .ok (.iconst (-1), 1) := by decide +kernel
theorem dX11_oldest_23 : decode cX11_oldest 23 = .ok (.istore_n 3, 1) := by decide +kernel
theorem dX11_oldest_24 : decode cX11_oldest 24 = .ok (.iconst 0, 1) := by decide +kernel
theorem dX11_oldest_25 : decode cX11_oldest 25 = .ok (.istore 4, 2) := by decide +kernel
theorem dX11_oldest_27 : decode cX11_oldest 27 = .ok (.iload 4, 2) := by decide +kernel
theorem dX11_oldest_29 : decode cX11_oldest 29 = .ok (.aload_n 0, 1) := by decide +kernel
theorem dX11_oldest_30 : decode cX11_oldest 30 = .ok (.getfield 55, 3) := by decide +kernel
theorem dX11_oldest_33 : decode cX11_oldest 33 = .ok (.iconst 0, 1) := by decide +kernel
theorem dX11_oldest_34 : decode cX11_oldest 34 = .ok (.iaload, 1) := by decide +kernel
theorem dX11_oldest_35 : decode cX11_oldest 35 = .ok (.if_icmp .ge 61, 3) := by decide +kernel
theorem dX11_oldest_38 : decode cX11_oldest 38 = .ok (.iconst 1, 1) := by decide +kernel
theorem dX11_oldest_39 : decode cX11_oldest 39 = .ok (.aload_n 0, 1) := by decide +kernel
theorem dX11_oldest_40 : decode cX11_oldest 40 = .ok (.iload 4, 2) := by decide +kernel
theorem dX11_oldest_42 : decode cX11_oldest 42 = .ok (.invokevirtual 382, 3) := by decide +kernel
theorem dX11_oldest_45 : decode cX11_oldest 45 = .ok (.aload_n 0, 1) := by decide +kernel
theorem dX11_oldest_46 : decode cX11_oldest 46 = .ok (.getfield 102, 3) := by decide +kernel
theorem dX11_oldest_49 : decode cX11_oldest 49 = .ok (.iload 4, 2) := by decide +kernel
theorem dX11_oldest_51 : decode cX11_oldest 51 = .ok (.iaload, 1) := by decide +kernel
theorem dX11_oldest_52 : decode cX11_oldest 52 = .ok (.isub, 1) := by decide +kernel
theorem dX11_oldest_53 : decode cX11_oldest 53 = .ok (.invokestatic 379, 3) := by decide +kernel
theorem dX11_oldest_56 : decode cX11_oldest 56 = .ok (.istore 5, 2) := by decide +kernel
theorem dX11_oldest_58 : decode cX11_oldest 58 = .ok (.aload_n 0, 1) := by decide +kernel
theorem dX11_oldest_59 : decode cX11_oldest 59 = .ok (.getfield 344, 3) := by decide +kernel
theorem dX11_oldest_62 : decode cX11_oldest 62 = .ok (.iload 4, 2) := by decide +kernel
theorem dX11_oldest_64 : decode cX11_oldest 64 = .ok (.invokestatic 385, 3) := by decide +kernel
theorem dX11_oldest_67 : decode cX11_oldest 67 = .ok (.ifCond .ne 23, 3) := by decide +kernel
theorem dX11_oldest_70 : decode cX11_oldest 70 = .ok (.iload_n 2, 1) := by decide +kernel
theorem dX11_oldest_71 : decode cX11_oldest 71 = .ok (.iconst (-1), 1) := by decide +kernel
theorem dX11_oldest_72 : decode cX11_oldest 72 = .ok (.if_icmp .eq 12, 3) := by decide +kernel
theorem dX11_oldest_75 : decode cX11_oldest 75 = .ok (.iload 5, 2) := by decide +kernel
theorem dX11_oldest_77 : decode cX11_oldest 77 = .ok (.iload_n 3, 1) := by decide +kernel
theorem dX11_oldest_78 : decode cX11_oldest 78 = .ok (.if_icmp .lt 6, 3) := by decide +kernel
theorem dX11_oldest_81 : decode cX11_oldest 81 = .ok (.goto 9, 3) := by decide +kernel
theorem dX11_oldest_84 : decode cX11_oldest 84 = .ok (.iload 4, 2) := by decide +kernel
theorem dX11_oldest_86 : decode cX11_oldest 86 = .ok (.istore_n 2, 1) := by decide +kernel
theorem dX11_oldest_87 : decode cX11_oldest 87 = .ok (.iload 5, 2) := by decide +kernel
theorem dX11_oldest_89 : decode cX11_oldest 89 = .ok (.istore_n 3, 1) := by decide +kernel
theorem dX11_oldest_90 : decode cX11_oldest 90 = .ok (.iinc 4 1, 3) := by decide +kernel
theorem dX11_oldest_93 : decode cX11_oldest 93 = .ok (.goto (-66), 3) := by decide +kernel
theorem dX11_oldest_96 : decode cX11_oldest 96 = .ok (.iload_n 1, 1) := by decide +kernel
theorem dX11_oldest_97 : decode cX11_oldest 97 = .ok (.ifCond .ne 7, 3) := by decide +kernel
theorem dX11_oldest_100 : decode cX11_oldest 100 = .ok (.iload_n 2, 1) := by decide +kernel
theorem dX11_oldest_101 : decode cX11_oldest 101 = .ok (.goto 4, 3) := by decide +kernel
theorem dX11_oldest_104 : decode cX11_oldest 104 = .ok (.iload_n 3, 1) := by decide +kernel
theorem dX11_oldest_105 : decode cX11_oldest 105 = .ok (.ireturn, 1) := by decide +kernel
theorem dX11_envy_0 : decode cX11_envy 0 = .ok (.aload_n 0, 1) := by decide +kernel
theorem dX11_envy_1 : decode cX11_envy 1 = .ok (.iconst 0, 1) := by decide +kernel
theorem dX11_envy_2 : decode cX11_envy 2 = .ok (.putfield 195, 3) := by decide +kernel
theorem dX11_envy_5 : decode cX11_envy 5 = .ok (.aload_n 0, 1) := by decide +kernel
theorem dX11_envy_6 : decode cX11_envy 6 = .ok (.iload_n 1, 1) := by decide +kernel
theorem dX11_envy_7 : decode cX11_envy 7 = .ok (.invokevirtual 414, 3) := by decide +kernel
theorem dX11_envy_10 : decode cX11_envy 10 = .ok (.ifCond .ne 9, 3) := by decide +kernel
theorem dX11_envy_13 : decode cX11_envy 13 = .ok (.aload_n 0, 1) := by decide +kernel
theorem dX11_envy_14 : decode cX11_envy 14 = .ok (.iconst 1, 1) := by decide +kernel
theorem dX11_envy_15 : decode cX11_envy 15 = .ok (.invokevirtual 329, 3) := by decide +kernel
theorem dX11_envy_18 : decode cX11_envy 18 = .ok (.ireturn, 1) := by decide +kernel
theorem dX11_envy_19 : decode cX11_envy 19 = .ok (.aload_n 0, 1) := by decide +kernel
theorem dX11_envy_20 : decode cX11_envy 20 = .ok (.invokevirtual 393, 3) := by decide +kernel
theorem dX11_envy_23 : decode cX11_envy 23 = .ok (.iconst 0, 1) := by decide +kernel
theorem dX11_envy_24 : decode cX11_envy 24 = .ok (.istore_n 2, 1) := by decide +kernel
theorem dX11_envy_25 : decode cX11_envy 25 = .ok (.iconst 0, 1) := by decide +kernel
theorem dX11_envy_26 : decode cX11_envy 26 = .ok (.istore_n 3, 1) := by decide +kernel
theorem dX11_envy_27 : decode cX11_envy 27 = .ok (.iload_n 3, 1) := by decide +kernel
theorem dX11_envy_28 : decode cX11_envy 28 = .ok (.aload_n 0, 1) := by decide +kernel
theorem dX11_envy_29 : decode cX11_envy 29 = .ok (.getfield 55, 3) := by decide +kernel
theorem dX11_envy_32 : decode cX11_envy 32 = .ok (.iconst 0, 1) := by decide +kernel
theorem dX11_envy_33 : decode cX11_envy 33 = .ok (.iaload, 1) := by decide +kernel
theorem dX11_envy_34 : decode cX11_envy 34 = .ok (.if_icmp .ge 59, 3) := by decide +kernel
theorem dX11_envy_37 : decode cX11_envy 37 = .ok (.iload_n 2, 1) := by decide +kernel
theorem dX11_envy_38 : decode cX11_envy 38 = .ok (.aload_n 0, 1) := by decide +kernel
theorem dX11_envy_39 : decode cX11_envy 39 = .ok (.getfield 110, 3) := by decide +kernel
theorem dX11_envy_42 : decode cX11_envy 42 = .ok (.iload_n 3, 1) := by decide +kernel
theorem dX11_envy_43 : decode cX11_envy 43 = .ok (.iaload, 1) := by decide +kernel
theorem dX11_envy_44 : decode cX11_envy 44 = .ok (.iconst (-1), 1) := by decide +kernel
theorem dX11_envy_45 : decode cX11_envy 45 = .ok (.if_icmp .eq 39, 3) := by decide +kernel
theorem dX11_envy_48 : decode cX11_envy 48 = .ok (.aload_n 0, 1) := by decide +kernel
theorem dX11_envy_49 : decode cX11_envy 49 = .ok (.getfield 110, 3) := by decide +kernel
theorem dX11_envy_52 : decode cX11_envy 52 = .ok (.iload_n 3, 1) := by decide +kernel
theorem dX11_envy_53 : decode cX11_envy 53 = .ok (.iaload, 1) := by decide +kernel
theorem dX11_envy_54 : decode cX11_envy 54 = .ok (.iload_n 1, 1) := by decide +kernel
theorem dX11_envy_55 : decode cX11_envy 55 = .ok (.if_icmp .eq 29, 3) := by decide +kernel
theorem dX11_envy_58 : decode cX11_envy 58 = .ok (.aload_n 0, 1) := by decide +kernel
theorem dX11_envy_59 : decode cX11_envy 59 = .ok (.iload_n 3, 1) := by decide +kernel
theorem dX11_envy_60 : decode cX11_envy 60 = .ok (.iload_n 1, 1) := by decide +kernel
theorem dX11_envy_61 : decode cX11_envy 61 = .ok (.invokevirtual 444, 3) := by decide +kernel
theorem dX11_envy_64 : decode cX11_envy 64 = .ok (.aload_n 0, 1) := by decide +kernel
theorem dX11_envy_65 : decode cX11_envy 65 = .ok (.iload_n 3, 1) := by decide +kernel
theorem dX11_envy_66 : decode cX11_envy 66 = .ok (.aload_n 0, 1) := by decide +kernel
theorem dX11_envy_67 : decode cX11_envy 67 = .ok (.getfield 110, 3) := by decide +kernel
theorem dX11_envy_70 : decode cX11_envy 70 = .ok (.iload_n 3, 1) := by decide +kernel
theorem dX11_envy_71 : decode cX11_envy 71 = .ok (.iaload, 1) := by decide +kernel
theorem dX11_envy_72 : decode cX11_envy 72 = .ok (.invokevirtual 444, 3) := by decide +kernel
theorem dX11_envy_75 : decode cX11_envy 75 = .ok (.if_icmp .le 9, 3) := by decide +kernel
theorem dX11_envy_78 : decode cX11_envy 78 = .ok (.iconst 1, 1) := by decide +kernel
theorem dX11_envy_79 : decode cX11_envy 79 = .ok (.iload_n 3, 1) := by decide +kernel
theorem dX11_envy_80 : decode cX11_envy 80 = .ok (.ishl, 1) := by decide +kernel
theorem dX11_envy_81 : decode cX11_envy 81 = .ok (.goto 4, 3) := by decide +kernel
theorem dX11_envy_84 : decode cX11_envy 84 = .ok (.iconst 0, 1) := by decide +kernel
theorem dX11_envy_85 : decode cX11_envy 85 = .ok (.ior, 1) := by decide +kernel
theorem dX11_envy_86 : decode cX11_envy 86 = .ok (.istore_n 2, 1) := by decide +kernel
theorem dX11_envy_87 : decode cX11_envy 87 = .ok (.iinc 3 1, 3) := by decide +kernel
theorem dX11_envy_90 : decode cX11_envy 90 = .ok (.goto (-63), 3) := by decide +kernel
theorem dX11_envy_93 : decode cX11_envy 93 = .ok (.iload_n 2, 1) := by decide +kernel
theorem dX11_envy_94 : decode cX11_envy 94 = .ok (.ireturn, 1) := by decide +kernel
theorem dX11_see_0 : decode cX11_see 0 = .ok (.aload_n 0, 1) := by decide +kernel
theorem dX11_see_1 : decode cX11_see 1 = .ok (.iconst 0, 1) := by decide +kernel
theorem dX11_see_2 : decode cX11_see 2 = .ok (.putfield 195, 3) := by decide +kernel
theorem dX11_see_5 : decode cX11_see 5 = .ok (.aload_n 0, 1) := by decide +kernel
theorem dX11_see_6 : decode cX11_see 6 = .ok (.iload_n 1, 1) := by decide +kernel
theorem dX11_see_7 : decode cX11_see 7 = .ok (.invokevirtual 414, 3) := by decide +kernel
theorem dX11_see_10 : decode cX11_see 10 = .ok (.ifCond .eq 11, 3) := by decide +kernel
theorem dX11_see_13 : decode cX11_see 13 = .ok (.aload_n 0, 1) := by decide +kernel
theorem dX11_see_14 : decode cX11_see 14 = .ok (.iload_n 2, 1) := by decide +kernel
theorem dX11_see_15 : decode cX11_see 15 = .ok (.invokevirtual 411, 3) := by decide +kernel
theorem dX11_see_18 : decode cX11_see 18 = .ok (.ifCond .ne 9, 3) := by decide +kernel
theorem dX11_see_21 : decode cX11_see 21 = .ok (.aload_n 0, 1) := by decide +kernel
theorem dX11_see_22 : decode cX11_see 22 = .ok (.iconst 1, 1) := by decide +kernel
theorem dX11_see_23 : decode cX11_see 23 = .ok (.invokevirtual 329, 3) := by decide +kernel
theorem dX11_see_26 : decode cX11_see 26 = .ok (.ireturn, 1) := by decide +kernel
theorem dX11_see_27 : decode cX11_see 27 = .ok (.aload_n 0, 1) := by decide +kernel
theorem dX11_see_28 : decode cX11_see 28 = .ok (.getfield 353, 3) := by decide +kernel
theorem dX11_see_31 : decode cX11_see 31 = .ok (.bipush 8, 2) := by decide +kernel
theorem dX11_see_33 : decode cX11_see 33 = .ok (.if_icmp .eq 15, 3) := by decide +kernel
theorem dX11_see_36 : decode cX11_see 36 = .ok (.iload_n 3, 1) := by decide +kernel
theorem dX11_see_37 : decode cX11_see 37 = .ok (.i2l, 1) := by decide +kernel
theorem dX11_see_38 : decode cX11_see 38 = .ok (.lconst 1, 1) := by decide +kernel
theorem dX11_see_39 : decode cX11_see 39 = .ok (.ldc2_w 466, 3) := by decide +kernel
theorem dX11_see_42 : decode cX11_see 42 = .ok (.invokestatic 198, 3) := by decide +kernel
theorem dX11_see_45 : decode cX11_see 45 = .ok (.ifCond .ne 9, 3) := by decide +kernel
theorem dX11_see_48 : decode cX11_see 48 = .ok (.aload_n 0, 1) := by decide +kernel
theorem dX11_see_49 : decode cX11_see 49 = .ok (.iconst 2, 1) := by decide +kernel
theorem dX11_see_50 : decode cX11_see 50 = .ok (.invokevirtual 423, 3) := by decide +kernel
theorem dX11_see_53 : decode cX11_see 53 = .ok (.ireturn, 1) := by decide +kernel
theorem dX11_see_54 : decode cX11_see 54 = .ok (.aload_n 0, 1) := by decide +kernel
theorem dX11_see_55 : decode cX11_see 55 = .ok (.getfield 149, 3) := by decide +kernel
theorem dX11_see_58 : decode cX11_see 58 = .ok (.aload_n 0, 1) := by decide +kernel
theorem dX11_see_59 : decode cX11_see 59 = .ok (.getfield 353, 3) := by decide +kernel
theorem dX11_see_62 : decode cX11_see 62 = .ok (.iload_n 1, 1) := by decide +kernel
theorem dX11_see_63 : decode cX11_see 63 = .ok (.iastore, 1) := by decide +kernel
theorem dX11_see_64 : decode cX11_see 64 = .ok (.aload_n 0, 1) := by decide +kernel
theorem dX11_see_65 : decode cX11_see 65 = .ok (.getfield 152, 3) := by decide +kernel
theorem dX11_see_68 : decode cX11_see 68 = .ok (.aload_n 0, 1) := by decide +kernel
theorem dX11_see_69 : decode cX11_see 69 = .ok (.getfield 353, 3) := by decide +kernel
theorem dX11_see_72 : decode cX11_see 72 = .ok (.iload_n 2, 1) := by decide +kernel
theorem dX11_see_73 : decode cX11_see 73 = .ok (.iastore, 1) := by decide +kernel
theorem dX11_see_74 : decode cX11_see 74 = .ok (.aload_n 0, 1) := by decide +kernel
theorem dX11_see_75 : decode cX11_see 75 = .ok (.getfield 155, 3) := by decide +kernel
theorem dX11_see_78 : decode cX11_see 78 = .ok (.aload_n 0, 1) := by decide +kernel
theorem dX11_see_79 : decode cX11_see 79 = .ok (.getfield 353, 3) := by decide +kernel
theorem dX11_see_82 : decode cX11_see 82 = .ok (.iload_n 3, 1) := by decide +kernel
theorem dX11_see_83 : decode cX11_see 83 = .ok (.iastore, 1) := by decide +kernel
theorem dX11_see_84 : decode cX11_see 84 = .ok (.aload_n 0, 1) := by decide +kernel
theorem dX11_see_85 : decode cX11_see 85 = .ok (.getfield 161, 3) := by decide +kernel
theorem dX11_see_88 : decode cX11_see 88 = .ok (.aload_n 0, 1) := by decide +kernel
theorem dX11_see_89 : decode cX11_see 89 = .ok (.getfield 353, 3) := by decide +kernel
theorem dX11_see_92 : decode cX11_see 92 = .ok (.iload 4, 2) := by decide +kernel
theorem dX11_see_94 : decode cX11_see 94 = .ok (.bastore, 1) := by decide +kernel
theorem dX11_see_95 : decode cX11_see 95 = .ok (.aload_n 0, 1) := by decide +kernel
theorem dX11_see_96 : decode cX11_see 96 = .ok (.dup, 1) := by decide +kernel
theorem dX11_see_97 : decode cX11_see 97 = .ok (.getfield 353, 3) := by decide +kernel
theorem dX11_see_100 : decode cX11_see 100 = .ok (.iconst 1, 1) := by decide +kernel
theorem dX11_see_101 : decode cX11_see 101 = .ok (.iadd, 1) := by decide +kernel
theorem dX11_see_102 : decode cX11_see 102 = .ok (.putfield 353, 3) := by decide +kernel
theorem dX11_see_105 : decode cX11_see 105 = .ok (.aload_n 0, 1) := by decide +kernel
theorem dX11_see_106 : decode cX11_see 106 = .ok (.getfield 353, 3) := by decide +kernel
theorem dX11_see_109 : decode cX11_see 109 = .ok (.ireturn, 1) := by decide +kernel
theorem dX11_isAsSeen_0 : decode cX11_isAsSeen 0 = .ok (.aload_n 0, 1) := by decide +kernel
theorem dX11_isAsSeen_1 : decode cX11_isAsSeen 1 = .ok (.aload_n 0, 1) := by decide +kernel
theorem dX11_isAsSeen_2 : decode cX11_isAsSeen 2 = .ok (.getfield 158, 3) := by decide +kernel
theorem dX11_isAsSeen_5 : decode cX11_isAsSeen 5 = .ok (.iconst 0, 1) := by decide +kernel
theorem dX11_isAsSeen_6 : decode cX11_isAsSeen 6 = .ok (.invokevirtual 417, 3) := by decide +kernel
theorem dX11_isAsSeen_9 : decode cX11_isAsSeen 9 = .ok (.iconst 1, 1) := by decide +kernel
theorem dX11_isAsSeen_10 : decode cX11_isAsSeen 10 = .ok (.istore_n 1, 1) := by decide +kernel
theorem dX11_isAsSeen_11 : decode cX11_isAsSeen 11 = .ok (.iconst 1, 1) := by decide +kernel
theorem dX11_isAsSeen_12 : decode cX11_isAsSeen 12 = .ok (.istore_n 2, 1) := by decide +kernel
theorem dX11_isAsSeen_13 : decode cX11_isAsSeen 13 = .ok (.iload_n 2, 1) := by decide +kernel
theorem dX11_isAsSeen_14 : decode cX11_isAsSeen 14 = .ok (.bipush 12, 2) := by decide +kernel
theorem dX11_isAsSeen_16 : decode cX11_isAsSeen 16 = .ok (.if_icmp .gt 87, 3) := by decide +kernel
theorem dX11_isAsSeen_19 : decode cX11_isAsSeen 19 = .ok (.iload_n 1, 1) := by decide +kernel
theorem dX11_isAsSeen_20 : decode cX11_isAsSeen 20 = .ok (.ifCond .eq 83, 3) := by decide +kernel
theorem dX11_isAsSeen_23 : decode cX11_isAsSeen 23 = .ok (.aload_n 0, 1) := by decide +kernel
theorem dX11_isAsSeen_24 : decode cX11_isAsSeen 24 = .ok (.invokevirtual 402, 3) := by decide +kernel
theorem dX11_isAsSeen_27 : decode cX11_isAsSeen 27 = .ok (.iconst 0, 1) := by decide +kernel
theorem dX11_isAsSeen_28 : decode cX11_isAsSeen 28 = .ok (.istore_n 3, 1) := by decide +kernel
theorem dX11_isAsSeen_29 : decode cX11_isAsSeen 29 = .ok (.iload_n 3, 1) := by decide +kernel
theorem dX11_isAsSeen_30 : decode cX11_isAsSeen 30 = .ok (.aload_n 0, 1) := by decide +kernel
theorem dX11_isAsSeen_31 : decode cX11_isAsSeen 31 = .ok (.getfield 353, 3) := by decide +kernel
theorem dX11_isAsSeen_34 : decode cX11_isAsSeen 34 = .ok (.if_icmp .ge 63, 3) := by decide +kernel
theorem dX11_isAsSeen_37 : decode cX11_isAsSeen 37 = .ok (.iload_n 1, 1) := by decide +kernel
theorem dX11_isAsSeen_38 : decode cX11_isAsSeen 38 = .ok (.ifCond .eq 51, 3) := by decide +kernel
theorem dX11_isAsSeen_41 : decode cX11_isAsSeen 41 = .ok (.aload_n 0, 1) := by decide +kernel
theorem dX11_isAsSeen_42 : decode cX11_isAsSeen 42 = .ok (.getfield 155, 3) := by decide +kernel
theorem dX11_isAsSeen_45 : decode cX11_isAsSeen 45 = .ok (.iload_n 3, 1) := by decide +kernel
theorem dX11_isAsSeen_46 : decode cX11_isAsSeen 46 = .ok (.iaload, 1) := by decide +kernel
theorem dX11_isAsSeen_47 : decode cX11_isAsSeen 47 = .ok (.iload_n 2, 1) := by decide +kernel
theorem dX11_isAsSeen_48 : decode cX11_isAsSeen 48 = .ok (.if_icmp .ne 37, 3) := by decide +kernel
theorem dX11_isAsSeen_51 : decode cX11_isAsSeen 51 = .ok (.aload_n 0, 1) := by decide +kernel
theorem dX11_isAsSeen_52 : decode cX11_isAsSeen 52 = .ok (.getfield 110, 3) := by decide +kernel
theorem dX11_isAsSeen_55 : decode cX11_isAsSeen 55 = .ok (.aload_n 0, 1) := by decide +kernel
theorem dX11_isAsSeen_56 : decode cX11_isAsSeen 56 = .ok (.getfield 152, 3) := by decide +kernel
theorem dX11_isAsSeen_59 : decode cX11_isAsSeen 59 = .ok (.iload_n 3, 1) := by decide +kernel
theorem dX11_isAsSeen_60 : decode cX11_isAsSeen 60 = .ok (.iaload, 1) := by decide +kernel
theorem dX11_isAsSeen_61 : decode cX11_isAsSeen 61 = .ok (.iaload, 1) := by decide +kernel
theorem dX11_isAsSeen_62 : decode cX11_isAsSeen 62 = .ok (.aload_n 0, 1) := by decide +kernel
theorem dX11_isAsSeen_63 : decode cX11_isAsSeen 63 = .ok (.getfield 149, 3) := by decide +kernel
theorem dX11_isAsSeen_66 : decode cX11_isAsSeen 66 = .ok (.iload_n 3, 1) := by decide +kernel
theorem dX11_isAsSeen_67 : decode cX11_isAsSeen 67 = .ok (.iaload, 1) := by decide +kernel
theorem dX11_isAsSeen_68 : decode cX11_isAsSeen 68 = .ok (.if_icmp .ne 7, 3) := by decide +kernel
theorem dX11_isAsSeen_71 : decode cX11_isAsSeen 71 = .ok (.iconst 1, 1) := by decide +kernel
theorem dX11_isAsSeen_72 : decode cX11_isAsSeen 72 = .ok (.goto 4, 3) := by decide +kernel
theorem dX11_isAsSeen_75 : decode cX11_isAsSeen 75 = .ok (.iconst 0, 1) := by decide +kernel
theorem dX11_isAsSeen_76 : decode cX11_isAsSeen 76 = .ok (.aload_n 0, 1) := by decide +kernel
theorem dX11_isAsSeen_77 : decode cX11_isAsSeen 77 = .ok (.getfield 161, 3) := by decide +kernel
theorem dX11_isAsSeen_80 : decode cX11_isAsSeen 80 = .ok (.iload_n 3, 1) := by decide +kernel
theorem dX11_isAsSeen_81 : decode cX11_isAsSeen 81 = .ok (.baload, 1) := by decide +kernel
theorem dX11_isAsSeen_82 : decode cX11_isAsSeen 82 = .ok (.if_icmp .ne 7, 3) := by decide +kernel
theorem dX11_isAsSeen_85 : decode cX11_isAsSeen 85 = .ok (.iconst 1, 1) := by decide +kernel
theorem dX11_isAsSeen_86 : decode cX11_isAsSeen 86 = .ok (.goto 4, 3) := by decide +kernel
theorem dX11_isAsSeen_89 : decode cX11_isAsSeen 89 = .ok (.iconst 0, 1) := by decide +kernel
theorem dX11_isAsSeen_90 : decode cX11_isAsSeen 90 = .ok (.istore_n 1, 1) := by decide +kernel
theorem dX11_isAsSeen_91 : decode cX11_isAsSeen 91 = .ok (.iinc 3 1, 3) := by decide +kernel
theorem dX11_isAsSeen_94 : decode cX11_isAsSeen 94 = .ok (.goto (-65), 3) := by decide +kernel
theorem dX11_isAsSeen_97 : decode cX11_isAsSeen 97 = .ok (.iinc 2 1, 3) := by decide +kernel
theorem dX11_isAsSeen_100 : decode cX11_isAsSeen 100 = .ok (.goto (-87), 3) := by decide +kernel
theorem dX11_isAsSeen_103 : decode cX11_isAsSeen 103 = .ok (.aload_n 0, 1) := by decide +kernel
theorem dX11_isAsSeen_104 : decode cX11_isAsSeen 104 = .ok (.aload_n 0, 1) := by decide +kernel
theorem dX11_isAsSeen_105 : decode cX11_isAsSeen 105 = .ok (.getfield 158, 3) := by decide +kernel
theorem dX11_isAsSeen_108 : decode cX11_isAsSeen 108 = .ok (.iconst 0, 1) := by decide +kernel
theorem dX11_isAsSeen_109 : decode cX11_isAsSeen 109 = .ok (.invokevirtual 439, 3) := by decide +kernel
theorem dX11_isAsSeen_112 : decode cX11_isAsSeen 112 = .ok (.iload_n 1, 1) := by decide +kernel
theorem dX11_isAsSeen_113 : decode cX11_isAsSeen 113 = .ok (.ireturn, 1) := by decide +kernel
theorem dX11_tellFits_0 : decode cX11_tellFits 0 = .ok (.aload_n 0, 1) := by decide +kernel
theorem dX11_tellFits_1 : decode cX11_tellFits 1 = .ok (.iconst 0, 1) := by decide +kernel
theorem dX11_tellFits_2 : decode cX11_tellFits 2 = .ok (.putfield 468, 3) := by decide +kernel
theorem dX11_tellFits_5 : decode cX11_tellFits 5 = .ok (.iconst 0, 1) := by decide +kernel
theorem dX11_tellFits_6 : decode cX11_tellFits 6 = .ok (.istore_n 1, 1) := by decide +kernel
theorem dX11_tellFits_7 : decode cX11_tellFits 7 = .ok (.iload_n 1, 1) := by decide +kernel
theorem dX11_tellFits_8 : decode cX11_tellFits 8 = .ok (.aload_n 0, 1) := by decide +kernel
theorem dX11_tellFits_9 : decode cX11_tellFits 9 = .ok (.getfield 55, 3) := by decide +kernel
theorem dX11_tellFits_12 : decode cX11_tellFits 12 = .ok (.iconst 1, 1) := by decide +kernel
theorem dX11_tellFits_13 : decode cX11_tellFits 13 = .ok (.iaload, 1) := by decide +kernel
theorem dX11_tellFits_14 : decode cX11_tellFits 14 = .ok (.if_icmp .ge 84, 3) := by decide +kernel
theorem dX11_tellFits_17 : decode cX11_tellFits 17 = .ok (.aload_n 0, 1) := by decide +kernel
theorem dX11_tellFits_18 : decode cX11_tellFits 18 = .ok (.getfield 115, 3) := by decide +kernel
theorem dX11_tellFits_21 : decode cX11_tellFits 21 = .ok (.iload_n 1, 1) := by decide +kernel
theorem dX11_tellFits_22 : decode cX11_tellFits 22 = .ok (.iaload, 1) := by decide +kernel
theorem dX11_tellFits_23 : decode cX11_tellFits 23 = .ok (.istore_n 2, 1) := by decide +kernel
theorem dX11_tellFits_24 : decode cX11_tellFits 24 = .ok (.iconst 0, 1) := by decide +kernel
theorem dX11_tellFits_25 : decode cX11_tellFits 25 = .ok (.istore_n 3, 1) := by decide +kernel
theorem dX11_tellFits_26 : decode cX11_tellFits 26 = .ok (.iload_n 3, 1) := by decide +kernel
theorem dX11_tellFits_27 : decode cX11_tellFits 27 = .ok (.bipush 20, 2) := by decide +kernel
theorem dX11_tellFits_29 : decode cX11_tellFits 29 = .ok (.if_icmp .gt 56, 3) := by decide +kernel
theorem dX11_tellFits_32 : decode cX11_tellFits 32 = .ok (.aload_n 0, 1) := by decide +kernel
theorem dX11_tellFits_33 : decode cX11_tellFits 33 = .ok (.getfield 115, 3) := by decide +kernel
theorem dX11_tellFits_36 : decode cX11_tellFits 36 = .ok (.iload_n 1, 1) := by decide +kernel
theorem dX11_tellFits_37 : decode cX11_tellFits 37 = .ok (.iload_n 3, 1) := by decide +kernel
theorem dX11_tellFits_38 : decode cX11_tellFits 38 = .ok (.iastore, 1) := by decide +kernel
theorem dX11_tellFits_39 : decode cX11_tellFits 39 = .ok (.iload_n 3, 1) := by decide +kernel
theorem dX11_tellFits_40 : decode cX11_tellFits 40 = .ok (.iload_n 2, 1) := by decide +kernel
theorem dX11_tellFits_41 : decode cX11_tellFits 41 = .ok (.if_icmp .eq 38, 3) := by decide +kernel
theorem dX11_tellFits_44 : decode cX11_tellFits 44 = .ok (.aload_n 0, 1) := by decide +kernel
theorem dX11_tellFits_45 : decode cX11_tellFits 45 = .ok (.invokevirtual 471, 3) := by decide +kernel
theorem dX11_tellFits_48 : decode cX11_tellFits 48 = .ok (.ifCond .ne 6, 3) := by decide +kernel
theorem dX11_tellFits_51 : decode cX11_tellFits 51 = .ok (.goto 28, 3) := by decide +kernel
theorem dX11_tellFits_54 : decode cX11_tellFits 54 = .ok (.aload_n 0, 1) := by decide +kernel
theorem dX11_tellFits_55 : decode cX11_tellFits 55 = .ok (.getfield 165, 3) := by decide +kernel
theorem dX11_tellFits_58 : decode cX11_tellFits 58 = .ok (.aload_n 0, 1) := by decide +kernel
theorem dX11_tellFits_59 : decode cX11_tellFits 59 = .ok (.getfield 468, 3) := by decide +kernel
theorem dX11_tellFits_62 : decode cX11_tellFits 62 = .ok (.bipush 100, 2) := by decide +kernel
theorem dX11_tellFits_64 : decode cX11_tellFits 64 = .ok (.iload_n 1, 1) := by decide +kernel
theorem dX11_tellFits_65 : decode cX11_tellFits 65 = .ok (.imul, 1) := by decide +kernel
theorem dX11_tellFits_66 : decode cX11_tellFits 66 = .ok (.iload_n 3, 1) := by decide +kernel
theorem dX11_tellFits_67 : decode cX11_tellFits 67 = .ok (.iadd, 1) := by decide +kernel
theorem dX11_tellFits_68 : decode cX11_tellFits 68 = .ok (.iastore, 1) := by decide +kernel
theorem dX11_tellFits_69 : decode cX11_tellFits 69 = .ok (.aload_n 0, 1) := by decide +kernel
theorem dX11_tellFits_70 : decode cX11_tellFits 70 = .ok (.dup, 1) := by decide +kernel
theorem dX11_tellFits_71 : decode cX11_tellFits 71 = .ok (.getfield 468, 3) := by decide +kernel
theorem dX11_tellFits_74 : decode cX11_tellFits 74 = .ok (.iconst 1, 1) := by decide +kernel
theorem dX11_tellFits_75 : decode cX11_tellFits 75 = .ok (.iadd, 1) := by decide +kernel
theorem dX11_tellFits_76 : decode cX11_tellFits 76 = .ok (.putfield 468, 3) := by decide +kernel
theorem dX11_tellFits_79 : decode cX11_tellFits 79 = .ok (.iinc 3 1, 3) := by decide +kernel
theorem dX11_tellFits_82 : decode cX11_tellFits 82 = .ok (.goto (-56), 3) := by decide +kernel
theorem dX11_tellFits_85 : decode cX11_tellFits 85 = .ok (.aload_n 0, 1) := by decide +kernel
theorem dX11_tellFits_86 : decode cX11_tellFits 86 = .ok (.getfield 115, 3) := by decide +kernel
theorem dX11_tellFits_89 : decode cX11_tellFits 89 = .ok (.iload_n 1, 1) := by decide +kernel
theorem dX11_tellFits_90 : decode cX11_tellFits 90 = .ok (.iload_n 2, 1) := by decide +kernel
theorem dX11_tellFits_91 : decode cX11_tellFits 91 = .ok (.iastore, 1) := by decide +kernel
theorem dX11_tellFits_92 : decode cX11_tellFits 92 = .ok (.iinc 1 1, 3) := by decide +kernel
theorem dX11_tellFits_95 : decode cX11_tellFits 95 = .ok (.goto (-88), 3) := by decide +kernel
theorem dX11_tellFits_98 : decode cX11_tellFits 98 = .ok (.return_, 1) := by decide +kernel
theorem dX11_pockets_0 : decode cX11_pockets 0 = .ok (.aload_n 0, 1) := by decide +kernel
theorem dX11_pockets_1 : decode cX11_pockets 1 = .ok (.iconst 0, 1) := by decide +kernel
theorem dX11_pockets_2 : decode cX11_pockets 2 = .ok (.putfield 195, 3) := by decide +kernel
theorem dX11_pockets_5 : decode cX11_pockets 5 = .ok (.iload_n 1, 1) := by decide +kernel
theorem dX11_pockets_6 : decode cX11_pockets 6 = .ok (.i2l, 1) := by decide +kernel
theorem dX11_pockets_7 : decode cX11_pockets 7 = .ok (.lconst 0, 1) := by decide +kernel
theorem dX11_pockets_8 : decode cX11_pockets 8 = .ok (.ldc2_w 475, 3) := by decide +kernel
theorem dX11_pockets_11 : decode cX11_pockets 11 = .ok (.invokestatic 198, 3) := by decide +kernel
theorem dX11_pockets_14 : decode cX11_pockets 14 = .ok (.ifCond .ne 9, 3) := by decide +kernel
theorem dX11_pockets_17 : decode cX11_pockets 17 = .ok (.aload_n 0, 1) := by decide +kernel
theorem dX11_pockets_18 : decode cX11_pockets 18 = .ok (.iconst 1, 1) := by decide +kernel
theorem dX11_pockets_19 : decode cX11_pockets 19 = .ok (.invokevirtual 329, 3) := by decide +kernel
theorem dX11_pockets_22 : decode cX11_pockets 22 = .ok (.ireturn, 1) := by decide +kernel
theorem dX11_pockets_23 : decode cX11_pockets 23 = .ok (.iload_n 1, 1) := by decide +kernel
theorem dX11_pockets_24 : decode cX11_pockets 24 = .ok (.iconst 2, 1) := by decide +kernel
theorem dX11_pockets_25 : decode cX11_pockets 25 = .ok (.if_icmp .ne 16, 3) := by decide +kernel
theorem dX11_pockets_28 : decode cX11_pockets 28 = .ok (.aload_n 0, 1) := by decide +kernel
theorem dX11_pockets_29 : decode cX11_pockets 29 = .ok (.invokevirtual 471, 3) := by decide +kernel
theorem dX11_pockets_32 : decode cX11_pockets 32 = .ok (.ifCond .eq 7, 3) := by decide +kernel
theorem dX11_pockets_35 : decode cX11_pockets 35 = .ok (.iconst 1, 1) := by decide +kernel
theorem dX11_pockets_36 : decode cX11_pockets 36 = .ok (.goto 4, 3) := by decide +kernel
theorem dX11_pockets_39 : decode cX11_pockets 39 = .ok (.iconst 0, 1) := by decide +kernel
theorem dX11_pockets_40 : decode cX11_pockets 40 = .ok (.ireturn, 1) := by decide +kernel
theorem dX11_pockets_41 : decode cX11_pockets 41 = .ok (.aload_n 0, 1) := by decide +kernel
theorem dX11_pockets_42 : decode cX11_pockets 42 = .ok (.invokevirtual 477, 3) := by decide +kernel
theorem dX11_pockets_45 : decode cX11_pockets 45 = .ok (.iload_n 1, 1) := by decide +kernel
theorem dX11_pockets_46 : decode cX11_pockets 46 = .ok (.ifCond .ne 10, 3) := by decide +kernel
theorem dX11_pockets_49 : decode cX11_pockets 49 = .ok (.aload_n 0, 1) := by decide +kernel
theorem dX11_pockets_50 : decode cX11_pockets 50 = .ok (.getfield 468, 3) := by decide +kernel
theorem dX11_pockets_53 : decode cX11_pockets 53 = .ok (.goto 20, 3) := by decide +kernel
theorem dX11_pockets_56 : decode cX11_pockets 56 = .ok (.aload_n 0, 1) := by decide +kernel
theorem dX11_pockets_57 : decode cX11_pockets 57 = .ok (.getfield 468, 3) := by decide +kernel
theorem dX11_pockets_60 : decode cX11_pockets 60 = .ok (.ifCond .ne 7, 3) := by decide +kernel
theorem dX11_pockets_63 : decode cX11_pockets 63 = .ok (.iconst (-1), 1) := by decide +kernel
theorem dX11_pockets_64 : decode cX11_pockets 64 = .ok (.goto 9, 3) := by decide +kernel
theorem dX11_pockets_67 : decode cX11_pockets 67 = .ok (.aload_n 0, 1) := by decide +kernel
theorem dX11_pockets_68 : decode cX11_pockets 68 = .ok (.getfield 165, 3) := by decide +kernel
theorem dX11_pockets_71 : decode cX11_pockets 71 = .ok (.iconst 0, 1) := by decide +kernel
theorem dX11_pockets_72 : decode cX11_pockets 72 = .ok (.iaload, 1) := by decide +kernel
theorem dX11_pockets_73 : decode cX11_pockets 73 = .ok (.ireturn, 1) := by decide +kernel
theorem dX11_unlike_0 : decode cX11_unlike 0 = .ok (.iconst 0, 1) := by decide +kernel
theorem dX11_unlike_1 : decode cX11_unlike 1 = .ok (.istore_n 2, 1) := by decide +kernel
theorem dX11_unlike_2 : decode cX11_unlike 2 = .ok (.iconst 0, 1) := by decide +kernel
theorem dX11_unlike_3 : decode cX11_unlike 3 = .ok (.istore_n 3, 1) := by decide +kernel
theorem dX11_unlike_4 : decode cX11_unlike 4 = .ok (.iload_n 3, 1) := by decide +kernel
theorem dX11_unlike_5 : decode cX11_unlike 5 = .ok (.aload_n 0, 1) := by decide +kernel
theorem dX11_unlike_6 : decode cX11_unlike 6 = .ok (.getfield 468, 3) := by decide +kernel
theorem dX11_unlike_9 : decode cX11_unlike 9 = .ok (.if_icmp .ge 78, 3) := by decide +kernel
theorem dX11_unlike_12 : decode cX11_unlike 12 = .ok (.iconst 1, 1) := by decide +kernel
theorem dX11_unlike_13 : decode cX11_unlike 13 = .ok (.istore 4, 2) := by decide +kernel
theorem dX11_unlike_15 : decode cX11_unlike 15 = .ok (.iconst 0, 1) := by decide +kernel
theorem dX11_unlike_16 : decode cX11_unlike 16 = .ok (.istore 5, 2) := by decide +kernel
theorem dX11_unlike_18 : decode cX11_unlike 18 = .ok (.iload 5, 2) := by decide +kernel
theorem dX11_unlike_20 : decode cX11_unlike 20 = .ok (.iload_n 3, 1) := by decide +kernel
theorem dX11_unlike_21 : decode cX11_unlike 21 = .ok (.if_icmp .ge 47, 3) := by decide +kernel
theorem dX11_unlike_24 : decode cX11_unlike 24 = .ok (.iload 4, 2) := by decide +kernel
theorem dX11_unlike_26 : decode cX11_unlike 26 = .ok (.ifCond .eq 42, 3) := by decide +kernel
theorem dX11_unlike_29 : decode cX11_unlike 29 = .ok (.aload_n 0, 1) := by decide +kernel
theorem dX11_unlike_30 : decode cX11_unlike 30 = .ok (.getfield 168, 3) := by decide +kernel
theorem dX11_unlike_33 : decode cX11_unlike 33 = .ok (.bipush 8, 2) := by decide +kernel
theorem dX11_unlike_35 : decode cX11_unlike 35 = .ok (.iload 5, 2) := by decide +kernel
theorem dX11_unlike_37 : decode cX11_unlike 37 = .ok (.imul, 1) := by decide +kernel
theorem dX11_unlike_38 : decode cX11_unlike 38 = .ok (.iload_n 1, 1) := by decide +kernel
theorem dX11_unlike_39 : decode cX11_unlike 39 = .ok (.iadd, 1) := by decide +kernel
theorem dX11_unlike_40 : decode cX11_unlike 40 = .ok (.iaload, 1) := by decide +kernel
theorem dX11_unlike_41 : decode cX11_unlike 41 = .ok (.aload_n 0, 1) := by decide +kernel
theorem dX11_unlike_42 : decode cX11_unlike 42 = .ok (.getfield 168, 3) := by decide +kernel
theorem dX11_unlike_45 : decode cX11_unlike 45 = .ok (.bipush 8, 2) := by decide +kernel
theorem dX11_unlike_47 : decode cX11_unlike 47 = .ok (.iload_n 3, 1) := by decide +kernel
theorem dX11_unlike_48 : decode cX11_unlike 48 = .ok (.imul, 1) := by decide +kernel
theorem dX11_unlike_49 : decode cX11_unlike 49 = .ok (.iload_n 1, 1) := by decide +kernel
theorem dX11_unlike_50 : decode cX11_unlike 50 = .ok (.iadd, 1) := by decide +kernel
theorem dX11_unlike_51 : decode cX11_unlike 51 = .ok (.iaload, 1) := by decide +kernel
theorem dX11_unlike_52 : decode cX11_unlike 52 = .ok (.if_icmp .eq 7, 3) := by decide +kernel
theorem dX11_unlike_55 : decode cX11_unlike 55 = .ok (.iconst 1, 1) := by decide +kernel
theorem dX11_unlike_56 : decode cX11_unlike 56 = .ok (.goto 4, 3) := by decide +kernel
theorem dX11_unlike_59 : decode cX11_unlike 59 = .ok (.iconst 0, 1) := by decide +kernel
theorem dX11_unlike_60 : decode cX11_unlike 60 = .ok (.istore 4, 2) := by decide +kernel
theorem dX11_unlike_62 : decode cX11_unlike 62 = .ok (.iinc 5 1, 3) := by decide +kernel
theorem dX11_unlike_65 : decode cX11_unlike 65 = .ok (.goto (-47), 3) := by decide +kernel
theorem dX11_unlike_68 : decode cX11_unlike 68 = .ok (.iload_n 2, 1) := by decide +kernel
theorem dX11_unlike_69 : decode cX11_unlike 69 = .ok (.iload 4, 2) := by decide +kernel
theorem dX11_unlike_71 : decode cX11_unlike 71 = .ok (.ifCond .eq 7, 3) := by decide +kernel
theorem dX11_unlike_74 : decode cX11_unlike 74 = .ok (.iconst 1, 1) := by decide +kernel
theorem dX11_unlike_75 : decode cX11_unlike 75 = .ok (.goto 4, 3) := by decide +kernel
theorem dX11_unlike_78 : decode cX11_unlike 78 = .ok (.iconst 0, 1) := by decide +kernel
theorem dX11_unlike_79 : decode cX11_unlike 79 = .ok (.iadd, 1) := by decide +kernel
theorem dX11_unlike_80 : decode cX11_unlike 80 = .ok (.istore_n 2, 1) := by decide +kernel
theorem dX11_unlike_81 : decode cX11_unlike 81 = .ok (.iinc 3 1, 3) := by decide +kernel
theorem dX11_unlike_84 : decode cX11_unlike 84 = .ok (.goto (-80), 3) := by decide +kernel
theorem dX11_unlike_87 : decode cX11_unlike 87 = .ok (.iload_n 2, 1) := by decide +kernel
theorem dX11_unlike_88 : decode cX11_unlike 88 = .ok (.ireturn, 1) := by decide +kernel
theorem dX11_look_0 : decode cX11_look 0 = .ok (.aload_n 0, 1) := by decide +kernel
theorem dX11_look_1 : decode cX11_look 1 = .ok (.iconst 0, 1) := by decide +kernel
theorem dX11_look_2 : decode cX11_look 2 = .ok (.putfield 195, 3) := by decide +kernel
theorem dX11_look_5 : decode cX11_look 5 = .ok (.iload_n 1, 1) := by decide +kernel
theorem dX11_look_6 : decode cX11_look 6 = .ok (.ifCond .lt 8, 3) := by decide +kernel
theorem dX11_look_9 : decode cX11_look 9 = .ok (.iload_n 1, 1) := by decide +kernel
theorem dX11_look_10 : decode cX11_look 10 = .ok (.iconst 1, 1) := by decide +kernel
theorem dX11_look_11 : decode cX11_look 11 = .ok (.if_icmp .le 9, 3) := by decide +kernel
theorem dX11_look_14 : decode cX11_look 14 = .ok (.aload_n 0, 1) := by decide +kernel
theorem dX11_look_15 : decode cX11_look 15 = .ok (.iconst 1, 1) := by decide +kernel
theorem dX11_look_16 : decode cX11_look 16 = .ok (.invokevirtual 329, 3) := by decide +kernel
theorem dX11_look_19 : decode cX11_look 19 = .ok (.ireturn, 1) := by decide +kernel
theorem dX11_look_20 : decode cX11_look 20 = .ok (.aload_n 0, 1) := by decide +kernel
theorem dX11_look_21 : decode cX11_look 21 = .ok (.invokevirtual 477, 3) := by decide +kernel
theorem dX11_look_24 : decode cX11_look 24 = .ok (.aload_n 0, 1) := by decide +kernel
theorem dX11_look_25 : decode cX11_look 25 = .ok (.aload_n 0, 1) := by decide +kernel
theorem dX11_look_26 : decode cX11_look 26 = .ok (.getfield 140, 3) := by decide +kernel
theorem dX11_look_29 : decode cX11_look 29 = .ok (.iconst 0, 1) := by decide +kernel
theorem dX11_look_30 : decode cX11_look 30 = .ok (.invokevirtual 417, 3) := by decide +kernel
theorem dX11_look_33 : decode cX11_look 33 = .ok (.iconst 0, 1) := by decide +kernel
theorem dX11_look_34 : decode cX11_look 34 = .ok (.istore_n 2, 1) := by decide +kernel
theorem dX11_look_35 : decode cX11_look 35 = .ok (.iload_n 2, 1) := by decide +kernel
theorem dX11_look_36 : decode cX11_look 36 = .ok (.aload_n 0, 1) := by decide +kernel
theorem dX11_look_37 : decode cX11_look 37 = .ok (.getfield 468, 3) := by decide +kernel
theorem dX11_look_40 : decode cX11_look 40 = .ok (.if_icmp .ge 76, 3) := by decide +kernel
theorem dX11_look_43 : decode cX11_look 43 = .ok (.aload_n 0, 1) := by decide +kernel
theorem dX11_look_44 : decode cX11_look 44 = .ok (.getfield 115, 3) := by decide +kernel
theorem dX11_look_47 : decode cX11_look 47 = .ok (.aload_n 0, 1) := by decide +kernel
theorem dX11_look_48 : decode cX11_look 48 = .ok (.getfield 165, 3) := by decide +kernel
theorem dX11_look_51 : decode cX11_look 51 = .ok (.iload_n 2, 1) := by decide +kernel
theorem dX11_look_52 : decode cX11_look 52 = .ok (.iaload, 1) := by decide +kernel
theorem dX11_look_53 : decode cX11_look 53 = .ok (.bipush 100, 2) := by decide +kernel
theorem dX11_look_55 : decode cX11_look 55 = .ok (.idiv, 1) := by decide +kernel
theorem dX11_look_56 : decode cX11_look 56 = .ok (.aload_n 0, 1) := by decide +kernel
theorem dX11_look_57 : decode cX11_look 57 = .ok (.getfield 165, 3) := by decide +kernel
theorem dX11_look_60 : decode cX11_look 60 = .ok (.iload_n 2, 1) := by decide +kernel
theorem dX11_look_61 : decode cX11_look 61 = .ok (.iaload, 1) := by decide +kernel
theorem dX11_look_62 : decode cX11_look 62 = .ok (.bipush 100, 2) := by decide +kernel
theorem dX11_look_64 : decode cX11_look 64 = .ok (.irem, 1) := by decide +kernel
theorem dX11_look_65 : decode cX11_look 65 = .ok (.iastore, 1) := by decide +kernel
theorem dX11_look_66 : decode cX11_look 66 = .ok (.aload_n 0, 1) := by decide +kernel
theorem dX11_look_67 : decode cX11_look 67 = .ok (.invokevirtual 402, 3) := by decide +kernel
theorem dX11_look_70 : decode cX11_look 70 = .ok (.iconst 0, 1) := by decide +kernel
theorem dX11_look_71 : decode cX11_look 71 = .ok (.istore_n 3, 1) := by decide +kernel
theorem dX11_look_72 : decode cX11_look 72 = .ok (.iload_n 3, 1) := by decide +kernel
theorem dX11_look_73 : decode cX11_look 73 = .ok (.bipush 8, 2) := by decide +kernel
theorem dX11_look_75 : decode cX11_look 75 = .ok (.if_icmp .ge 26, 3) := by decide +kernel
theorem dX11_look_78 : decode cX11_look 78 = .ok (.aload_n 0, 1) := by decide +kernel
theorem dX11_look_79 : decode cX11_look 79 = .ok (.getfield 168, 3) := by decide +kernel
theorem dX11_look_82 : decode cX11_look 82 = .ok (.bipush 8, 2) := by decide +kernel
theorem dX11_look_84 : decode cX11_look 84 = .ok (.iload_n 2, 1) := by decide +kernel
theorem dX11_look_85 : decode cX11_look 85 = .ok (.imul, 1) := by decide +kernel
theorem dX11_look_86 : decode cX11_look 86 = .ok (.iload_n 3, 1) := by decide +kernel
theorem dX11_look_87 : decode cX11_look 87 = .ok (.iadd, 1) := by decide +kernel
theorem dX11_look_88 : decode cX11_look 88 = .ok (.aload_n 0, 1) := by decide +kernel
theorem dX11_look_89 : decode cX11_look 89 = .ok (.getfield 110, 3) := by decide +kernel
theorem dX11_look_92 : decode cX11_look 92 = .ok (.iload_n 3, 1) := by decide +kernel
theorem dX11_look_93 : decode cX11_look 93 = .ok (.iaload, 1) := by decide +kernel
theorem dX11_look_94 : decode cX11_look 94 = .ok (.iastore, 1) := by decide +kernel
theorem dX11_look_95 : decode cX11_look 95 = .ok (.iinc 3 1, 3) := by decide +kernel
theorem dX11_look_98 : decode cX11_look 98 = .ok (.goto (-26), 3) := by decide +kernel
theorem dX11_look_101 : decode cX11_look 101 = .ok (.aload_n 0, 1) := by decide +kernel
theorem dX11_look_102 : decode cX11_look 102 = .ok (.aload_n 0, 1) := by decide +kernel
theorem dX11_look_103 : decode cX11_look 103 = .ok (.getfield 140, 3) := by decide +kernel
theorem dX11_look_106 : decode cX11_look 106 = .ok (.iconst 0, 1) := by decide +kernel
theorem dX11_look_107 : decode cX11_look 107 = .ok (.invokevirtual 439, 3) := by decide +kernel
theorem dX11_look_110 : decode cX11_look 110 = .ok (.iinc 2 1, 3) := by decide +kernel
theorem dX11_look_113 : decode cX11_look 113 = .ok (.goto (-78), 3) := by decide +kernel
theorem dX11_look_116 : decode cX11_look 116 = .ok (.iconst (-1), 1) := by decide +kernel
theorem dX11_look_117 : decode cX11_look 117 = .ok (.istore_n 2, 1) := by decide +kernel
theorem dX11_look_118 : decode cX11_look 118 = .ok (.iconst 0, 1) := by decide +kernel
theorem dX11_look_119 : decode cX11_look 119 = .ok (.istore_n 3, 1) := by decide +kernel
theorem dX11_look_120 : decode cX11_look 120 = .ok (.iconst 0, 1) := by decide +kernel
theorem dX11_look_121 : decode cX11_look 121 = .ok (.istore 4, 2) := by decide +kernel
theorem dX11_look_123 : decode cX11_look 123 = .ok (.iload 4, 2) := by decide +kernel
theorem dX11_look_125 : decode cX11_look 125 = .ok (.aload_n 0, 1) := by decide +kernel
theorem dX11_look_126 : decode cX11_look 126 = .ok (.getfield 55, 3) := by decide +kernel
theorem dX11_look_129 : decode cX11_look 129 = .ok (.iconst 0, 1) := by decide +kernel
theorem dX11_look_130 : decode cX11_look 130 = .ok (.iaload, 1) := by decide +kernel
theorem dX11_look_131 : decode cX11_look 131 = .ok (.if_icmp .ge 32, 3) := by decide +kernel
theorem dX11_look_134 : decode cX11_look 134 = .ok (.aload_n 0, 1) := by decide +kernel
theorem dX11_look_135 : decode cX11_look 135 = .ok (.iload 4, 2) := by decide +kernel
theorem dX11_look_137 : decode cX11_look 137 = .ok (.invokevirtual 480, 3) := by decide +kernel
theorem dX11_look_140 : decode cX11_look 140 = .ok (.istore 5, 2) := by decide +kernel
theorem dX11_look_142 : decode cX11_look 142 = .ok (.iload 5, 2) := by decide +kernel
theorem dX11_look_144 : decode cX11_look 144 = .ok (.iload_n 3, 1) := by decide +kernel
theorem dX11_look_145 : decode cX11_look 145 = .ok (.if_icmp .gt 6, 3) := by decide +kernel
theorem dX11_look_148 : decode cX11_look 148 = .ok (.goto 9, 3) := by decide +kernel
theorem dX11_look_151 : decode cX11_look 151 = .ok (.iload 4, 2) := by decide +kernel
theorem dX11_look_153 : decode cX11_look 153 = .ok (.istore_n 2, 1) := by decide +kernel
theorem dX11_look_154 : decode cX11_look 154 = .ok (.iload 5, 2) := by decide +kernel
theorem dX11_look_156 : decode cX11_look 156 = .ok (.istore_n 3, 1) := by decide +kernel
theorem dX11_look_157 : decode cX11_look 157 = .ok (.iinc 4 1, 3) := by decide +kernel
theorem dX11_look_160 : decode cX11_look 160 = .ok (.goto (-37), 3) := by decide +kernel
theorem dX11_look_163 : decode cX11_look 163 = .ok (.iload_n 1, 1) := by decide +kernel
theorem dX11_look_164 : decode cX11_look 164 = .ok (.ifCond .ne 7, 3) := by decide +kernel
theorem dX11_look_167 : decode cX11_look 167 = .ok (.iload_n 2, 1) := by decide +kernel
theorem dX11_look_168 : decode cX11_look 168 = .ok (.goto 4, 3) := by decide +kernel
theorem dX11_look_171 : decode cX11_look 171 = .ok (.iload_n 3, 1) := by decide +kernel
theorem dX11_look_172 : decode cX11_look 172 = .ok (.ireturn, 1) := by decide +kernel
theorem dX11_forget_0 : decode cX11_forget 0 = .ok (.aload_n 0, 1) := by decide +kernel
theorem dX11_forget_1 : decode cX11_forget 1 = .ok (.iconst 0, 1) := by decide +kernel
theorem dX11_forget_2 : decode cX11_forget 2 = .ok (.putfield 195, 3) := by decide +kernel
theorem dX11_forget_5 : decode cX11_forget 5 = .ok (.aload_n 0, 1) := by decide +kernel
theorem dX11_forget_6 : decode cX11_forget 6 = .ok (.iconst 0, 1) := by decide +kernel
theorem dX11_forget_7 : decode cX11_forget 7 = .ok (.putfield 353, 3) := by decide +kernel
theorem dX11_forget_10 : decode cX11_forget 10 = .ok (.return_, 1) := by decide +kernel
theorem dX11_rents_0 : decode cX11_rents 0 = .ok (.iconst 0, 1) := by decide +kernel
theorem dX11_rents_1 : decode cX11_rents 1 = .ok (.istore_n 2, 1) := by decide +kernel
theorem dX11_rents_2 : decode cX11_rents 2 = .ok (.iconst 0, 1) := by decide +kernel
theorem dX11_rents_3 : decode cX11_rents 3 = .ok (.istore_n 3, 1) := by decide +kernel
theorem dX11_rents_4 : decode cX11_rents 4 = .ok (.iload_n 3, 1) := by decide +kernel
theorem dX11_rents_5 : decode cX11_rents 5 = .ok (.aload_n 0, 1) := by decide +kernel
theorem dX11_rents_6 : decode cX11_rents 6 = .ok (.getfield 55, 3) := by decide +kernel
theorem dX11_rents_9 : decode cX11_rents 9 = .ok (.iconst 0, 1) := by decide +kernel
theorem dX11_rents_10 : decode cX11_rents 10 = .ok (.iaload, 1) := by decide +kernel
theorem dX11_rents_11 : decode cX11_rents 11 = .ok (.if_icmp .ge 30, 3) := by decide +kernel
theorem dX11_rents_14 : decode cX11_rents 14 = .ok (.iload_n 2, 1) := by decide +kernel
theorem dX11_rents_15 : decode cX11_rents 15 = .ok (.iload_n 1, 1) := by decide +kernel
theorem dX11_rents_16 : decode cX11_rents 16 = .ok (.iload_n 3, 1) := by decide +kernel
theorem dX11_rents_17 : decode cX11_rents 17 = .ok (.invokestatic 385, 3) := by decide +kernel
theorem dX11_rents_20 : decode cX11_rents 20 = .ok (.ifCond .eq 12, 3) := by decide +kernel
theorem dX11_rents_23 : decode cX11_rents 23 = .ok (.aload_n 0, 1) := by decide +kernel
theorem dX11_rents_24 : decode cX11_rents 24 = .ok (.getfield 59, 3) := by decide +kernel
theorem dX11_rents_27 : decode cX11_rents 27 = .ok (.iload_n 3, 1) := by decide +kernel
theorem dX11_rents_28 : decode cX11_rents 28 = .ok (.iaload, 1) := by decide +kernel
theorem dX11_rents_29 : decode cX11_rents 29 = .ok (.goto 4, 3) := by decide +kernel
theorem dX11_rents_32 : decode cX11_rents 32 = .ok (.iconst 0, 1) := by decide +kernel
theorem dX11_rents_33 : decode cX11_rents 33 = .ok (.iadd, 1) := by decide +kernel
theorem dX11_rents_34 : decode cX11_rents 34 = .ok (.istore_n 2, 1) := by decide +kernel
theorem dX11_rents_35 : decode cX11_rents 35 = .ok (.iinc 3 1, 3) := by decide +kernel
theorem dX11_rents_38 : decode cX11_rents 38 = .ok (.goto (-34), 3) := by decide +kernel
theorem dX11_rents_41 : decode cX11_rents 41 = .ok (.iload_n 2, 1) := by decide +kernel
theorem dX11_rents_42 : decode cX11_rents 42 = .ok (.ireturn, 1) := by decide +kernel
theorem dX11_choose_0 : decode cX11_choose 0 = .ok (.iload_n 2, 1) := by decide +kernel
theorem dX11_choose_1 : decode cX11_choose 1 = .ok (.iconst 1, 1) := by decide +kernel
theorem dX11_choose_2 : decode cX11_choose 2 = .ok (.if_icmp .ne 24, 3) := by decide +kernel
theorem dX11_choose_5 : decode cX11_choose 5 = .ok (.aload_n 0, 1) := by decide +kernel
theorem dX11_choose_6 : decode cX11_choose 6 = .ok (.getfield 117, 3) := by decide +kernel
theorem dX11_choose_9 : decode cX11_choose 9 = .ok (.iload_n 1, 1) := by decide +kernel
theorem dX11_choose_10 : decode cX11_choose 10 = .ok (.iconst 0, 1) := by decide +kernel
theorem dX11_choose_11 : decode cX11_choose 11 = .ok (.aload_n 0, 1) := by decide +kernel
theorem dX11_choose_12 : decode cX11_choose 12 = .ok (.getfield 117, 3) := by decide +kernel
theorem dX11_choose_15 : decode cX11_choose 15 = .ok (.iload_n 1, 1) := by decide +kernel
theorem dX11_choose_16 : decode cX11_choose 16 = .ok (.iaload, 1) := by decide +kernel
theorem dX11_choose_17 : decode cX11_choose 17 = .ok (.iconst 1, 1) := by decide +kernel
theorem dX11_choose_18 : decode cX11_choose 18 = .ok (.isub, 1) := by decide +kernel
theorem dX11_choose_19 : decode cX11_choose 19 = .ok (.invokestatic 379, 3) := by decide +kernel
theorem dX11_choose_22 : decode cX11_choose 22 = .ok (.iastore, 1) := by decide +kernel
theorem dX11_choose_23 : decode cX11_choose 23 = .ok (.goto 22, 3) := by decide +kernel
theorem dX11_choose_26 : decode cX11_choose 26 = .ok (.aload_n 0, 1) := by decide +kernel
theorem dX11_choose_27 : decode cX11_choose 27 = .ok (.getfield 115, 3) := by decide +kernel
theorem dX11_choose_30 : decode cX11_choose 30 = .ok (.iload_n 1, 1) := by decide +kernel
theorem dX11_choose_31 : decode cX11_choose 31 = .ok (.bipush 20, 2) := by decide +kernel
theorem dX11_choose_33 : decode cX11_choose 33 = .ok (.aload_n 0, 1) := by decide +kernel
theorem dX11_choose_34 : decode cX11_choose 34 = .ok (.getfield 115, 3) := by decide +kernel
theorem dX11_choose_37 : decode cX11_choose 37 = .ok (.iload_n 1, 1) := by decide +kernel
theorem dX11_choose_38 : decode cX11_choose 38 = .ok (.iaload, 1) := by decide +kernel
theorem dX11_choose_39 : decode cX11_choose 39 = .ok (.iconst 3, 1) := by decide +kernel
theorem dX11_choose_40 : decode cX11_choose 40 = .ok (.iadd, 1) := by decide +kernel
theorem dX11_choose_41 : decode cX11_choose 41 = .ok (.invokestatic 232, 3) := by decide +kernel
theorem dX11_choose_44 : decode cX11_choose 44 = .ok (.iastore, 1) := by decide +kernel
theorem dX11_choose_45 : decode cX11_choose 45 = .ok (.return_, 1) := by decide +kernel
theorem dX11_tellGains_0 : decode cX11_tellGains 0 = .ok (.aload_n 0, 1) := by decide +kernel
theorem dX11_tellGains_1 : decode cX11_tellGains 1 = .ok (.aload_n 0, 1) := by decide +kernel
theorem dX11_tellGains_2 : decode cX11_tellGains 2 = .ok (.getfield 140, 3) := by decide +kernel
theorem dX11_tellGains_5 : decode cX11_tellGains 5 = .ok (.iconst 0, 1) := by decide +kernel
theorem dX11_tellGains_6 : decode cX11_tellGains 6 = .ok (.invokevirtual 417, 3) := by decide +kernel
theorem dX11_tellGains_9 : decode cX11_tellGains 9 = .ok (.iconst 0, 1) := by decide +kernel
theorem dX11_tellGains_10 : decode cX11_tellGains 10 = .ok (.istore_n 3, 1) := by decide +kernel
theorem dX11_tellGains_11 : decode cX11_tellGains 11 = .ok (.iload_n 3, 1) := by decide +kernel
theorem dX11_tellGains_12 : decode cX11_tellGains 12 = .ok (.iconst 4, 1) := by decide +kernel
theorem dX11_tellGains_13 : decode cX11_tellGains 13 = .ok (.if_icmp .ge 100, 3) := by decide +kernel
theorem dX11_tellGains_16 : decode cX11_tellGains 16 = .ok (.aload_n 0, 1) := by decide +kernel
theorem dX11_tellGains_17 : decode cX11_tellGains 17 = .ok (.iload_n 1, 1) := by decide +kernel
theorem dX11_tellGains_18 : decode cX11_tellGains 18 = .ok (.iload_n 3, 1) := by decide +kernel
theorem dX11_tellGains_19 : decode cX11_tellGains 19 = .ok (.iconst 2, 1) := by decide +kernel
theorem dX11_tellGains_20 : decode cX11_tellGains 20 = .ok (.idiv, 1) := by decide +kernel
theorem dX11_tellGains_21 : decode cX11_tellGains 21 = .ok (.invokevirtual 483, 3) := by decide +kernel
theorem dX11_tellGains_24 : decode cX11_tellGains 24 = .ok (.aload_n 0, 1) := by decide +kernel
theorem dX11_tellGains_25 : decode cX11_tellGains 25 = .ok (.iload_n 2, 1) := by decide +kernel
theorem dX11_tellGains_26 : decode cX11_tellGains 26 = .ok (.iload_n 3, 1) := by decide +kernel
theorem dX11_tellGains_27 : decode cX11_tellGains 27 = .ok (.iconst 2, 1) := by decide +kernel
theorem dX11_tellGains_28 : decode cX11_tellGains 28 = .ok (.irem, 1) := by decide +kernel
theorem dX11_tellGains_29 : decode cX11_tellGains 29 = .ok (.invokevirtual 483, 3) := by decide +kernel
theorem dX11_tellGains_32 : decode cX11_tellGains 32 = .ok (.aload_n 0, 1) := by decide +kernel
theorem dX11_tellGains_33 : decode cX11_tellGains 33 = .ok (.invokevirtual 402, 3) := by decide +kernel
theorem dX11_tellGains_36 : decode cX11_tellGains 36 = .ok (.aload_n 0, 1) := by decide +kernel
theorem dX11_tellGains_37 : decode cX11_tellGains 37 = .ok (.getfield 171, 3) := by decide +kernel
theorem dX11_tellGains_40 : decode cX11_tellGains 40 = .ok (.iconst 2, 1) := by decide +kernel
theorem dX11_tellGains_41 : decode cX11_tellGains 41 = .ok (.iload_n 3, 1) := by decide +kernel
theorem dX11_tellGains_42 : decode cX11_tellGains 42 = .ok (.imul, 1) := by decide +kernel
theorem dX11_tellGains_43 : decode cX11_tellGains 43 = .ok (.aload_n 0, 1) := by decide +kernel
theorem dX11_tellGains_44 : decode cX11_tellGains 44 = .ok (.aload_n 0, 1) := by decide +kernel
theorem dX11_tellGains_45 : decode cX11_tellGains 45 = .ok (.iload_n 1, 1) := by decide +kernel
theorem dX11_tellGains_46 : decode cX11_tellGains 46 = .ok (.invokevirtual 363, 3) := by decide +kernel
theorem dX11_tellGains_49 : decode cX11_tellGains 49 = .ok (.invokevirtual 487, 3) := by decide +kernel
theorem dX11_tellGains_52 : decode cX11_tellGains 52 = .ok (.iload_n 3, 1) := by decide +kernel
theorem dX11_tellGains_53 : decode cX11_tellGains 53 = .ok (.iconst 2, 1) := by decide +kernel
theorem dX11_tellGains_54 : decode cX11_tellGains 54 = .ok (.idiv, 1) := by decide +kernel
theorem dX11_tellGains_55 : decode cX11_tellGains 55 = .ok (.ifCond .ne 8, 3) := by decide +kernel
theorem dX11_tellGains_58 : decode cX11_tellGains 58 = .ok (.bipush 6, 2) := by decide +kernel
theorem dX11_tellGains_60 : decode cX11_tellGains 60 = .ok (.goto 4, 3) := by decide +kernel
theorem dX11_tellGains_63 : decode cX11_tellGains 63 = .ok (.iconst 0, 1) := by decide +kernel
theorem dX11_tellGains_64 : decode cX11_tellGains 64 = .ok (.isub, 1) := by decide +kernel
theorem dX11_tellGains_65 : decode cX11_tellGains 65 = .ok (.iastore, 1) := by decide +kernel
theorem dX11_tellGains_66 : decode cX11_tellGains 66 = .ok (.aload_n 0, 1) := by decide +kernel
theorem dX11_tellGains_67 : decode cX11_tellGains 67 = .ok (.getfield 171, 3) := by decide +kernel
theorem dX11_tellGains_70 : decode cX11_tellGains 70 = .ok (.iconst 2, 1) := by decide +kernel
theorem dX11_tellGains_71 : decode cX11_tellGains 71 = .ok (.iload_n 3, 1) := by decide +kernel
theorem dX11_tellGains_72 : decode cX11_tellGains 72 = .ok (.imul, 1) := by decide +kernel
theorem dX11_tellGains_73 : decode cX11_tellGains 73 = .ok (.iconst 1, 1) := by decide +kernel
theorem dX11_tellGains_74 : decode cX11_tellGains 74 = .ok (.iadd, 1) := by decide +kernel
theorem dX11_tellGains_75 : decode cX11_tellGains 75 = .ok (.aload_n 0, 1) := by decide +kernel
theorem dX11_tellGains_76 : decode cX11_tellGains 76 = .ok (.aload_n 0, 1) := by decide +kernel
theorem dX11_tellGains_77 : decode cX11_tellGains 77 = .ok (.iload_n 2, 1) := by decide +kernel
theorem dX11_tellGains_78 : decode cX11_tellGains 78 = .ok (.invokevirtual 363, 3) := by decide +kernel
theorem dX11_tellGains_81 : decode cX11_tellGains 81 = .ok (.invokevirtual 487, 3) := by decide +kernel
theorem dX11_tellGains_84 : decode cX11_tellGains 84 = .ok (.iload_n 3, 1) := by decide +kernel
theorem dX11_tellGains_85 : decode cX11_tellGains 85 = .ok (.iconst 2, 1) := by decide +kernel
theorem dX11_tellGains_86 : decode cX11_tellGains 86 = .ok (.irem, 1) := by decide +kernel
theorem dX11_tellGains_87 : decode cX11_tellGains 87 = .ok (.ifCond .ne 8, 3) := by decide +kernel
theorem dX11_tellGains_90 : decode cX11_tellGains 90 = .ok (.bipush 6, 2) := by decide +kernel
theorem dX11_tellGains_92 : decode cX11_tellGains 92 = .ok (.goto 4, 3) := by decide +kernel
theorem dX11_tellGains_95 : decode cX11_tellGains 95 = .ok (.iconst 0, 1) := by decide +kernel
theorem dX11_tellGains_96 : decode cX11_tellGains 96 = .ok (.isub, 1) := by decide +kernel
theorem dX11_tellGains_97 : decode cX11_tellGains 97 = .ok (.iastore, 1) := by decide +kernel
theorem dX11_tellGains_98 : decode cX11_tellGains 98 = .ok (.aload_n 0, 1) := by decide +kernel
theorem dX11_tellGains_99 : decode cX11_tellGains 99 = .ok (.aload_n 0, 1) := by decide +kernel
theorem dX11_tellGains_100 : decode cX11_tellGains 100 = .ok (.getfield 140, 3) := by decide +kernel
theorem dX11_tellGains_103 : decode cX11_tellGains 103 = .ok (.iconst 0, 1) := by decide +kernel
theorem dX11_tellGains_104 : decode cX11_tellGains 104 = .ok (.invokevirtual 439, 3) := by decide +kernel
theorem dX11_tellGains_107 : decode cX11_tellGains 107 = .ok (.iinc 3 1, 3) := by decide +kernel
theorem dX11_tellGains_110 : decode cX11_tellGains 110 = .ok (.goto (-99), 3) := by decide +kernel
theorem dX11_tellGains_113 : decode cX11_tellGains 113 = .ok (.return_, 1) := by decide +kernel
theorem dX11_game_0 : decode cX11_game 0 = .ok (.aload_n 0, 1) := by decide +kernel
theorem dX11_game_1 : decode cX11_game 1 = .ok (.iconst 0, 1) := by decide +kernel
theorem dX11_game_2 : decode cX11_game 2 = .ok (.putfield 195, 3) := by decide +kernel
theorem dX11_game_5 : decode cX11_game 5 = .ok (.aload_n 0, 1) := by decide +kernel
theorem dX11_game_6 : decode cX11_game 6 = .ok (.iload_n 1, 1) := by decide +kernel
theorem dX11_game_7 : decode cX11_game 7 = .ok (.invokevirtual 414, 3) := by decide +kernel
theorem dX11_game_10 : decode cX11_game 10 = .ok (.ifCond .eq 20, 3) := by decide +kernel
theorem dX11_game_13 : decode cX11_game 13 = .ok (.aload_n 0, 1) := by decide +kernel
theorem dX11_game_14 : decode cX11_game 14 = .ok (.iload_n 2, 1) := by decide +kernel
theorem dX11_game_15 : decode cX11_game 15 = .ok (.invokevirtual 414, 3) := by decide +kernel
theorem dX11_game_18 : decode cX11_game 18 = .ok (.ifCond .eq 12, 3) := by decide +kernel
theorem dX11_game_21 : decode cX11_game 21 = .ok (.iload_n 3, 1) := by decide +kernel
theorem dX11_game_22 : decode cX11_game 22 = .ok (.ifCond .lt 8, 3) := by decide +kernel
theorem dX11_game_25 : decode cX11_game 25 = .ok (.iload_n 3, 1) := by decide +kernel
theorem dX11_game_26 : decode cX11_game 26 = .ok (.iconst 1, 1) := by decide +kernel
theorem dX11_game_27 : decode cX11_game 27 = .ok (.if_icmp .le 9, 3) := by decide +kernel
theorem dX11_game_30 : decode cX11_game 30 = .ok (.aload_n 0, 1) := by decide +kernel
theorem dX11_game_31 : decode cX11_game 31 = .ok (.iconst 1, 1) := by decide +kernel
theorem dX11_game_32 : decode cX11_game 32 = .ok (.invokevirtual 329, 3) := by decide +kernel
theorem dX11_game_35 : decode cX11_game 35 = .ok (.ireturn, 1) := by decide +kernel
theorem dX11_game_36 : decode cX11_game 36 = .ok (.iload_n 1, 1) := by decide +kernel
theorem dX11_game_37 : decode cX11_game 37 = .ok (.iload_n 2, 1) := by decide +kernel
theorem dX11_game_38 : decode cX11_game 38 = .ok (.if_icmp .ne 9, 3) := by decide +kernel
theorem dX11_game_41 : decode cX11_game 41 = .ok (.aload_n 0, 1) := by decide +kernel
theorem dX11_game_42 : decode cX11_game 42 = .ok (.iconst 2, 1) := by decide +kernel
theorem dX11_game_43 : decode cX11_game 43 = .ok (.invokevirtual 329, 3) := by decide +kernel
theorem dX11_game_46 : decode cX11_game 46 = .ok (.ireturn, 1) := by decide +kernel
theorem dX11_game_47 : decode cX11_game 47 = .ok (.aload_n 0, 1) := by decide +kernel
theorem dX11_game_48 : decode cX11_game 48 = .ok (.iload_n 1, 1) := by decide +kernel
theorem dX11_game_49 : decode cX11_game 49 = .ok (.iload_n 2, 1) := by decide +kernel
theorem dX11_game_50 : decode cX11_game 50 = .ok (.invokevirtual 490, 3) := by decide +kernel
theorem dX11_game_53 : decode cX11_game 53 = .ok (.iconst 0, 1) := by decide +kernel
theorem dX11_game_54 : decode cX11_game 54 = .ok (.istore 4, 2) := by decide +kernel
theorem dX11_game_56 : decode cX11_game 56 = .ok (.iconst (-1), 1) := by decide +kernel
theorem dX11_game_57 : decode cX11_game 57 = .ok (.istore 5, 2) := by decide +kernel
theorem dX11_game_59 : decode cX11_game 59 = .ok (.iconst 0, 1) := by decide +kernel
theorem dX11_game_60 : decode cX11_game 60 = .ok (.istore 6, 2) := by decide +kernel
theorem dX11_game_62 : decode cX11_game 62 = .ok (.iload 6, 2) := by decide +kernel
theorem dX11_game_64 : decode cX11_game 64 = .ok (.iconst 4, 1) := by decide +kernel
theorem dX11_game_65 : decode cX11_game 65 = .ok (.if_icmp .ge 90, 3) := by decide +kernel
theorem dX11_game_68 : decode cX11_game 68 = .ok (.aload_n 0, 1) := by decide +kernel
theorem dX11_game_69 : decode cX11_game 69 = .ok (.getfield 171, 3) := by decide +kernel
theorem dX11_game_72 : decode cX11_game 72 = .ok (.iconst 2, 1) := by decide +kernel
theorem dX11_game_73 : decode cX11_game 73 = .ok (.iload 6, 2) := by decide +kernel
theorem dX11_game_75 : decode cX11_game 75 = .ok (.iconst 2, 1) := by decide +kernel
theorem dX11_game_76 : decode cX11_game 76 = .ok (.ixor, 1) := by decide +kernel
theorem dX11_game_77 : decode cX11_game 77 = .ok (.imul, 1) := by decide +kernel
theorem dX11_game_78 : decode cX11_game 78 = .ok (.iaload, 1) := by decide +kernel
theorem dX11_game_79 : decode cX11_game 79 = .ok (.aload_n 0, 1) := by decide +kernel
theorem dX11_game_80 : decode cX11_game 80 = .ok (.getfield 171, 3) := by decide +kernel
theorem dX11_game_83 : decode cX11_game 83 = .ok (.iconst 2, 1) := by decide +kernel
theorem dX11_game_84 : decode cX11_game 84 = .ok (.iload 6, 2) := by decide +kernel
theorem dX11_game_86 : decode cX11_game 86 = .ok (.imul, 1) := by decide +kernel
theorem dX11_game_87 : decode cX11_game 87 = .ok (.iaload, 1) := by decide +kernel
theorem dX11_game_88 : decode cX11_game 88 = .ok (.if_icmp .gt 61, 3) := by decide +kernel
theorem dX11_game_91 : decode cX11_game 91 = .ok (.aload_n 0, 1) := by decide +kernel
theorem dX11_game_92 : decode cX11_game 92 = .ok (.getfield 171, 3) := by decide +kernel
theorem dX11_game_95 : decode cX11_game 95 = .ok (.iconst 2, 1) := by decide +kernel
theorem dX11_game_96 : decode cX11_game 96 = .ok (.iload 6, 2) := by decide +kernel
theorem dX11_game_98 : decode cX11_game 98 = .ok (.iconst 1, 1) := by decide +kernel
theorem dX11_game_99 : decode cX11_game 99 = .ok (.ixor, 1) := by decide +kernel
theorem dX11_game_100 : decode cX11_game 100 = .ok (.imul, 1) := by decide +kernel
theorem dX11_game_101 : decode cX11_game 101 = .ok (.iconst 1, 1) := by decide +kernel
theorem dX11_game_102 : decode cX11_game 102 = .ok (.iadd, 1) := by decide +kernel
theorem dX11_game_103 : decode cX11_game 103 = .ok (.iaload, 1) := by decide +kernel
theorem dX11_game_104 : decode cX11_game 104 = .ok (.aload_n 0, 1) := by decide +kernel
theorem dX11_game_105 : decode cX11_game 105 = .ok (.getfield 171, 3) := by decide +kernel
theorem dX11_game_108 : decode cX11_game 108 = .ok (.iconst 2, 1) := by decide +kernel
theorem dX11_game_109 : decode cX11_game 109 = .ok (.iload 6, 2) := by decide +kernel
theorem dX11_game_111 : decode cX11_game 111 = .ok (.imul, 1) := by decide +kernel
theorem dX11_game_112 : decode cX11_game 112 = .ok (.iconst 1, 1) := by decide +kernel
theorem dX11_game_113 : decode cX11_game 113 = .ok (.iadd, 1) := by decide +kernel
theorem dX11_game_114 : decode cX11_game 114 = .ok (.iaload, 1) := by decide +kernel
theorem dX11_game_115 : decode cX11_game 115 = .ok (.if_icmp .le 6, 3) := by decide +kernel
theorem dX11_game_118 : decode cX11_game 118 = .ok (.goto 31, 3) := by decide +kernel
theorem dX11_game_121 : decode cX11_game 121 = .ok (.iinc 4 1, 3) := by decide +kernel
theorem dX11_game_124 : decode cX11_game 124 = .ok (.iload 5, 2) := by decide +kernel
theorem dX11_game_126 : decode cX11_game 126 = .ok (.iconst (-1), 1) := by decide +kernel
theorem dX11_game_127 : decode cX11_game 127 = .ok (.if_icmp .ne 18, 3) := by decide +kernel
theorem dX11_game_130 : decode cX11_game 130 = .ok (.bipush 10, 2) := by decide +kernel
theorem dX11_game_132 : decode cX11_game 132 = .ok (.iload 6, 2) := by decide +kernel
theorem dX11_game_134 : decode cX11_game 134 = .ok (.iconst 2, 1) := by decide +kernel
theorem dX11_game_135 : decode cX11_game 135 = .ok (.idiv, 1) := by decide +kernel
theorem dX11_game_136 : decode cX11_game 136 = .ok (.imul, 1) := by decide +kernel
theorem dX11_game_137 : decode cX11_game 137 = .ok (.iload 6, 2) := by decide +kernel
theorem dX11_game_139 : decode cX11_game 139 = .ok (.iconst 2, 1) := by decide +kernel
theorem dX11_game_140 : decode cX11_game 140 = .ok (.irem, 1) := by decide +kernel
theorem dX11_game_141 : decode cX11_game 141 = .ok (.iadd, 1) := by decide +kernel
theorem dX11_game_142 : decode cX11_game 142 = .ok (.goto 5, 3) := by decide +kernel
theorem dX11_game_145 : decode cX11_game 145 = .ok (.iload 5, 2) := by decide +kernel
theorem dX11_game_147 : decode cX11_game 147 = .ok (.istore 5, 2) := by decide +kernel
theorem dX11_game_149 : decode cX11_game 149 = .ok (.iinc 6 1, 3) := by decide +kernel
theorem dX11_game_152 : decode cX11_game 152 = .ok (.goto (-90), 3) := by decide +kernel
theorem dX11_game_155 : decode cX11_game 155 = .ok (.iload_n 3, 1) := by decide +kernel
theorem dX11_game_156 : decode cX11_game 156 = .ok (.ifCond .ne 8, 3) := by decide +kernel
theorem dX11_game_159 : decode cX11_game 159 = .ok (.iload 4, 2) := by decide +kernel
theorem dX11_game_161 : decode cX11_game 161 = .ok (.goto 5, 3) := by decide +kernel
theorem dX11_game_164 : decode cX11_game 164 = .ok (.iload 5, 2) := by decide +kernel
theorem dX11_game_166 : decode cX11_game 166 = .ok (.ireturn, 1) := by decide +kernel
theorem dX11_drawOf_0 : decode cX11_drawOf 0 = .ok (.aload_n 0, 1) := by decide +kernel
theorem dX11_drawOf_1 : decode cX11_drawOf 1 = .ok (.aload_n 0, 1) := by decide +kernel
theorem dX11_drawOf_2 : decode cX11_drawOf 2 = .ok (.getfield 493, 3) := by decide +kernel
theorem dX11_drawOf_5 : decode cX11_drawOf 5 = .ok (.ldc_w 496, 3) := by decide +kernel
theorem dX11_drawOf_8 : decode cX11_drawOf 8 = .ok (.imul, 1) := by decide +kernel
theorem dX11_drawOf_9 : decode cX11_drawOf 9 = .ok (.sipush 12345, 3) := by decide +kernel
theorem dX11_drawOf_12 : decode cX11_drawOf 12 = .ok (.iadd, 1) := by decide +kernel
theorem dX11_drawOf_13 : decode cX11_drawOf 13 = .ok (.putfield 493, 3) := by decide +kernel
theorem dX11_drawOf_16 : decode cX11_drawOf 16 = .ok (.aload_n 0, 1) := by decide +kernel
theorem dX11_drawOf_17 : decode cX11_drawOf 17 = .ok (.getfield 493, 3) := by decide +kernel
theorem dX11_drawOf_20 : decode cX11_drawOf 20 = .ok (.bipush 16, 2) := by decide +kernel
theorem dX11_drawOf_22 : decode cX11_drawOf 22 = .ok (.ishr, 1) := by decide +kernel
theorem dX11_drawOf_23 : decode cX11_drawOf 23 = .ok (.sipush 32767, 3) := by decide +kernel
theorem dX11_drawOf_26 : decode cX11_drawOf 26 = .ok (.iand, 1) := by decide +kernel
theorem dX11_drawOf_27 : decode cX11_drawOf 27 = .ok (.iload_n 1, 1) := by decide +kernel
theorem dX11_drawOf_28 : decode cX11_drawOf 28 = .ok (.irem, 1) := by decide +kernel
theorem dX11_drawOf_29 : decode cX11_drawOf 29 = .ok (.ireturn, 1) := by decide +kernel
theorem dX11_something_0 : decode cX11_something 0 = .ok (.aload_n 0, 1) := by decide +kernel
theorem dX11_something_1 : decode cX11_something 1 = .ok (.getfield 55, 3) := by decide +kernel
theorem dX11_something_4 : decode cX11_something 4 = .ok (.iconst 0, 1) := by decide +kernel
theorem dX11_something_5 : decode cX11_something 5 = .ok (.iaload, 1) := by decide +kernel
theorem dX11_something_6 : decode cX11_something 6 = .ok (.ifCond .eq 12, 3) := by decide +kernel
theorem dX11_something_9 : decode cX11_something 9 = .ok (.aload_n 0, 1) := by decide +kernel
theorem dX11_something_10 : decode cX11_something 10 = .ok (.getfield 55, 3) := by decide +kernel
theorem dX11_something_13 : decode cX11_something 13 = .ok (.iconst 1, 1) := by decide +kernel
theorem dX11_something_14 : decode cX11_something 14 = .ok (.iaload, 1) := by decide +kernel
theorem dX11_something_15 : decode cX11_something 15 = .ok (.ifCond .ne 4, 3) := by decide +kernel
theorem dX11_something_18 : decode cX11_something 18 = .ok (.return_, 1) := by decide +kernel
theorem dX11_something_19 : decode cX11_something 19 = .ok (.aload_n 0, 1) := by decide +kernel
theorem dX11_something_20 : decode cX11_something 20 = .ok (.aload_n 0, 1) := by decide +kernel
theorem dX11_something_21 : decode cX11_something 21 = .ok (.getfield 55, 3) := by decide +kernel
theorem dX11_something_24 : decode cX11_something 24 = .ok (.iconst 0, 1) := by decide +kernel
theorem dX11_something_25 : decode cX11_something 25 = .ok (.iaload, 1) := by decide +kernel
theorem dX11_something_26 : decode cX11_something 26 = .ok (.invokevirtual 497, 3) := by decide +kernel
theorem dX11_something_29 : decode cX11_something 29 = .ok (.istore_n 1, 1) := by decide +kernel
theorem dX11_something_30 : decode cX11_something 30 = .ok (.aload_n 0, 1) := by decide +kernel
theorem dX11_something_31 : decode cX11_something 31 = .ok (.getfield 344, 3) := by decide +kernel
theorem dX11_something_34 : decode cX11_something 34 = .ok (.iload_n 1, 1) := by decide +kernel
theorem dX11_something_35 : decode cX11_something 35 = .ok (.invokestatic 385, 3) := by decide +kernel
theorem dX11_something_38 : decode cX11_something 38 = .ok (.ifCond .ne 15, 3) := by decide +kernel
theorem dX11_something_41 : decode cX11_something 41 = .ok (.aload_n 0, 1) := by decide +kernel
theorem dX11_something_42 : decode cX11_something 42 = .ok (.dup, 1) := by decide +kernel
theorem dX11_something_43 : decode cX11_something 43 = .ok (.getfield 347, 3) := by decide +kernel
theorem dX11_something_46 : decode cX11_something 46 = .ok (.iconst 1, 1) := by decide +kernel
theorem dX11_something_47 : decode cX11_something 47 = .ok (.iload_n 1, 1) := by decide +kernel
theorem dX11_something_48 : decode cX11_something 48 = .ok (.ishl, 1) := by decide +kernel
theorem dX11_something_49 : decode cX11_something 49 = .ok (.ior, 1) := by decide +kernel
theorem dX11_something_50 : decode cX11_something 50 = .ok (.putfield 347, 3) := by decide +kernel
theorem dX11_something_53 : decode cX11_something 53 = .ok (.aload_n 0, 1) := by decide +kernel
theorem dX11_something_54 : decode cX11_something 54 = .ok (.aload_n 0, 1) := by decide +kernel
theorem dX11_something_55 : decode cX11_something 55 = .ok (.getfield 55, 3) := by decide +kernel
theorem dX11_something_58 : decode cX11_something 58 = .ok (.iconst 1, 1) := by decide +kernel
theorem dX11_something_59 : decode cX11_something 59 = .ok (.iaload, 1) := by decide +kernel
theorem dX11_something_60 : decode cX11_something 60 = .ok (.invokevirtual 497, 3) := by decide +kernel
theorem dX11_something_63 : decode cX11_something 63 = .ok (.istore_n 2, 1) := by decide +kernel
theorem dX11_something_64 : decode cX11_something 64 = .ok (.aload_n 0, 1) := by decide +kernel
theorem dX11_something_65 : decode cX11_something 65 = .ok (.getfield 115, 3) := by decide +kernel
theorem dX11_something_68 : decode cX11_something 68 = .ok (.iload_n 2, 1) := by decide +kernel
theorem dX11_something_69 : decode cX11_something 69 = .ok (.aload_n 0, 1) := by decide +kernel
theorem dX11_something_70 : decode cX11_something 70 = .ok (.bipush 21, 2) := by decide +kernel
theorem dX11_something_72 : decode cX11_something 72 = .ok (.invokevirtual 497, 3) := by decide +kernel
theorem dX11_something_75 : decode cX11_something 75 = .ok (.iastore, 1) := by decide +kernel
theorem dX11_something_76 : decode cX11_something 76 = .ok (.return_, 1) := by decide +kernel
theorem dX11_years_0 : decode cX11_years 0 = .ok (.aload_n 0, 1) := by decide +kernel
theorem dX11_years_1 : decode cX11_years 1 = .ok (.iconst 0, 1) := by decide +kernel
theorem dX11_years_2 : decode cX11_years 2 = .ok (.putfield 195, 3) := by decide +kernel
theorem dX11_years_5 : decode cX11_years 5 = .ok (.iload_n 3, 1) := by decide +kernel
theorem dX11_years_6 : decode cX11_years 6 = .ok (.i2l, 1) := by decide +kernel
theorem dX11_years_7 : decode cX11_years 7 = .ok (.lconst 0, 1) := by decide +kernel
theorem dX11_years_8 : decode cX11_years 8 = .ok (.ldc2_w 475, 3) := by decide +kernel
theorem dX11_years_11 : decode cX11_years 11 = .ok (.invokestatic 198, 3) := by decide +kernel
theorem dX11_years_14 : decode cX11_years 14 = .ok (.ifCond .ne 9, 3) := by decide +kernel
theorem dX11_years_17 : decode cX11_years 17 = .ok (.aload_n 0, 1) := by decide +kernel
theorem dX11_years_18 : decode cX11_years 18 = .ok (.iconst 1, 1) := by decide +kernel
theorem dX11_years_19 : decode cX11_years 19 = .ok (.invokevirtual 329, 3) := by decide +kernel
theorem dX11_years_22 : decode cX11_years 22 = .ok (.ireturn, 1) := by decide +kernel
theorem dX11_years_23 : decode cX11_years 23 = .ok (.iload_n 2, 1) := by decide +kernel
theorem dX11_years_24 : decode cX11_years 24 = .ok (.i2l, 1) := by decide +kernel
theorem dX11_years_25 : decode cX11_years 25 = .ok (.lconst 0, 1) := by decide +kernel
theorem dX11_years_26 : decode cX11_years 26 = .ok (.ldc2_w 442, 3) := by decide +kernel
theorem dX11_years_29 : decode cX11_years 29 = .ok (.invokestatic 198, 3) := by decide +kernel
theorem dX11_years_32 : decode cX11_years 32 = .ok (.ifCond .ne 9, 3) := by decide +kernel
theorem dX11_years_35 : decode cX11_years 35 = .ok (.aload_n 0, 1) := by decide +kernel
theorem dX11_years_36 : decode cX11_years 36 = .ok (.iconst 2, 1) := by decide +kernel
theorem dX11_years_37 : decode cX11_years 37 = .ok (.invokevirtual 329, 3) := by decide +kernel
theorem dX11_years_40 : decode cX11_years 40 = .ok (.ireturn, 1) := by decide +kernel
theorem dX11_years_41 : decode cX11_years 41 = .ok (.aload_n 0, 1) := by decide +kernel
theorem dX11_years_42 : decode cX11_years 42 = .ok (.aload_n 0, 1) := by decide +kernel
theorem dX11_years_43 : decode cX11_years 43 = .ok (.getfield 140, 3) := by decide +kernel
theorem dX11_years_46 : decode cX11_years 46 = .ok (.iconst 0, 1) := by decide +kernel
theorem dX11_years_47 : decode cX11_years 47 = .ok (.invokevirtual 417, 3) := by decide +kernel
theorem dX11_years_50 : decode cX11_years 50 = .ok (.aload_n 0, 1) := by decide +kernel
theorem dX11_years_51 : decode cX11_years 51 = .ok (.iload_n 1, 1) := by decide +kernel
theorem dX11_years_52 : decode cX11_years 52 = .ok (.putfield 493, 3) := by decide +kernel
theorem dX11_years_55 : decode cX11_years 55 = .ok (.iconst 0, 1) := by decide +kernel
theorem dX11_years_56 : decode cX11_years 56 = .ok (.istore 4, 2) := by decide +kernel
theorem dX11_years_58 : decode cX11_years 58 = .ok (.iconst 0, 1) := by decide +kernel
theorem dX11_years_59 : decode cX11_years 59 = .ok (.istore 5, 2) := by decide +kernel
theorem dX11_years_61 : decode cX11_years 61 = .ok (.iload 5, 2) := by decide +kernel
theorem dX11_years_63 : decode cX11_years 63 = .ok (.iload_n 2, 1) := by decide +kernel
theorem dX11_years_64 : decode cX11_years 64 = .ok (.if_icmp .ge 64, 3) := by decide +kernel
theorem dX11_years_67 : decode cX11_years 67 = .ok (.aload_n 0, 1) := by decide +kernel
theorem dX11_years_68 : decode cX11_years 68 = .ok (.invokevirtual 500, 3) := by decide +kernel
theorem dX11_years_71 : decode cX11_years 71 = .ok (.aload_n 0, 1) := by decide +kernel
theorem dX11_years_72 : decode cX11_years 72 = .ok (.invokevirtual 402, 3) := by decide +kernel
theorem dX11_years_75 : decode cX11_years 75 = .ok (.iconst 0, 1) := by decide +kernel
theorem dX11_years_76 : decode cX11_years 76 = .ok (.istore 6, 2) := by decide +kernel
theorem dX11_years_78 : decode cX11_years 78 = .ok (.iload 6, 2) := by decide +kernel
theorem dX11_years_80 : decode cX11_years 80 = .ok (.aload_n 0, 1) := by decide +kernel
theorem dX11_years_81 : decode cX11_years 81 = .ok (.getfield 55, 3) := by decide +kernel
theorem dX11_years_84 : decode cX11_years 84 = .ok (.iconst 0, 1) := by decide +kernel
theorem dX11_years_85 : decode cX11_years 85 = .ok (.iaload, 1) := by decide +kernel
theorem dX11_years_86 : decode cX11_years 86 = .ok (.if_icmp .ge 36, 3) := by decide +kernel
theorem dX11_years_89 : decode cX11_years 89 = .ok (.iload 4, 2) := by decide +kernel
theorem dX11_years_91 : decode cX11_years 91 = .ok (.aload_n 0, 1) := by decide +kernel
theorem dX11_years_92 : decode cX11_years 92 = .ok (.getfield 110, 3) := by decide +kernel
theorem dX11_years_95 : decode cX11_years 95 = .ok (.iload 6, 2) := by decide +kernel
theorem dX11_years_97 : decode cX11_years 97 = .ok (.iaload, 1) := by decide +kernel
theorem dX11_years_98 : decode cX11_years 98 = .ok (.aload_n 0, 1) := by decide +kernel
theorem dX11_years_99 : decode cX11_years 99 = .ok (.getfield 131, 3) := by decide +kernel
theorem dX11_years_102 : decode cX11_years 102 = .ok (.iload 6, 2) := by decide +kernel
theorem dX11_years_104 : decode cX11_years 104 = .ok (.iaload, 1) := by decide +kernel
theorem dX11_years_105 : decode cX11_years 105 = .ok (.if_icmp .eq 7, 3) := by decide +kernel
theorem dX11_years_108 : decode cX11_years 108 = .ok (.iconst 1, 1) := by decide +kernel
theorem dX11_years_109 : decode cX11_years 109 = .ok (.goto 4, 3) := by decide +kernel
theorem dX11_years_112 : decode cX11_years 112 = .ok (.iconst 0, 1) := by decide +kernel
theorem dX11_years_113 : decode cX11_years 113 = .ok (.iadd, 1) := by decide +kernel
theorem dX11_years_114 : decode cX11_years 114 = .ok (.istore 4, 2) := by decide +kernel
theorem dX11_years_116 : decode cX11_years 116 = .ok (.iinc 6 1, 3) := by decide +kernel
theorem dX11_years_119 : decode cX11_years 119 = .ok (.goto (-41), 3) := by decide +kernel
theorem dX11_years_122 : decode cX11_years 122 = .ok (.iinc 5 1, 3) := by decide +kernel
theorem dX11_years_125 : decode cX11_years 125 = .ok (.goto (-64), 3) := by decide +kernel
theorem dX11_years_128 : decode cX11_years 128 = .ok (.iload_n 3, 1) := by decide +kernel
theorem dX11_years_129 : decode cX11_years 129 = .ok (.ifCond .ne 8, 3) := by decide +kernel
theorem dX11_years_132 : decode cX11_years 132 = .ok (.iload 4, 2) := by decide +kernel
theorem dX11_years_134 : decode cX11_years 134 = .ok (.goto 22, 3) := by decide +kernel
theorem dX11_years_137 : decode cX11_years 137 = .ok (.iload_n 3, 1) := by decide +kernel
theorem dX11_years_138 : decode cX11_years 138 = .ok (.iconst 1, 1) := by decide +kernel
theorem dX11_years_139 : decode cX11_years 139 = .ok (.if_icmp .ne 13, 3) := by decide +kernel
theorem dX11_years_142 : decode cX11_years 142 = .ok (.aload_n 0, 1) := by decide +kernel
theorem dX11_years_143 : decode cX11_years 143 = .ok (.getfield 344, 3) := by decide +kernel
theorem dX11_years_146 : decode cX11_years 146 = .ok (.invokestatic 373, 3) := by decide +kernel
theorem dX11_years_149 : decode cX11_years 149 = .ok (.goto 7, 3) := by decide +kernel
theorem dX11_years_152 : decode cX11_years 152 = .ok (.aload_n 0, 1) := by decide +kernel
theorem dX11_years_153 : decode cX11_years 153 = .ok (.invokevirtual 408, 3) := by decide +kernel
theorem dX11_years_156 : decode cX11_years 156 = .ok (.istore 5, 2) := by decide +kernel
theorem dX11_years_158 : decode cX11_years 158 = .ok (.aload_n 0, 1) := by decide +kernel
theorem dX11_years_159 : decode cX11_years 159 = .ok (.aload_n 0, 1) := by decide +kernel
theorem dX11_years_160 : decode cX11_years 160 = .ok (.getfield 140, 3) := by decide +kernel
theorem dX11_years_163 : decode cX11_years 163 = .ok (.iconst 0, 1) := by decide +kernel
theorem dX11_years_164 : decode cX11_years 164 = .ok (.invokevirtual 439, 3) := by decide +kernel
theorem dX11_years_167 : decode cX11_years 167 = .ok (.iload 5, 2) := by decide +kernel
theorem dX11_years_169 : decode cX11_years 169 = .ok (.ireturn, 1) := by decide +kernel
theorem dX11_copyTo_0 : decode cX11_copyTo 0 = .ok (.iconst 0, 1) := by decide +kernel
theorem dX11_copyTo_1 : decode cX11_copyTo 1 = .ok (.istore_n 2, 1) := by decide +kernel
theorem dX11_copyTo_2 : decode cX11_copyTo 2 = .ok (.iload_n 2, 1) := by decide +kernel
theorem dX11_copyTo_3 : decode cX11_copyTo 3 = .ok (.aload_n 0, 1) := by decide +kernel
theorem dX11_copyTo_4 : decode cX11_copyTo 4 = .ok (.arraylength, 1) := by decide +kernel
theorem dX11_copyTo_5 : decode cX11_copyTo 5 = .ok (.if_icmp .ge 15, 3) := by decide +kernel
theorem dX11_copyTo_8 : decode cX11_copyTo 8 = .ok (.aload_n 0, 1) := by decide +kernel
theorem dX11_copyTo_9 : decode cX11_copyTo 9 = .ok (.iload_n 2, 1) := by decide +kernel
theorem dX11_copyTo_10 : decode cX11_copyTo 10 = .ok (.aload_n 1, 1) := by decide +kernel
theorem dX11_copyTo_11 : decode cX11_copyTo 11 = .ok (.iload_n 2, 1) := by decide +kernel
theorem dX11_copyTo_12 : decode cX11_copyTo 12 = .ok (.iaload, 1) := by decide +kernel
theorem dX11_copyTo_13 : decode cX11_copyTo 13 = .ok (.iastore, 1) := by decide +kernel
theorem dX11_copyTo_14 : decode cX11_copyTo 14 = .ok (.iinc 2 1, 3) := by decide +kernel
theorem dX11_copyTo_17 : decode cX11_copyTo 17 = .ok (.goto (-15), 3) := by decide +kernel
theorem dX11_copyTo_20 : decode cX11_copyTo 20 = .ok (.return_, 1) := by decide +kernel
theorem dX11_image_0 : decode cX11_image 0 = .ok (.aload_n 0, 1) := by decide +kernel
theorem dX11_image_1 : decode cX11_image 1 = .ok (.iconst 0, 1) := by decide +kernel
theorem dX11_image_2 : decode cX11_image 2 = .ok (.putfield 195, 3) := by decide +kernel
theorem dX11_image_5 : decode cX11_image 5 = .ok (.aload_n 0, 1) := by decide +kernel
theorem dX11_image_6 : decode cX11_image 6 = .ok (.iconst 1, 1) := by decide +kernel
theorem dX11_image_7 : decode cX11_image 7 = .ok (.putfield 356, 3) := by decide +kernel
theorem dX11_image_10 : decode cX11_image 10 = .ok (.aload_n 0, 1) := by decide +kernel
theorem dX11_image_11 : decode cX11_image 11 = .ok (.aload_n 0, 1) := by decide +kernel
theorem dX11_image_12 : decode cX11_image 12 = .ok (.getfield 350, 3) := by decide +kernel
theorem dX11_image_15 : decode cX11_image 15 = .ok (.putfield 503, 3) := by decide +kernel
theorem dX11_image_18 : decode cX11_image 18 = .ok (.aload_n 0, 1) := by decide +kernel
theorem dX11_image_19 : decode cX11_image 19 = .ok (.aload_n 0, 1) := by decide +kernel
theorem dX11_image_20 : decode cX11_image 20 = .ok (.getfield 353, 3) := by decide +kernel
theorem dX11_image_23 : decode cX11_image 23 = .ok (.putfield 506, 3) := by decide +kernel
theorem dX11_image_26 : decode cX11_image 26 = .ok (.aload_n 0, 1) := by decide +kernel
theorem dX11_image_27 : decode cX11_image 27 = .ok (.aload_n 0, 1) := by decide +kernel
theorem dX11_image_28 : decode cX11_image 28 = .ok (.getfield 174, 3) := by decide +kernel
theorem dX11_image_31 : decode cX11_image 31 = .ok (.iconst 0, 1) := by decide +kernel
theorem dX11_image_32 : decode cX11_image 32 = .ok (.invokevirtual 417, 3) := by decide +kernel
theorem dX11_image_35 : decode cX11_image 35 = .ok (.aload_n 0, 1) := by decide +kernel
theorem dX11_image_36 : decode cX11_image 36 = .ok (.getfield 177, 3) := by decide +kernel
theorem dX11_image_39 : decode cX11_image 39 = .ok (.aload_n 0, 1) := by decide +kernel
theorem dX11_image_40 : decode cX11_image 40 = .ok (.getfield 122, 3) := by decide +kernel
theorem dX11_image_43 : decode cX11_image 43 = .ok (.invokestatic 509, 3) := by decide +kernel
theorem dX11_image_46 : decode cX11_image 46 = .ok (.aload_n 0, 1) := by decide +kernel
theorem dX11_image_47 : decode cX11_image 47 = .ok (.getfield 180, 3) := by decide +kernel
theorem dX11_image_50 : decode cX11_image 50 = .ok (.aload_n 0, 1) := by decide +kernel
theorem dX11_image_51 : decode cX11_image 51 = .ok (.getfield 149, 3) := by decide +kernel
theorem dX11_image_54 : decode cX11_image 54 = .ok (.invokestatic 509, 3) := by decide +kernel
theorem dX11_image_57 : decode cX11_image 57 = .ok (.aload_n 0, 1) := by decide +kernel
theorem dX11_image_58 : decode cX11_image 58 = .ok (.getfield 183, 3) := by decide +kernel
theorem dX11_image_61 : decode cX11_image 61 = .ok (.aload_n 0, 1) := by decide +kernel
theorem dX11_image_62 : decode cX11_image 62 = .ok (.getfield 152, 3) := by decide +kernel
theorem dX11_image_65 : decode cX11_image 65 = .ok (.invokestatic 509, 3) := by decide +kernel
theorem dX11_image_68 : decode cX11_image 68 = .ok (.aload_n 0, 1) := by decide +kernel
theorem dX11_image_69 : decode cX11_image 69 = .ok (.getfield 186, 3) := by decide +kernel
theorem dX11_image_72 : decode cX11_image 72 = .ok (.aload_n 0, 1) := by decide +kernel
theorem dX11_image_73 : decode cX11_image 73 = .ok (.getfield 155, 3) := by decide +kernel
theorem dX11_image_76 : decode cX11_image 76 = .ok (.invokestatic 509, 3) := by decide +kernel
theorem dX11_image_79 : decode cX11_image 79 = .ok (.iconst 0, 1) := by decide +kernel
theorem dX11_image_80 : decode cX11_image 80 = .ok (.istore_n 1, 1) := by decide +kernel
theorem dX11_image_81 : decode cX11_image 81 = .ok (.iload_n 1, 1) := by decide +kernel
theorem dX11_image_82 : decode cX11_image 82 = .ok (.bipush 8, 2) := by decide +kernel
theorem dX11_image_84 : decode cX11_image 84 = .ok (.if_icmp .ge 21, 3) := by decide +kernel
theorem dX11_image_87 : decode cX11_image 87 = .ok (.aload_n 0, 1) := by decide +kernel
theorem dX11_image_88 : decode cX11_image 88 = .ok (.getfield 192, 3) := by decide +kernel
theorem dX11_image_91 : decode cX11_image 91 = .ok (.iload_n 1, 1) := by decide +kernel
theorem dX11_image_92 : decode cX11_image 92 = .ok (.aload_n 0, 1) := by decide +kernel
theorem dX11_image_93 : decode cX11_image 93 = .ok (.getfield 161, 3) := by decide +kernel
theorem dX11_image_96 : decode cX11_image 96 = .ok (.iload_n 1, 1) := by decide +kernel
theorem dX11_image_97 : decode cX11_image 97 = .ok (.baload, 1) := by decide +kernel
theorem dX11_image_98 : decode cX11_image 98 = .ok (.bastore, 1) := by decide +kernel
theorem dX11_image_99 : decode cX11_image 99 = .ok (.iinc 1 1, 3) := by decide +kernel
theorem dX11_image_102 : decode cX11_image 102 = .ok (.goto (-21), 3) := by decide +kernel
theorem dX11_image_105 : decode cX11_image 105 = .ok (.aload_n 0, 1) := by decide +kernel
theorem dX11_image_106 : decode cX11_image 106 = .ok (.getfield 189, 3) := by decide +kernel
theorem dX11_image_109 : decode cX11_image 109 = .ok (.aload_n 0, 1) := by decide +kernel
theorem dX11_image_110 : decode cX11_image 110 = .ok (.getfield 92, 3) := by decide +kernel
theorem dX11_image_113 : decode cX11_image 113 = .ok (.invokestatic 509, 3) := by decide +kernel
theorem dX11_image_116 : decode cX11_image 116 = .ok (.return_, 1) := by decide +kernel
theorem dX11_restore_0 : decode cX11_restore 0 = .ok (.aload_n 0, 1) := by decide +kernel
theorem dX11_restore_1 : decode cX11_restore 1 = .ok (.iconst 0, 1) := by decide +kernel
theorem dX11_restore_2 : decode cX11_restore 2 = .ok (.putfield 195, 3) := by decide +kernel
theorem dX11_restore_5 : decode cX11_restore 5 = .ok (.aload_n 0, 1) := by decide +kernel
theorem dX11_restore_6 : decode cX11_restore 6 = .ok (.getfield 356, 3) := by decide +kernel
theorem dX11_restore_9 : decode cX11_restore 9 = .ok (.ifCond .ne 5, 3) := by decide +kernel
theorem dX11_restore_12 : decode cX11_restore 12 = .ok (.iconst 0, 1) := by decide +kernel
theorem dX11_restore_13 : decode cX11_restore 13 = .ok (.ireturn, 1) := by decide +kernel
theorem dX11_restore_14 : decode cX11_restore 14 = .ok (.aload_n 0, 1) := by decide +kernel
theorem dX11_restore_15 : decode cX11_restore 15 = .ok (.aload_n 0, 1) := by decide +kernel
theorem dX11_restore_16 : decode cX11_restore 16 = .ok (.getfield 503, 3) := by decide +kernel
theorem dX11_restore_19 : decode cX11_restore 19 = .ok (.putfield 350, 3) := by decide +kernel
theorem dX11_restore_22 : decode cX11_restore 22 = .ok (.aload_n 0, 1) := by decide +kernel
theorem dX11_restore_23 : decode cX11_restore 23 = .ok (.aload_n 0, 1) := by decide +kernel
theorem dX11_restore_24 : decode cX11_restore 24 = .ok (.getfield 506, 3) := by decide +kernel
theorem dX11_restore_27 : decode cX11_restore 27 = .ok (.putfield 353, 3) := by decide +kernel
theorem dX11_restore_30 : decode cX11_restore 30 = .ok (.aload_n 0, 1) := by decide +kernel
theorem dX11_restore_31 : decode cX11_restore 31 = .ok (.aload_n 0, 1) := by decide +kernel
theorem dX11_restore_32 : decode cX11_restore 32 = .ok (.getfield 174, 3) := by decide +kernel
theorem dX11_restore_35 : decode cX11_restore 35 = .ok (.iconst 0, 1) := by decide +kernel
theorem dX11_restore_36 : decode cX11_restore 36 = .ok (.invokevirtual 439, 3) := by decide +kernel
theorem dX11_restore_39 : decode cX11_restore 39 = .ok (.aload_n 0, 1) := by decide +kernel
theorem dX11_restore_40 : decode cX11_restore 40 = .ok (.getfield 122, 3) := by decide +kernel
theorem dX11_restore_43 : decode cX11_restore 43 = .ok (.aload_n 0, 1) := by decide +kernel
theorem dX11_restore_44 : decode cX11_restore 44 = .ok (.getfield 177, 3) := by decide +kernel
theorem dX11_restore_47 : decode cX11_restore 47 = .ok (.invokestatic 509, 3) := by decide +kernel
theorem dX11_restore_50 : decode cX11_restore 50 = .ok (.aload_n 0, 1) := by decide +kernel
theorem dX11_restore_51 : decode cX11_restore 51 = .ok (.getfield 149, 3) := by decide +kernel
theorem dX11_restore_54 : decode cX11_restore 54 = .ok (.aload_n 0, 1) := by decide +kernel
theorem dX11_restore_55 : decode cX11_restore 55 = .ok (.getfield 180, 3) := by decide +kernel
theorem dX11_restore_58 : decode cX11_restore 58 = .ok (.invokestatic 509, 3) := by decide +kernel
theorem dX11_restore_61 : decode cX11_restore 61 = .ok (.aload_n 0, 1) := by decide +kernel
theorem dX11_restore_62 : decode cX11_restore 62 = .ok (.getfield 152, 3) := by decide +kernel
theorem dX11_restore_65 : decode cX11_restore 65 = .ok (.aload_n 0, 1) := by decide +kernel
theorem dX11_restore_66 : decode cX11_restore 66 = .ok (.getfield 183, 3) := by decide +kernel
theorem dX11_restore_69 : decode cX11_restore 69 = .ok (.invokestatic 509, 3) := by decide +kernel
theorem dX11_restore_72 : decode cX11_restore 72 = .ok (.aload_n 0, 1) := by decide +kernel
theorem dX11_restore_73 : decode cX11_restore 73 = .ok (.getfield 155, 3) := by decide +kernel
theorem dX11_restore_76 : decode cX11_restore 76 = .ok (.aload_n 0, 1) := by decide +kernel
theorem dX11_restore_77 : decode cX11_restore 77 = .ok (.getfield 186, 3) := by decide +kernel
theorem dX11_restore_80 : decode cX11_restore 80 = .ok (.invokestatic 509, 3) := by decide +kernel
theorem dX11_restore_83 : decode cX11_restore 83 = .ok (.iconst 0, 1) := by decide +kernel
theorem dX11_restore_84 : decode cX11_restore 84 = .ok (.istore_n 1, 1) := by decide +kernel
theorem dX11_restore_85 : decode cX11_restore 85 = .ok (.iload_n 1, 1) := by decide +kernel
theorem dX11_restore_86 : decode cX11_restore 86 = .ok (.bipush 8, 2) := by decide +kernel
theorem dX11_restore_88 : decode cX11_restore 88 = .ok (.if_icmp .ge 21, 3) := by decide +kernel
theorem dX11_restore_91 : decode cX11_restore 91 = .ok (.aload_n 0, 1) := by decide +kernel
theorem dX11_restore_92 : decode cX11_restore 92 = .ok (.getfield 161, 3) := by decide +kernel
theorem dX11_restore_95 : decode cX11_restore 95 = .ok (.iload_n 1, 1) := by decide +kernel
theorem dX11_restore_96 : decode cX11_restore 96 = .ok (.aload_n 0, 1) := by decide +kernel
theorem dX11_restore_97 : decode cX11_restore 97 = .ok (.getfield 192, 3) := by decide +kernel
theorem dX11_restore_100 : decode cX11_restore 100 = .ok (.iload_n 1, 1) := by decide +kernel
theorem dX11_restore_101 : decode cX11_restore 101 = .ok (.baload, 1) := by decide +kernel
theorem dX11_restore_102 : decode cX11_restore 102 = .ok (.bastore, 1) := by decide +kernel
theorem dX11_restore_103 : decode cX11_restore 103 = .ok (.iinc 1 1, 3) := by decide +kernel
theorem dX11_restore_106 : decode cX11_restore 106 = .ok (.goto (-21), 3) := by decide +kernel
theorem dX11_restore_109 : decode cX11_restore 109 = .ok (.aload_n 0, 1) := by decide +kernel
theorem dX11_restore_110 : decode cX11_restore 110 = .ok (.getfield 92, 3) := by decide +kernel
theorem dX11_restore_113 : decode cX11_restore 113 = .ok (.aload_n 0, 1) := by decide +kernel
theorem dX11_restore_114 : decode cX11_restore 114 = .ok (.getfield 189, 3) := by decide +kernel
theorem dX11_restore_117 : decode cX11_restore 117 = .ok (.invokestatic 509, 3) := by decide +kernel
theorem dX11_restore_120 : decode cX11_restore 120 = .ok (.iconst 1, 1) := by decide +kernel
theorem dX11_restore_121 : decode cX11_restore 121 = .ok (.ireturn, 1) := by decide +kernel
theorem dJ6_bitCount_0f7a4_0 : decode cJ6_bitCount_0f7a4 0 = .ok (.iload_n 0, 1) := by decide +kernel
theorem dJ6_bitCount_0f7a4_1 : decode cJ6_bitCount_0f7a4 1 = .ok (.iload_n 0, 1) := by decide +kernel
theorem dJ6_bitCount_0f7a4_2 : decode cJ6_bitCount_0f7a4 2 = .ok (.iconst 1, 1) := by decide +kernel
theorem dJ6_bitCount_0f7a4_3 : decode cJ6_bitCount_0f7a4 3 = .ok (.iushr, 1) := by decide +kernel
theorem dJ6_bitCount_0f7a4_4 : decode cJ6_bitCount_0f7a4 4 = .ok (.ldc_w 265, 3) := by decide +kernel
theorem dJ6_bitCount_0f7a4_7 : decode cJ6_bitCount_0f7a4 7 = .ok (.iand, 1) := by decide +kernel
theorem dJ6_bitCount_0f7a4_8 : decode cJ6_bitCount_0f7a4 8 = .ok (.isub, 1) := by decide +kernel
theorem dJ6_bitCount_0f7a4_9 : decode cJ6_bitCount_0f7a4 9 = .ok (.istore_n 0, 1) := by decide +kernel
theorem dJ6_bitCount_0f7a4_10 : decode cJ6_bitCount_0f7a4 10 = .ok (.iload_n 0, 1) := by decide +kernel
theorem dJ6_bitCount_0f7a4_11 : decode cJ6_bitCount_0f7a4 11 = .ok (.ldc_w 266, 3) := by decide +kernel
theorem dJ6_bitCount_0f7a4_14 : decode cJ6_bitCount_0f7a4 14 = .ok (.iand, 1) := by decide +kernel
theorem dJ6_bitCount_0f7a4_15 : decode cJ6_bitCount_0f7a4 15 = .ok (.iload_n 0, 1) := by decide +kernel
theorem dJ6_bitCount_0f7a4_16 : decode cJ6_bitCount_0f7a4 16 = .ok (.iconst 2, 1) := by decide +kernel
theorem dJ6_bitCount_0f7a4_17 : decode cJ6_bitCount_0f7a4 17 = .ok (.iushr, 1) := by decide +kernel
theorem dJ6_bitCount_0f7a4_18 : decode cJ6_bitCount_0f7a4 18 = .ok (.ldc_w 266, 3) := by decide +kernel
theorem dJ6_bitCount_0f7a4_21 : decode cJ6_bitCount_0f7a4 21 = .ok (.iand, 1) := by decide +kernel
theorem dJ6_bitCount_0f7a4_22 : decode cJ6_bitCount_0f7a4 22 = .ok (.iadd, 1) := by decide +kernel
theorem dJ6_bitCount_0f7a4_23 : decode cJ6_bitCount_0f7a4 23 = .ok (.istore_n 0, 1) := by decide +kernel
theorem dJ6_bitCount_0f7a4_24 : decode cJ6_bitCount_0f7a4 24 = .ok (.iload_n 0, 1) := by decide +kernel
theorem dJ6_bitCount_0f7a4_25 : decode cJ6_bitCount_0f7a4 25 = .ok (.iload_n 0, 1) := by decide +kernel
theorem dJ6_bitCount_0f7a4_26 : decode cJ6_bitCount_0f7a4 26 = .ok (.iconst 4, 1) := by decide +kernel
theorem dJ6_bitCount_0f7a4_27 : decode cJ6_bitCount_0f7a4 27 = .ok (.iushr, 1) := by decide +kernel
theorem dJ6_bitCount_0f7a4_28 : decode cJ6_bitCount_0f7a4 28 = .ok (.iadd, 1) := by decide +kernel
theorem dJ6_bitCount_0f7a4_29 : decode cJ6_bitCount_0f7a4 29 = .ok (.ldc_w 267, 3) := by decide +kernel
theorem dJ6_bitCount_0f7a4_32 : decode cJ6_bitCount_0f7a4 32 = .ok (.iand, 1) := by decide +kernel
theorem dJ6_bitCount_0f7a4_33 : decode cJ6_bitCount_0f7a4 33 = .ok (.istore_n 0, 1) := by decide +kernel
theorem dJ6_bitCount_0f7a4_34 : decode cJ6_bitCount_0f7a4 34 = .ok (.iload_n 0, 1) := by decide +kernel
theorem dJ6_bitCount_0f7a4_35 : decode cJ6_bitCount_0f7a4 35 = .ok (.iload_n 0, 1) := by decide +kernel
theorem dJ6_bitCount_0f7a4_36 : decode cJ6_bitCount_0f7a4 36 = .ok (.bipush 8, 2) := by decide +kernel
theorem dJ6_bitCount_0f7a4_38 : decode cJ6_bitCount_0f7a4 38 = .ok (.iushr, 1) := by decide +kernel
theorem dJ6_bitCount_0f7a4_39 : decode cJ6_bitCount_0f7a4 39 = .ok (.iadd, 1) := by decide +kernel
theorem dJ6_bitCount_0f7a4_40 : decode cJ6_bitCount_0f7a4 40 = .ok (.istore_n 0, 1) := by decide +kernel
theorem dJ6_bitCount_0f7a4_41 : decode cJ6_bitCount_0f7a4 41 = .ok (.iload_n 0, 1) := by decide +kernel
theorem dJ6_bitCount_0f7a4_42 : decode cJ6_bitCount_0f7a4 42 = .ok (.iload_n 0, 1) := by decide +kernel
theorem dJ6_bitCount_0f7a4_43 : decode cJ6_bitCount_0f7a4 43 = .ok (.bipush 16, 2) := by decide +kernel
theorem dJ6_bitCount_0f7a4_45 : decode cJ6_bitCount_0f7a4 45 = .ok (.iushr, 1) := by decide +kernel
theorem dJ6_bitCount_0f7a4_46 : decode cJ6_bitCount_0f7a4 46 = .ok (.iadd, 1) := by decide +kernel
theorem dJ6_bitCount_0f7a4_47 : decode cJ6_bitCount_0f7a4 47 = .ok (.istore_n 0, 1) := by decide +kernel
theorem dJ6_bitCount_0f7a4_48 : decode cJ6_bitCount_0f7a4 48 = .ok (.iload_n 0, 1) := by decide +kernel
theorem dJ6_bitCount_0f7a4_49 : decode cJ6_bitCount_0f7a4 49 = .ok (.bipush 63, 2) := by decide +kernel
theorem dJ6_bitCount_0f7a4_51 : decode cJ6_bitCount_0f7a4 51 = .ok (.iand, 1) := by decide +kernel
theorem dJ6_bitCount_0f7a4_52 : decode cJ6_bitCount_0f7a4 52 = .ok (.ireturn, 1) := by decide +kernel
theorem dJ9_max_7cf53_0 : decode cJ9_max_7cf53 0 = .ok (.iload_n 0, 1) := by decide +kernel
theorem dJ9_max_7cf53_1 : decode cJ9_max_7cf53 1 = .ok (.iload_n 1, 1) := by decide +kernel
theorem dJ9_max_7cf53_2 : decode cJ9_max_7cf53 2 = .ok (.if_icmp .lt 7, 3) := by decide +kernel
theorem dJ9_max_7cf53_5 : decode cJ9_max_7cf53 5 = .ok (.iload_n 0, 1) := by decide +kernel
theorem dJ9_max_7cf53_6 : decode cJ9_max_7cf53 6 = .ok (.goto 4, 3) := by decide +kernel
theorem dJ9_max_7cf53_9 : decode cJ9_max_7cf53 9 = .ok (.iload_n 1, 1) := by decide +kernel
theorem dJ9_max_7cf53_10 : decode cJ9_max_7cf53 10 = .ok (.ireturn, 1) := by decide +kernel
theorem dJ9_min_7cf53_0 : decode cJ9_min_7cf53 0 = .ok (.iload_n 0, 1) := by decide +kernel
theorem dJ9_min_7cf53_1 : decode cJ9_min_7cf53 1 = .ok (.iload_n 1, 1) := by decide +kernel
theorem dJ9_min_7cf53_2 : decode cJ9_min_7cf53 2 = .ok (.if_icmp .gt 7, 3) := by decide +kernel
theorem dJ9_min_7cf53_5 : decode cJ9_min_7cf53 5 = .ok (.iload_n 0, 1) := by decide +kernel
theorem dJ9_min_7cf53_6 : decode cJ9_min_7cf53 6 = .ok (.goto 4, 3) := by decide +kernel
theorem dJ9_min_7cf53_9 : decode cJ9_min_7cf53 9 = .ok (.iload_n 1, 1) := by decide +kernel
theorem dJ9_min_7cf53_10 : decode cJ9_min_7cf53 10 = .ok (.ireturn, 1) := by decide +kernel
theorem dJ0_length_8abf5_0 : decode cJ0_length_8abf5 0 = .ok (.aload_n 0, 1) := by decide +kernel
theorem dJ0_length_8abf5_1 : decode cJ0_length_8abf5 1 = .ok (.getfield 9, 3) := by decide +kernel
theorem dJ0_length_8abf5_4 : decode cJ0_length_8abf5 4 = .ok (.arraylength, 1) := by decide +kernel
theorem dJ0_length_8abf5_5 : decode cJ0_length_8abf5 5 = .ok (.aload_n 0, 1) := by decide +kernel
theorem dJ0_length_8abf5_6 : decode cJ0_length_8abf5 6 = .ok (.invokevirtual 335, 3) := by decide +kernel
theorem dJ0_length_8abf5_9 : decode cJ0_length_8abf5 9 = .ok (.ishr, 1) := by decide +kernel
theorem dJ0_length_8abf5_10 : decode cJ0_length_8abf5 10 = .ok (.ireturn, 1) := by decide +kernel
theorem dJ0_charAt_5068e_0 : decode cJ0_charAt_5068e 0 = .ok (.aload_n 0, 1) := by decide +kernel
theorem dJ0_charAt_5068e_1 : decode cJ0_charAt_5068e 1 = .ok (.invokevirtual 492, 3) := by decide +kernel
theorem dJ0_charAt_5068e_4 : decode cJ0_charAt_5068e 4 = .ok (.ifCond .eq 12, 3) := by decide +kernel
theorem dJ0_charAt_5068e_7 : decode cJ0_charAt_5068e 7 = .ok (.aload_n 0, 1) := by decide +kernel
theorem dJ0_charAt_5068e_8 : decode cJ0_charAt_5068e 8 = .ok (.getfield 9, 3) := by decide +kernel
theorem dJ0_charAt_5068e_11 : decode cJ0_charAt_5068e 11 = .ok (.iload_n 1, 1) := by decide +kernel
theorem dJ0_charAt_5068e_12 : decode cJ0_charAt_5068e 12 = .ok (.invokestatic 495, 3) := by decide +kernel
theorem dJ0_charAt_5068e_15 : decode cJ0_charAt_5068e 15 = .ok (.ireturn, 1) := by decide +kernel
theorem dJ0_charAt_5068e_16 : decode cJ0_charAt_5068e 16 = .ok (.aload_n 0, 1) := by decide +kernel
theorem dJ0_charAt_5068e_17 : decode cJ0_charAt_5068e 17 = .ok (.getfield 9, 3) := by decide +kernel
theorem dJ0_charAt_5068e_20 : decode cJ0_charAt_5068e 20 = .ok (.iload_n 1, 1) := by decide +kernel
theorem dJ0_charAt_5068e_21 : decode cJ0_charAt_5068e 21 = .ok (.invokestatic 498, 3) := by decide +kernel
theorem dJ0_charAt_5068e_24 : decode cJ0_charAt_5068e 24 = .ok (.ireturn, 1) := by decide +kernel
theorem dJ0_coder_7d493_0 : decode cJ0_coder_7d493 0 = .ok (.getstatic 38, 3) := by decide +kernel
theorem dJ0_coder_7d493_3 : decode cJ0_coder_7d493 3 = .ok (.ifCond .eq 10, 3) := by decide +kernel
theorem dJ0_coder_7d493_6 : decode cJ0_coder_7d493 6 = .ok (.aload_n 0, 1) := by decide +kernel
theorem dJ0_coder_7d493_7 : decode cJ0_coder_7d493 7 = .ok (.getfield 15, 3) := by decide +kernel
theorem dJ0_coder_7d493_10 : decode cJ0_coder_7d493 10 = .ok (.goto 4, 3) := by decide +kernel
theorem dJ0_coder_7d493_13 : decode cJ0_coder_7d493 13 = .ok (.iconst 1, 1) := by decide +kernel
theorem dJ0_coder_7d493_14 : decode cJ0_coder_7d493 14 = .ok (.ireturn, 1) := by decide +kernel
theorem dJ0_isLatin1_aae02_0 : decode cJ0_isLatin1_aae02 0 = .ok (.getstatic 38, 3) := by decide +kernel
theorem dJ0_isLatin1_aae02_3 : decode cJ0_isLatin1_aae02 3 = .ok (.ifCond .eq 14, 3) := by decide +kernel
theorem dJ0_isLatin1_aae02_6 : decode cJ0_isLatin1_aae02 6 = .ok (.aload_n 0, 1) := by decide +kernel
theorem dJ0_isLatin1_aae02_7 : decode cJ0_isLatin1_aae02 7 = .ok (.getfield 15, 3) := by decide +kernel
theorem dJ0_isLatin1_aae02_10 : decode cJ0_isLatin1_aae02 10 = .ok (.ifCond .ne 7, 3) := by decide +kernel
theorem dJ0_isLatin1_aae02_13 : decode cJ0_isLatin1_aae02 13 = .ok (.iconst 1, 1) := by decide +kernel
theorem dJ0_isLatin1_aae02_14 : decode cJ0_isLatin1_aae02 14 = .ok (.goto 4, 3) := by decide +kernel
theorem dJ0_isLatin1_aae02_17 : decode cJ0_isLatin1_aae02 17 = .ok (.iconst 0, 1) := by decide +kernel
theorem dJ0_isLatin1_aae02_18 : decode cJ0_isLatin1_aae02 18 = .ok (.ireturn, 1) := by decide +kernel
theorem dJ0_checkIndex_df160_0 : decode cJ0_checkIndex_df160 0 = .ok (.iload_n 0, 1) := by decide +kernel
theorem dJ0_checkIndex_df160_1 : decode cJ0_checkIndex_df160 1 = .ok (.iload_n 1, 1) := by decide +kernel
theorem dJ0_checkIndex_df160_2 : decode cJ0_checkIndex_df160 2 = .ok (.getstatic 1053, 3) := by decide +kernel
theorem dJ0_checkIndex_df160_5 : decode cJ0_checkIndex_df160 5 = .ok (.invokestatic 1059, 3) := by decide +kernel
theorem dJ0_checkIndex_df160_8 : decode cJ0_checkIndex_df160 8 = .ok (.pop, 1) := by decide +kernel
theorem dJ0_checkIndex_df160_9 : decode cJ0_checkIndex_df160 9 = .ok (.return_, 1) := by decide +kernel
theorem dJ1_charAt_3b067_0 : decode cJ1_charAt_3b067 0 = .ok (.iload_n 1, 1) := by decide +kernel
theorem dJ1_charAt_3b067_1 : decode cJ1_charAt_3b067 1 = .ok (.aload_n 0, 1) := by decide +kernel
theorem dJ1_charAt_3b067_2 : decode cJ1_charAt_3b067 2 = .ok (.arraylength, 1) := by decide +kernel
theorem dJ1_charAt_3b067_3 : decode cJ1_charAt_3b067 3 = .ok (.invokestatic 9, 3) := by decide +kernel
theorem dJ1_charAt_3b067_6 : decode cJ1_charAt_3b067 6 = .ok (.aload_n 0, 1) := by decide +kernel
theorem dJ1_charAt_3b067_7 : decode cJ1_charAt_3b067 7 = .ok (.iload_n 1, 1) := by decide +kernel
theorem dJ1_charAt_3b067_8 : decode cJ1_charAt_3b067 8 = .ok (.baload, 1) := by decide +kernel
theorem dJ1_charAt_3b067_9 : decode cJ1_charAt_3b067 9 = .ok (.sipush 255, 3) := by decide +kernel
theorem dJ1_charAt_3b067_12 : decode cJ1_charAt_3b067 12 = .ok (.iand, 1) := by decide +kernel
theorem dJ1_charAt_3b067_13 : decode cJ1_charAt_3b067 13 = .ok (.i2c, 1) := by decide +kernel
theorem dJ1_charAt_3b067_14 : decode cJ1_charAt_3b067 14 = .ok (.ireturn, 1) := by decide +kernel
theorem dJ2_getChar_3b067_0 : decode cJ2_getChar_3b067 0 = .ok (.getstatic 44, 3) := by decide +kernel
theorem dJ2_getChar_3b067_3 : decode cJ2_getChar_3b067 3 = .ok (.ifCond .ne 25, 3) := by decide +kernel
theorem dJ2_getChar_3b067_6 : decode cJ2_getChar_3b067 6 = .ok (.iload_n 1, 1) := by decide +kernel
theorem dJ2_getChar_3b067_7 : decode cJ2_getChar_3b067 7 = .ok (.ifCond .lt 11, 3) := by decide +kernel
theorem dJ2_getChar_3b067_10 : decode cJ2_getChar_3b067 10 = .ok (.iload_n 1, 1) := by decide +kernel
theorem dJ2_getChar_3b067_11 : decode cJ2_getChar_3b067 11 = .ok (.aload_n 0, 1) := by decide +kernel
theorem dJ2_getChar_3b067_12 : decode cJ2_getChar_3b067 12 = .ok (.invokestatic 48, 3) := by decide +kernel
theorem dJ2_getChar_3b067_15 : decode cJ2_getChar_3b067 15 = .ok (.if_icmp .lt 13, 3) := by decide +kernel
theorem dJ2_getChar_3b067_18 : decode cJ2_getChar_3b067 18 = .ok (.new 52, 3) := by decide +kernel
theorem dJ2_getChar_3b067_21 : decode cJ2_getChar_3b067 21 = .ok (.dup, 1) := by decide +kernel
theorem dJ2_getChar_3b067_22 : decode cJ2_getChar_3b067 22 = .ok (.ldc 54, 2) := by decide +kernel
theorem dJ2_getChar_3b067_24 : decode cJ2_getChar_3b067 24 = .ok (.invokespecial 56, 3) := by decide +kernel
theorem dJ2_getChar_3b067_27 : decode cJ2_getChar_3b067 27 = .ok (.athrow, 1) := by decide +kernel
theorem dJ2_getChar_3b067_28 : decode cJ2_getChar_3b067 28 = .ok (.iload_n 1, 1) := by decide +kernel
theorem dJ2_getChar_3b067_29 : decode cJ2_getChar_3b067 29 = .ok (.iconst 1, 1) := by decide +kernel
theorem dJ2_getChar_3b067_30 : decode cJ2_getChar_3b067 30 = .ok (.ishl, 1) := by decide +kernel
theorem dJ2_getChar_3b067_31 : decode cJ2_getChar_3b067 31 = .ok (.istore_n 1, 1) := by decide +kernel
theorem dJ2_getChar_3b067_32 : decode cJ2_getChar_3b067 32 = .ok (.aload_n 0, 1) := by decide +kernel
theorem dJ2_getChar_3b067_33 : decode cJ2_getChar_3b067 33 = .ok (.iload_n 1, 1) := by decide +kernel
theorem dJ2_getChar_3b067_34 : decode cJ2_getChar_3b067 34 = .ok (.iinc 1 1, 3) := by decide +kernel
theorem dJ2_getChar_3b067_37 : decode cJ2_getChar_3b067 37 = .ok (.baload, 1) := by decide +kernel
theorem dJ2_getChar_3b067_38 : decode cJ2_getChar_3b067 38 = .ok (.sipush 255, 3) := by decide +kernel
theorem dJ2_getChar_3b067_41 : decode cJ2_getChar_3b067 41 = .ok (.iand, 1) := by decide +kernel
theorem dJ2_getChar_3b067_42 : decode cJ2_getChar_3b067 42 = .ok (.getstatic 59, 3) := by decide +kernel
theorem dJ2_getChar_3b067_45 : decode cJ2_getChar_3b067 45 = .ok (.ishl, 1) := by decide +kernel
theorem dJ2_getChar_3b067_46 : decode cJ2_getChar_3b067 46 = .ok (.aload_n 0, 1) := by decide +kernel
theorem dJ2_getChar_3b067_47 : decode cJ2_getChar_3b067 47 = .ok (.iload_n 1, 1) := by decide +kernel
theorem dJ2_getChar_3b067_48 : decode cJ2_getChar_3b067 48 = .ok (.baload, 1) := by decide +kernel
theorem dJ2_getChar_3b067_49 : decode cJ2_getChar_3b067 49 = .ok (.sipush 255, 3) := by decide +kernel
theorem dJ2_getChar_3b067_52 : decode cJ2_getChar_3b067 52 = .ok (.iand, 1) := by decide +kernel
theorem dJ2_getChar_3b067_53 : decode cJ2_getChar_3b067 53 = .ok (.getstatic 63, 3) := by decide +kernel
theorem dJ2_getChar_3b067_56 : decode cJ2_getChar_3b067 56 = .ok (.ishl, 1) := by decide +kernel
theorem dJ2_getChar_3b067_57 : decode cJ2_getChar_3b067 57 = .ok (.ior, 1) := by decide +kernel
theorem dJ2_getChar_3b067_58 : decode cJ2_getChar_3b067 58 = .ok (.i2c, 1) := by decide +kernel
theorem dJ2_getChar_3b067_59 : decode cJ2_getChar_3b067 59 = .ok (.ireturn, 1) := by decide +kernel
theorem dJ2_length_9d52b_0 : decode cJ2_length_9d52b 0 = .ok (.aload_n 0, 1) := by decide +kernel
theorem dJ2_length_9d52b_1 : decode cJ2_length_9d52b 1 = .ok (.arraylength, 1) := by decide +kernel
theorem dJ2_length_9d52b_2 : decode cJ2_length_9d52b 2 = .ok (.iconst 1, 1) := by decide +kernel
theorem dJ2_length_9d52b_3 : decode cJ2_length_9d52b 3 = .ok (.ishr, 1) := by decide +kernel
theorem dJ2_length_9d52b_4 : decode cJ2_length_9d52b 4 = .ok (.ireturn, 1) := by decide +kernel
theorem dJ2_charAt_3b067_0 : decode cJ2_charAt_3b067 0 = .ok (.iload_n 1, 1) := by decide +kernel
theorem dJ2_charAt_3b067_1 : decode cJ2_charAt_3b067 1 = .ok (.aload_n 0, 1) := by decide +kernel
theorem dJ2_charAt_3b067_2 : decode cJ2_charAt_3b067 2 = .ok (.invokestatic 67, 3) := by decide +kernel
theorem dJ2_charAt_3b067_5 : decode cJ2_charAt_3b067 5 = .ok (.aload_n 0, 1) := by decide +kernel
theorem dJ2_charAt_3b067_6 : decode cJ2_charAt_3b067 6 = .ok (.iload_n 1, 1) := by decide +kernel
theorem dJ2_charAt_3b067_7 : decode cJ2_charAt_3b067 7 = .ok (.invokestatic 71, 3) := by decide +kernel
theorem dJ2_charAt_3b067_10 : decode cJ2_charAt_3b067 10 = .ok (.ireturn, 1) := by decide +kernel
theorem dJ2_checkIndex_2214a_0 : decode cJ2_checkIndex_2214a 0 = .ok (.iload_n 0, 1) := by decide +kernel
theorem dJ2_checkIndex_2214a_1 : decode cJ2_checkIndex_2214a 1 = .ok (.aload_n 1, 1) := by decide +kernel
theorem dJ2_checkIndex_2214a_2 : decode cJ2_checkIndex_2214a 2 = .ok (.invokestatic 48, 3) := by decide +kernel
theorem dJ2_checkIndex_2214a_5 : decode cJ2_checkIndex_2214a 5 = .ok (.invokestatic 414, 3) := by decide +kernel
theorem dJ2_checkIndex_2214a_8 : decode cJ2_checkIndex_2214a 8 = .ok (.return_, 1) := by decide +kernel
theorem dJ3_checkIndex_8e157_0 : decode cJ3_checkIndex_8e157 0 = .ok (.iload_n 0, 1) := by decide +kernel
theorem dJ3_checkIndex_8e157_1 : decode cJ3_checkIndex_8e157 1 = .ok (.ifCond .lt 8, 3) := by decide +kernel
theorem dJ3_checkIndex_8e157_4 : decode cJ3_checkIndex_8e157 4 = .ok (.iload_n 0, 1) := by decide +kernel
theorem dJ3_checkIndex_8e157_5 : decode cJ3_checkIndex_8e157 5 = .ok (.iload_n 1, 1) := by decide +kernel
theorem dJ3_checkIndex_8e157_6 : decode cJ3_checkIndex_8e157 6 = .ok (.if_icmp .lt 10, 3) := by decide +kernel
theorem dJ3_checkIndex_8e157_9 : decode cJ3_checkIndex_8e157 9 = .ok (.aload_n 2, 1) := by decide +kernel
theorem dJ3_checkIndex_8e157_10 : decode cJ3_checkIndex_8e157 10 = .ok (.iload_n 0, 1) := by decide +kernel
theorem dJ3_checkIndex_8e157_11 : decode cJ3_checkIndex_8e157 11 = .ok (.iload_n 1, 1) := by decide +kernel
theorem dJ3_checkIndex_8e157_12 : decode cJ3_checkIndex_8e157 12 = .ok (.invokestatic 95, 3) := by decide +kernel
theorem dJ3_checkIndex_8e157_15 : decode cJ3_checkIndex_8e157 15 = .ok (.athrow, 1) := by decide +kernel
theorem dJ3_checkIndex_8e157_16 : decode cJ3_checkIndex_8e157 16 = .ok (.iload_n 0, 1) := by decide +kernel
theorem dJ3_checkIndex_8e157_17 : decode cJ3_checkIndex_8e157 17 = .ok (.ireturn, 1) := by decide +kernel
theorem dL_terrace_0 : decode cL_terrace 0 = .ok (.aload_n 2, 1) := by decide +kernel
theorem dL_terrace_1 : decode cL_terrace 1 = .ok (.iconst 0, 1) := by decide +kernel
theorem dL_terrace_2 : decode cL_terrace 2 = .ok (.aload_n 0, 1) := by decide +kernel
theorem dL_terrace_3 : decode cL_terrace 3 = .ok (.iload_n 1, 1) := by decide +kernel
theorem dL_terrace_4 : decode cL_terrace 4 = .ok (.invokevirtual 7, 3) := by decide +kernel
theorem dL_terrace_7 : decode cL_terrace 7 = .ok (.i2l, 1) := by decide +kernel
theorem dL_terrace_8 : decode cL_terrace 8 = .ok (.lastore, 1) := by decide +kernel
theorem dL_terrace_9 : decode cL_terrace 9 = .ok (.goto 6, 3) := by decide +kernel
theorem dL_terrace_12 : decode cL_terrace 12 = .ok (.astore_n 3, 1) := by decide +kernel
theorem dL_terrace_13 : decode cL_terrace 13 = .ok (.iconst 1, 1) := by decide +kernel
theorem dL_terrace_14 : decode cL_terrace 14 = .ok (.ireturn, 1) := by decide +kernel
theorem dL_terrace_15 : decode cL_terrace 15 = .ok (.iconst 0, 1) := by decide +kernel
theorem dL_terrace_16 : decode cL_terrace 16 = .ok (.ireturn, 1) := by decide +kernel
theorem dL_count_0 : decode cL_count 0 = .ok (.aload_n 2, 1) := by decide +kernel
theorem dL_count_1 : decode cL_count 1 = .ok (.iconst 0, 1) := by decide +kernel
theorem dL_count_2 : decode cL_count 2 = .ok (.aload_n 0, 1) := by decide +kernel
theorem dL_count_3 : decode cL_count 3 = .ok (.iload_n 1, 1) := by decide +kernel
theorem dL_count_4 : decode cL_count 4 = .ok (.invokevirtual 15, 3) := by decide +kernel
theorem dL_count_7 : decode cL_count 7 = .ok (.i2l, 1) := by decide +kernel
theorem dL_count_8 : decode cL_count 8 = .ok (.lastore, 1) := by decide +kernel
theorem dL_count_9 : decode cL_count 9 = .ok (.goto 6, 3) := by decide +kernel
theorem dL_count_12 : decode cL_count 12 = .ok (.astore_n 3, 1) := by decide +kernel
theorem dL_count_13 : decode cL_count 13 = .ok (.iconst 1, 1) := by decide +kernel
theorem dL_count_14 : decode cL_count 14 = .ok (.ireturn, 1) := by decide +kernel
theorem dL_count_15 : decode cL_count 15 = .ok (.iconst 0, 1) := by decide +kernel
theorem dL_count_16 : decode cL_count 16 = .ok (.ireturn, 1) := by decide +kernel
theorem dL_house_0 : decode cL_house 0 = .ok (.aload_n 3, 1) := by decide +kernel
theorem dL_house_1 : decode cL_house 1 = .ok (.iconst 0, 1) := by decide +kernel
theorem dL_house_2 : decode cL_house 2 = .ok (.aload_n 0, 1) := by decide +kernel
theorem dL_house_3 : decode cL_house 3 = .ok (.iload_n 1, 1) := by decide +kernel
theorem dL_house_4 : decode cL_house 4 = .ok (.iload_n 2, 1) := by decide +kernel
theorem dL_house_5 : decode cL_house 5 = .ok (.invokevirtual 20, 3) := by decide +kernel
theorem dL_house_8 : decode cL_house 8 = .ok (.i2l, 1) := by decide +kernel
theorem dL_house_9 : decode cL_house 9 = .ok (.lastore, 1) := by decide +kernel
theorem dL_house_10 : decode cL_house 10 = .ok (.goto 7, 3) := by decide +kernel
theorem dL_house_13 : decode cL_house 13 = .ok (.astore 4, 2) := by decide +kernel
theorem dL_house_15 : decode cL_house 15 = .ok (.iconst 1, 1) := by decide +kernel
theorem dL_house_16 : decode cL_house 16 = .ok (.ireturn, 1) := by decide +kernel
theorem dL_house_17 : decode cL_house 17 = .ok (.iconst 0, 1) := by decide +kernel
theorem dL_house_18 : decode cL_house 18 = .ok (.ireturn, 1) := by decide +kernel
theorem dL_tenant_0 : decode cL_tenant 0 = .ok (.aload_n 3, 1) := by decide +kernel
theorem dL_tenant_1 : decode cL_tenant 1 = .ok (.iconst 0, 1) := by decide +kernel
theorem dL_tenant_2 : decode cL_tenant 2 = .ok (.aload_n 0, 1) := by decide +kernel
theorem dL_tenant_3 : decode cL_tenant 3 = .ok (.iload_n 1, 1) := by decide +kernel
theorem dL_tenant_4 : decode cL_tenant 4 = .ok (.iload_n 2, 1) := by decide +kernel
theorem dL_tenant_5 : decode cL_tenant 5 = .ok (.invokevirtual 24, 3) := by decide +kernel
theorem dL_tenant_8 : decode cL_tenant 8 = .ok (.i2l, 1) := by decide +kernel
theorem dL_tenant_9 : decode cL_tenant 9 = .ok (.lastore, 1) := by decide +kernel
theorem dL_tenant_10 : decode cL_tenant 10 = .ok (.goto 7, 3) := by decide +kernel
theorem dL_tenant_13 : decode cL_tenant 13 = .ok (.astore 4, 2) := by decide +kernel
theorem dL_tenant_15 : decode cL_tenant 15 = .ok (.iconst 1, 1) := by decide +kernel
theorem dL_tenant_16 : decode cL_tenant 16 = .ok (.ireturn, 1) := by decide +kernel
theorem dL_tenant_17 : decode cL_tenant 17 = .ok (.iconst 0, 1) := by decide +kernel
theorem dL_tenant_18 : decode cL_tenant 18 = .ok (.ireturn, 1) := by decide +kernel
theorem dL_buy_0 : decode cL_buy 0 = .ok (.aload_n 3, 1) := by decide +kernel
theorem dL_buy_1 : decode cL_buy 1 = .ok (.iconst 0, 1) := by decide +kernel
theorem dL_buy_2 : decode cL_buy 2 = .ok (.aload_n 0, 1) := by decide +kernel
theorem dL_buy_3 : decode cL_buy 3 = .ok (.iload_n 1, 1) := by decide +kernel
theorem dL_buy_4 : decode cL_buy 4 = .ok (.iload_n 2, 1) := by decide +kernel
theorem dL_buy_5 : decode cL_buy 5 = .ok (.invokevirtual 27, 3) := by decide +kernel
theorem dL_buy_8 : decode cL_buy 8 = .ok (.i2l, 1) := by decide +kernel
theorem dL_buy_9 : decode cL_buy 9 = .ok (.lastore, 1) := by decide +kernel
theorem dL_buy_10 : decode cL_buy 10 = .ok (.goto 7, 3) := by decide +kernel
theorem dL_buy_13 : decode cL_buy 13 = .ok (.astore 4, 2) := by decide +kernel
theorem dL_buy_15 : decode cL_buy 15 = .ok (.iconst 1, 1) := by decide +kernel
theorem dL_buy_16 : decode cL_buy 16 = .ok (.ireturn, 1) := by decide +kernel
theorem dL_buy_17 : decode cL_buy 17 = .ok (.iconst 0, 1) := by decide +kernel
theorem dL_buy_18 : decode cL_buy 18 = .ok (.ireturn, 1) := by decide +kernel
theorem dL_cats_0 : decode cL_cats 0 = .ok (.aload_n 3, 1) := by decide +kernel
theorem dL_cats_1 : decode cL_cats 1 = .ok (.iconst 0, 1) := by decide +kernel
theorem dL_cats_2 : decode cL_cats 2 = .ok (.aload_n 0, 1) := by decide +kernel
theorem dL_cats_3 : decode cL_cats 3 = .ok (.iload_n 1, 1) := by decide +kernel
theorem dL_cats_4 : decode cL_cats 4 = .ok (.iload_n 2, 1) := by decide +kernel
theorem dL_cats_5 : decode cL_cats 5 = .ok (.invokevirtual 30, 3) := by decide +kernel
theorem dL_cats_8 : decode cL_cats 8 = .ok (.i2l, 1) := by decide +kernel
theorem dL_cats_9 : decode cL_cats 9 = .ok (.lastore, 1) := by decide +kernel
theorem dL_cats_10 : decode cL_cats 10 = .ok (.goto 7, 3) := by decide +kernel
theorem dL_cats_13 : decode cL_cats 13 = .ok (.astore 4, 2) := by decide +kernel
theorem dL_cats_15 : decode cL_cats 15 = .ok (.iconst 1, 1) := by decide +kernel
theorem dL_cats_16 : decode cL_cats 16 = .ok (.ireturn, 1) := by decide +kernel
theorem dL_cats_17 : decode cL_cats 17 = .ok (.iconst 0, 1) := by decide +kernel
theorem dL_cats_18 : decode cL_cats 18 = .ok (.ireturn, 1) := by decide +kernel
theorem dL_lead_0 : decode cL_lead 0 = .ok (.aload_n 3, 1) := by decide +kernel
theorem dL_lead_1 : decode cL_lead 1 = .ok (.iconst 0, 1) := by decide +kernel
theorem dL_lead_2 : decode cL_lead 2 = .ok (.aload_n 0, 1) := by decide +kernel
theorem dL_lead_3 : decode cL_lead 3 = .ok (.iload_n 1, 1) := by decide +kernel
theorem dL_lead_4 : decode cL_lead 4 = .ok (.iload_n 2, 1) := by decide +kernel
theorem dL_lead_5 : decode cL_lead 5 = .ok (.invokevirtual 33, 3) := by decide +kernel
theorem dL_lead_8 : decode cL_lead 8 = .ok (.ifCond .eq 7, 3) := by decide +kernel
theorem dL_lead_11 : decode cL_lead 11 = .ok (.lconst 1, 1) := by decide +kernel
theorem dL_lead_12 : decode cL_lead 12 = .ok (.goto 4, 3) := by decide +kernel
theorem dL_lead_15 : decode cL_lead 15 = .ok (.lconst 0, 1) := by decide +kernel
theorem dL_lead_16 : decode cL_lead 16 = .ok (.lastore, 1) := by decide +kernel
theorem dL_lead_17 : decode cL_lead 17 = .ok (.goto 7, 3) := by decide +kernel
theorem dL_lead_20 : decode cL_lead 20 = .ok (.astore 4, 2) := by decide +kernel
theorem dL_lead_22 : decode cL_lead 22 = .ok (.iconst 1, 1) := by decide +kernel
theorem dL_lead_23 : decode cL_lead 23 = .ok (.ireturn, 1) := by decide +kernel
theorem dL_lead_24 : decode cL_lead 24 = .ok (.iconst 0, 1) := by decide +kernel
theorem dL_lead_25 : decode cL_lead 25 = .ok (.ireturn, 1) := by decide +kernel
theorem dL_temper_0 : decode cL_temper 0 = .ok (.aload_n 3, 1) := by decide +kernel
theorem dL_temper_1 : decode cL_temper 1 = .ok (.iconst 0, 1) := by decide +kernel
theorem dL_temper_2 : decode cL_temper 2 = .ok (.aload_n 0, 1) := by decide +kernel
theorem dL_temper_3 : decode cL_temper 3 = .ok (.iload_n 1, 1) := by decide +kernel
theorem dL_temper_4 : decode cL_temper 4 = .ok (.iload_n 2, 1) := by decide +kernel
theorem dL_temper_5 : decode cL_temper 5 = .ok (.invokevirtual 37, 3) := by decide +kernel
theorem dL_temper_8 : decode cL_temper 8 = .ok (.i2l, 1) := by decide +kernel
theorem dL_temper_9 : decode cL_temper 9 = .ok (.lastore, 1) := by decide +kernel
theorem dL_temper_10 : decode cL_temper 10 = .ok (.goto 7, 3) := by decide +kernel
theorem dL_temper_13 : decode cL_temper 13 = .ok (.astore 4, 2) := by decide +kernel
theorem dL_temper_15 : decode cL_temper 15 = .ok (.iconst 1, 1) := by decide +kernel
theorem dL_temper_16 : decode cL_temper 16 = .ok (.ireturn, 1) := by decide +kernel
theorem dL_temper_17 : decode cL_temper 17 = .ok (.iconst 0, 1) := by decide +kernel
theorem dL_temper_18 : decode cL_temper 18 = .ok (.ireturn, 1) := by decide +kernel
theorem dL_then_0 : decode cL_then 0 = .ok (.aload_n 3, 1) := by decide +kernel
theorem dL_then_1 : decode cL_then 1 = .ok (.iconst 0, 1) := by decide +kernel
theorem dL_then_2 : decode cL_then 2 = .ok (.aload_n 0, 1) := by decide +kernel
theorem dL_then_3 : decode cL_then 3 = .ok (.iload_n 1, 1) := by decide +kernel
theorem dL_then_4 : decode cL_then 4 = .ok (.iload_n 2, 1) := by decide +kernel
theorem dL_then_5 : decode cL_then 5 = .ok (.invokevirtual 40, 3) := by decide +kernel
theorem dL_then_8 : decode cL_then 8 = .ok (.i2l, 1) := by decide +kernel
theorem dL_then_9 : decode cL_then 9 = .ok (.lastore, 1) := by decide +kernel
theorem dL_then_10 : decode cL_then 10 = .ok (.goto 11, 3) := by decide +kernel
theorem dL_then_13 : decode cL_then 13 = .ok (.astore 4, 2) := by decide +kernel
theorem dL_then_15 : decode cL_then 15 = .ok (.iconst 1, 1) := by decide +kernel
theorem dL_then_16 : decode cL_then 16 = .ok (.ireturn, 1) := by decide +kernel
theorem dL_then_17 : decode cL_then 17 = .ok (.astore 4, 2) := by decide +kernel
theorem dL_then_19 : decode cL_then 19 = .ok (.iconst 2, 1) := by decide +kernel
theorem dL_then_20 : decode cL_then 20 = .ok (.ireturn, 1) := by decide +kernel
theorem dL_then_21 : decode cL_then 21 = .ok (.iconst 0, 1) := by decide +kernel
theorem dL_then_22 : decode cL_then 22 = .ok (.ireturn, 1) := by decide +kernel
theorem dL_purse_0 : decode cL_purse 0 = .ok (.aload 4, 2) := by decide +kernel
theorem dL_purse_2 : decode cL_purse 2 = .ok (.iconst 0, 1) := by decide +kernel
theorem dL_purse_3 : decode cL_purse 3 = .ok (.aload_n 0, 1) := by decide +kernel
theorem dL_purse_4 : decode cL_purse 4 = .ok (.iload_n 1, 1) := by decide +kernel
theorem dL_purse_5 : decode cL_purse 5 = .ok (.iload_n 2, 1) := by decide +kernel
theorem dL_purse_6 : decode cL_purse 6 = .ok (.iload_n 3, 1) := by decide +kernel
theorem dL_purse_7 : decode cL_purse 7 = .ok (.invokevirtual 43, 3) := by decide +kernel
theorem dL_purse_10 : decode cL_purse 10 = .ok (.i2l, 1) := by decide +kernel
theorem dL_purse_11 : decode cL_purse 11 = .ok (.lastore, 1) := by decide +kernel
theorem dL_purse_12 : decode cL_purse 12 = .ok (.goto 11, 3) := by decide +kernel
theorem dL_purse_15 : decode cL_purse 15 = .ok (.astore 5, 2) := by decide +kernel
theorem dL_purse_17 : decode cL_purse 17 = .ok (.iconst 1, 1) := by decide +kernel
theorem dL_purse_18 : decode cL_purse 18 = .ok (.ireturn, 1) := by decide +kernel
theorem dL_purse_19 : decode cL_purse 19 = .ok (.astore 5, 2) := by decide +kernel
theorem dL_purse_21 : decode cL_purse 21 = .ok (.iconst 2, 1) := by decide +kernel
theorem dL_purse_22 : decode cL_purse 22 = .ok (.ireturn, 1) := by decide +kernel
theorem dL_purse_23 : decode cL_purse 23 = .ok (.iconst 0, 1) := by decide +kernel
theorem dL_purse_24 : decode cL_purse 24 = .ok (.ireturn, 1) := by decide +kernel
theorem dL_sealed_0 : decode cL_sealed 0 = .ok (.aload_n 2, 1) := by decide +kernel
theorem dL_sealed_1 : decode cL_sealed 1 = .ok (.iconst 0, 1) := by decide +kernel
theorem dL_sealed_2 : decode cL_sealed 2 = .ok (.aload_n 0, 1) := by decide +kernel
theorem dL_sealed_3 : decode cL_sealed 3 = .ok (.iload_n 1, 1) := by decide +kernel
theorem dL_sealed_4 : decode cL_sealed 4 = .ok (.invokevirtual 47, 3) := by decide +kernel
theorem dL_sealed_7 : decode cL_sealed 7 = .ok (.i2l, 1) := by decide +kernel
theorem dL_sealed_8 : decode cL_sealed 8 = .ok (.lastore, 1) := by decide +kernel
theorem dL_sealed_9 : decode cL_sealed 9 = .ok (.goto 6, 3) := by decide +kernel
theorem dL_sealed_12 : decode cL_sealed 12 = .ok (.astore_n 3, 1) := by decide +kernel
theorem dL_sealed_13 : decode cL_sealed 13 = .ok (.iconst 1, 1) := by decide +kernel
theorem dL_sealed_14 : decode cL_sealed 14 = .ok (.ireturn, 1) := by decide +kernel
theorem dL_sealed_15 : decode cL_sealed 15 = .ok (.iconst 0, 1) := by decide +kernel
theorem dL_sealed_16 : decode cL_sealed 16 = .ok (.ireturn, 1) := by decide +kernel
theorem dL_gets_0 : decode cL_gets 0 = .ok (.aload_n 3, 1) := by decide +kernel
theorem dL_gets_1 : decode cL_gets 1 = .ok (.iconst 0, 1) := by decide +kernel
theorem dL_gets_2 : decode cL_gets 2 = .ok (.aload_n 0, 1) := by decide +kernel
theorem dL_gets_3 : decode cL_gets 3 = .ok (.iload_n 1, 1) := by decide +kernel
theorem dL_gets_4 : decode cL_gets 4 = .ok (.iload_n 2, 1) := by decide +kernel
theorem dL_gets_5 : decode cL_gets 5 = .ok (.invokevirtual 50, 3) := by decide +kernel
theorem dL_gets_8 : decode cL_gets 8 = .ok (.i2l, 1) := by decide +kernel
theorem dL_gets_9 : decode cL_gets 9 = .ok (.lastore, 1) := by decide +kernel
theorem dL_gets_10 : decode cL_gets 10 = .ok (.goto 7, 3) := by decide +kernel
theorem dL_gets_13 : decode cL_gets 13 = .ok (.astore 4, 2) := by decide +kernel
theorem dL_gets_15 : decode cL_gets 15 = .ok (.iconst 1, 1) := by decide +kernel
theorem dL_gets_16 : decode cL_gets 16 = .ok (.ireturn, 1) := by decide +kernel
theorem dL_gets_17 : decode cL_gets 17 = .ok (.iconst 0, 1) := by decide +kernel
theorem dL_gets_18 : decode cL_gets 18 = .ok (.ireturn, 1) := by decide +kernel
theorem dL_loses_0 : decode cL_loses 0 = .ok (.aload_n 2, 1) := by decide +kernel
theorem dL_loses_1 : decode cL_loses 1 = .ok (.iconst 0, 1) := by decide +kernel
theorem dL_loses_2 : decode cL_loses 2 = .ok (.aload_n 0, 1) := by decide +kernel
theorem dL_loses_3 : decode cL_loses 3 = .ok (.iload_n 1, 1) := by decide +kernel
theorem dL_loses_4 : decode cL_loses 4 = .ok (.invokevirtual 53, 3) := by decide +kernel
theorem dL_loses_7 : decode cL_loses 7 = .ok (.i2l, 1) := by decide +kernel
theorem dL_loses_8 : decode cL_loses 8 = .ok (.lastore, 1) := by decide +kernel
theorem dL_loses_9 : decode cL_loses 9 = .ok (.goto 6, 3) := by decide +kernel
theorem dL_loses_12 : decode cL_loses 12 = .ok (.astore_n 3, 1) := by decide +kernel
theorem dL_loses_13 : decode cL_loses 13 = .ok (.iconst 1, 1) := by decide +kernel
theorem dL_loses_14 : decode cL_loses 14 = .ok (.ireturn, 1) := by decide +kernel
theorem dL_loses_15 : decode cL_loses 15 = .ok (.iconst 0, 1) := by decide +kernel
theorem dL_loses_16 : decode cL_loses 16 = .ok (.ireturn, 1) := by decide +kernel
theorem dL_most_0 : decode cL_most 0 = .ok (.aload_n 2, 1) := by decide +kernel
theorem dL_most_1 : decode cL_most 1 = .ok (.iconst 0, 1) := by decide +kernel
theorem dL_most_2 : decode cL_most 2 = .ok (.aload_n 0, 1) := by decide +kernel
theorem dL_most_3 : decode cL_most 3 = .ok (.iload_n 1, 1) := by decide +kernel
theorem dL_most_4 : decode cL_most 4 = .ok (.invokevirtual 56, 3) := by decide +kernel
theorem dL_most_7 : decode cL_most 7 = .ok (.i2l, 1) := by decide +kernel
theorem dL_most_8 : decode cL_most 8 = .ok (.lastore, 1) := by decide +kernel
theorem dL_most_9 : decode cL_most 9 = .ok (.goto 6, 3) := by decide +kernel
theorem dL_most_12 : decode cL_most 12 = .ok (.astore_n 3, 1) := by decide +kernel
theorem dL_most_13 : decode cL_most 13 = .ok (.iconst 1, 1) := by decide +kernel
theorem dL_most_14 : decode cL_most 14 = .ok (.ireturn, 1) := by decide +kernel
theorem dL_most_15 : decode cL_most 15 = .ok (.iconst 0, 1) := by decide +kernel
theorem dL_most_16 : decode cL_most 16 = .ok (.ireturn, 1) := by decide +kernel
theorem dL_row_0 : decode cL_row 0 = .ok (.aload_n 3, 1) := by decide +kernel
theorem dL_row_1 : decode cL_row 1 = .ok (.iconst 0, 1) := by decide +kernel
theorem dL_row_2 : decode cL_row 2 = .ok (.aload_n 0, 1) := by decide +kernel
theorem dL_row_3 : decode cL_row 3 = .ok (.iload_n 1, 1) := by decide +kernel
theorem dL_row_4 : decode cL_row 4 = .ok (.iload_n 2, 1) := by decide +kernel
theorem dL_row_5 : decode cL_row 5 = .ok (.invokevirtual 59, 3) := by decide +kernel
theorem dL_row_8 : decode cL_row 8 = .ok (.i2l, 1) := by decide +kernel
theorem dL_row_9 : decode cL_row 9 = .ok (.lastore, 1) := by decide +kernel
theorem dL_row_10 : decode cL_row 10 = .ok (.goto 7, 3) := by decide +kernel
theorem dL_row_13 : decode cL_row 13 = .ok (.astore 4, 2) := by decide +kernel
theorem dL_row_15 : decode cL_row 15 = .ok (.iconst 1, 1) := by decide +kernel
theorem dL_row_16 : decode cL_row 16 = .ok (.ireturn, 1) := by decide +kernel
theorem dL_row_17 : decode cL_row 17 = .ok (.iconst 0, 1) := by decide +kernel
theorem dL_row_18 : decode cL_row 18 = .ok (.ireturn, 1) := by decide +kernel
theorem dL_empty_0 : decode cL_empty 0 = .ok (.aload_n 2, 1) := by decide +kernel
theorem dL_empty_1 : decode cL_empty 1 = .ok (.iconst 0, 1) := by decide +kernel
theorem dL_empty_2 : decode cL_empty 2 = .ok (.aload_n 0, 1) := by decide +kernel
theorem dL_empty_3 : decode cL_empty 3 = .ok (.iload_n 1, 1) := by decide +kernel
theorem dL_empty_4 : decode cL_empty 4 = .ok (.invokevirtual 62, 3) := by decide +kernel
theorem dL_empty_7 : decode cL_empty 7 = .ok (.i2l, 1) := by decide +kernel
theorem dL_empty_8 : decode cL_empty 8 = .ok (.lastore, 1) := by decide +kernel
theorem dL_empty_9 : decode cL_empty 9 = .ok (.goto 6, 3) := by decide +kernel
theorem dL_empty_12 : decode cL_empty 12 = .ok (.astore_n 3, 1) := by decide +kernel
theorem dL_empty_13 : decode cL_empty 13 = .ok (.iconst 1, 1) := by decide +kernel
theorem dL_empty_14 : decode cL_empty 14 = .ok (.ireturn, 1) := by decide +kernel
theorem dL_empty_15 : decode cL_empty 15 = .ok (.iconst 0, 1) := by decide +kernel
theorem dL_empty_16 : decode cL_empty 16 = .ok (.ireturn, 1) := by decide +kernel
theorem dL_liking_0 : decode cL_liking 0 = .ok (.aload_n 3, 1) := by decide +kernel
theorem dL_liking_1 : decode cL_liking 1 = .ok (.iconst 0, 1) := by decide +kernel
theorem dL_liking_2 : decode cL_liking 2 = .ok (.aload_n 0, 1) := by decide +kernel
theorem dL_liking_3 : decode cL_liking 3 = .ok (.iload_n 1, 1) := by decide +kernel
theorem dL_liking_4 : decode cL_liking 4 = .ok (.iload_n 2, 1) := by decide +kernel
theorem dL_liking_5 : decode cL_liking 5 = .ok (.invokevirtual 65, 3) := by decide +kernel
theorem dL_liking_8 : decode cL_liking 8 = .ok (.i2l, 1) := by decide +kernel
theorem dL_liking_9 : decode cL_liking 9 = .ok (.lastore, 1) := by decide +kernel
theorem dL_liking_10 : decode cL_liking 10 = .ok (.goto 7, 3) := by decide +kernel
theorem dL_liking_13 : decode cL_liking 13 = .ok (.astore 4, 2) := by decide +kernel
theorem dL_liking_15 : decode cL_liking 15 = .ok (.iconst 1, 1) := by decide +kernel
theorem dL_liking_16 : decode cL_liking 16 = .ok (.ireturn, 1) := by decide +kernel
theorem dL_liking_17 : decode cL_liking 17 = .ok (.iconst 0, 1) := by decide +kernel
theorem dL_liking_18 : decode cL_liking 18 = .ok (.ireturn, 1) := by decide +kernel
theorem dL_leastChops_0 : decode cL_leastChops 0 = .ok (.aload_n 3, 1) := by decide +kernel
theorem dL_leastChops_1 : decode cL_leastChops 1 = .ok (.iconst 0, 1) := by decide +kernel
theorem dL_leastChops_2 : decode cL_leastChops 2 = .ok (.aload_n 0, 1) := by decide +kernel
theorem dL_leastChops_3 : decode cL_leastChops 3 = .ok (.iload_n 1, 1) := by decide +kernel
theorem dL_leastChops_4 : decode cL_leastChops 4 = .ok (.iload_n 2, 1) := by decide +kernel
theorem dL_leastChops_5 : decode cL_leastChops 5 = .ok (.invokevirtual 68, 3) := by decide +kernel
theorem dL_leastChops_8 : decode cL_leastChops 8 = .ok (.i2l, 1) := by decide +kernel
theorem dL_leastChops_9 : decode cL_leastChops 9 = .ok (.lastore, 1) := by decide +kernel
theorem dL_leastChops_10 : decode cL_leastChops 10 = .ok (.goto 7, 3) := by decide +kernel
theorem dL_leastChops_13 : decode cL_leastChops 13 = .ok (.astore 4, 2) := by decide +kernel
theorem dL_leastChops_15 : decode cL_leastChops 15 = .ok (.iconst 1, 1) := by decide +kernel
theorem dL_leastChops_16 : decode cL_leastChops 16 = .ok (.ireturn, 1) := by decide +kernel
theorem dL_leastChops_17 : decode cL_leastChops 17 = .ok (.iconst 0, 1) := by decide +kernel
theorem dL_leastChops_18 : decode cL_leastChops 18 = .ok (.ireturn, 1) := by decide +kernel
theorem dL_toWin_0 : decode cL_toWin 0 = .ok (.aload_n 3, 1) := by decide +kernel
theorem dL_toWin_1 : decode cL_toWin 1 = .ok (.iconst 0, 1) := by decide +kernel
theorem dL_toWin_2 : decode cL_toWin 2 = .ok (.aload_n 0, 1) := by decide +kernel
theorem dL_toWin_3 : decode cL_toWin 3 = .ok (.iload_n 1, 1) := by decide +kernel
theorem dL_toWin_4 : decode cL_toWin 4 = .ok (.iload_n 2, 1) := by decide +kernel
theorem dL_toWin_5 : decode cL_toWin 5 = .ok (.invokevirtual 71, 3) := by decide +kernel
theorem dL_toWin_8 : decode cL_toWin 8 = .ok (.i2l, 1) := by decide +kernel
theorem dL_toWin_9 : decode cL_toWin 9 = .ok (.lastore, 1) := by decide +kernel
theorem dL_toWin_10 : decode cL_toWin 10 = .ok (.goto 7, 3) := by decide +kernel
theorem dL_toWin_13 : decode cL_toWin 13 = .ok (.astore 4, 2) := by decide +kernel
theorem dL_toWin_15 : decode cL_toWin 15 = .ok (.iconst 1, 1) := by decide +kernel
theorem dL_toWin_16 : decode cL_toWin 16 = .ok (.ireturn, 1) := by decide +kernel
theorem dL_toWin_17 : decode cL_toWin 17 = .ok (.iconst 0, 1) := by decide +kernel
theorem dL_toWin_18 : decode cL_toWin 18 = .ok (.ireturn, 1) := by decide +kernel
theorem dL_ruin_0 : decode cL_ruin 0 = .ok (.aload_n 2, 1) := by decide +kernel
theorem dL_ruin_1 : decode cL_ruin 1 = .ok (.iconst 0, 1) := by decide +kernel
theorem dL_ruin_2 : decode cL_ruin 2 = .ok (.aload_n 0, 1) := by decide +kernel
theorem dL_ruin_3 : decode cL_ruin 3 = .ok (.iload_n 1, 1) := by decide +kernel
theorem dL_ruin_4 : decode cL_ruin 4 = .ok (.invokevirtual 74, 3) := by decide +kernel
theorem dL_ruin_7 : decode cL_ruin 7 = .ok (.i2l, 1) := by decide +kernel
theorem dL_ruin_8 : decode cL_ruin 8 = .ok (.lastore, 1) := by decide +kernel
theorem dL_ruin_9 : decode cL_ruin 9 = .ok (.goto 6, 3) := by decide +kernel
theorem dL_ruin_12 : decode cL_ruin 12 = .ok (.astore_n 3, 1) := by decide +kernel
theorem dL_ruin_13 : decode cL_ruin 13 = .ok (.iconst 1, 1) := by decide +kernel
theorem dL_ruin_14 : decode cL_ruin 14 = .ok (.ireturn, 1) := by decide +kernel
theorem dL_ruin_15 : decode cL_ruin 15 = .ok (.iconst 0, 1) := by decide +kernel
theorem dL_ruin_16 : decode cL_ruin 16 = .ok (.ireturn, 1) := by decide +kernel
theorem dL_share_0 : decode cL_share 0 = .ok (.aload_n 3, 1) := by decide +kernel
theorem dL_share_1 : decode cL_share 1 = .ok (.iconst 0, 1) := by decide +kernel
theorem dL_share_2 : decode cL_share 2 = .ok (.aload_n 0, 1) := by decide +kernel
theorem dL_share_3 : decode cL_share 3 = .ok (.iload_n 1, 1) := by decide +kernel
theorem dL_share_4 : decode cL_share 4 = .ok (.iload_n 2, 1) := by decide +kernel
theorem dL_share_5 : decode cL_share 5 = .ok (.invokevirtual 77, 3) := by decide +kernel
theorem dL_share_8 : decode cL_share 8 = .ok (.i2l, 1) := by decide +kernel
theorem dL_share_9 : decode cL_share 9 = .ok (.lastore, 1) := by decide +kernel
theorem dL_share_10 : decode cL_share 10 = .ok (.goto 11, 3) := by decide +kernel
theorem dL_share_13 : decode cL_share 13 = .ok (.astore 4, 2) := by decide +kernel
theorem dL_share_15 : decode cL_share 15 = .ok (.iconst 1, 1) := by decide +kernel
theorem dL_share_16 : decode cL_share 16 = .ok (.ireturn, 1) := by decide +kernel
theorem dL_share_17 : decode cL_share 17 = .ok (.astore 4, 2) := by decide +kernel
theorem dL_share_19 : decode cL_share 19 = .ok (.iconst 2, 1) := by decide +kernel
theorem dL_share_20 : decode cL_share 20 = .ok (.ireturn, 1) := by decide +kernel
theorem dL_share_21 : decode cL_share 21 = .ok (.iconst 0, 1) := by decide +kernel
theorem dL_share_22 : decode cL_share 22 = .ok (.ireturn, 1) := by decide +kernel
theorem dL_beside_0 : decode cL_beside 0 = .ok (.aload_n 2, 1) := by decide +kernel
theorem dL_beside_1 : decode cL_beside 1 = .ok (.iconst 0, 1) := by decide +kernel
theorem dL_beside_2 : decode cL_beside 2 = .ok (.aload_n 0, 1) := by decide +kernel
theorem dL_beside_3 : decode cL_beside 3 = .ok (.iload_n 1, 1) := by decide +kernel
theorem dL_beside_4 : decode cL_beside 4 = .ok (.invokevirtual 80, 3) := by decide +kernel
theorem dL_beside_7 : decode cL_beside 7 = .ok (.i2l, 1) := by decide +kernel
theorem dL_beside_8 : decode cL_beside 8 = .ok (.lastore, 1) := by decide +kernel
theorem dL_beside_9 : decode cL_beside 9 = .ok (.goto 6, 3) := by decide +kernel
theorem dL_beside_12 : decode cL_beside 12 = .ok (.astore_n 3, 1) := by decide +kernel
theorem dL_beside_13 : decode cL_beside 13 = .ok (.iconst 1, 1) := by decide +kernel
theorem dL_beside_14 : decode cL_beside 14 = .ok (.ireturn, 1) := by decide +kernel
theorem dL_beside_15 : decode cL_beside 15 = .ok (.iconst 0, 1) := by decide +kernel
theorem dL_beside_16 : decode cL_beside 16 = .ok (.ireturn, 1) := by decide +kernel
theorem dL_oldest_0 : decode cL_oldest 0 = .ok (.aload_n 2, 1) := by decide +kernel
theorem dL_oldest_1 : decode cL_oldest 1 = .ok (.iconst 0, 1) := by decide +kernel
theorem dL_oldest_2 : decode cL_oldest 2 = .ok (.aload_n 0, 1) := by decide +kernel
theorem dL_oldest_3 : decode cL_oldest 3 = .ok (.iload_n 1, 1) := by decide +kernel
theorem dL_oldest_4 : decode cL_oldest 4 = .ok (.invokevirtual 83, 3) := by decide +kernel
theorem dL_oldest_7 : decode cL_oldest 7 = .ok (.i2l, 1) := by decide +kernel
theorem dL_oldest_8 : decode cL_oldest 8 = .ok (.lastore, 1) := by decide +kernel
theorem dL_oldest_9 : decode cL_oldest 9 = .ok (.goto 6, 3) := by decide +kernel
theorem dL_oldest_12 : decode cL_oldest 12 = .ok (.astore_n 3, 1) := by decide +kernel
theorem dL_oldest_13 : decode cL_oldest 13 = .ok (.iconst 1, 1) := by decide +kernel
theorem dL_oldest_14 : decode cL_oldest 14 = .ok (.ireturn, 1) := by decide +kernel
theorem dL_oldest_15 : decode cL_oldest 15 = .ok (.iconst 0, 1) := by decide +kernel
theorem dL_oldest_16 : decode cL_oldest 16 = .ok (.ireturn, 1) := by decide +kernel
theorem dL_envy_0 : decode cL_envy 0 = .ok (.aload_n 2, 1) := by decide +kernel
theorem dL_envy_1 : decode cL_envy 1 = .ok (.iconst 0, 1) := by decide +kernel
theorem dL_envy_2 : decode cL_envy 2 = .ok (.aload_n 0, 1) := by decide +kernel
theorem dL_envy_3 : decode cL_envy 3 = .ok (.iload_n 1, 1) := by decide +kernel
theorem dL_envy_4 : decode cL_envy 4 = .ok (.invokevirtual 86, 3) := by decide +kernel
theorem dL_envy_7 : decode cL_envy 7 = .ok (.i2l, 1) := by decide +kernel
theorem dL_envy_8 : decode cL_envy 8 = .ok (.lastore, 1) := by decide +kernel
theorem dL_envy_9 : decode cL_envy 9 = .ok (.goto 6, 3) := by decide +kernel
theorem dL_envy_12 : decode cL_envy 12 = .ok (.astore_n 3, 1) := by decide +kernel
theorem dL_envy_13 : decode cL_envy 13 = .ok (.iconst 1, 1) := by decide +kernel
theorem dL_envy_14 : decode cL_envy 14 = .ok (.ireturn, 1) := by decide +kernel
theorem dL_envy_15 : decode cL_envy 15 = .ok (.iconst 0, 1) := by decide +kernel
theorem dL_envy_16 : decode cL_envy 16 = .ok (.ireturn, 1) := by decide +kernel
theorem dL_see_0 : decode cL_see 0 = .ok (.aload 5, 2) := by decide +kernel
theorem dL_see_2 : decode cL_see 2 = .ok (.iconst 0, 1) := by decide +kernel
theorem dL_see_3 : decode cL_see 3 = .ok (.aload_n 0, 1) := by decide +kernel
theorem dL_see_4 : decode cL_see 4 = .ok (.iload_n 1, 1) := by decide +kernel
theorem dL_see_5 : decode cL_see 5 = .ok (.iload_n 2, 1) := by decide +kernel
theorem dL_see_6 : decode cL_see 6 = .ok (.iload_n 3, 1) := by decide +kernel
theorem dL_see_7 : decode cL_see 7 = .ok (.iload 4, 2) := by decide +kernel
theorem dL_see_9 : decode cL_see 9 = .ok (.invokevirtual 89, 3) := by decide +kernel
theorem dL_see_12 : decode cL_see 12 = .ok (.i2l, 1) := by decide +kernel
theorem dL_see_13 : decode cL_see 13 = .ok (.lastore, 1) := by decide +kernel
theorem dL_see_14 : decode cL_see 14 = .ok (.goto 7, 3) := by decide +kernel
theorem dL_see_17 : decode cL_see 17 = .ok (.astore 6, 2) := by decide +kernel
theorem dL_see_19 : decode cL_see 19 = .ok (.iconst 1, 1) := by decide +kernel
theorem dL_see_20 : decode cL_see 20 = .ok (.ireturn, 1) := by decide +kernel
theorem dL_see_21 : decode cL_see 21 = .ok (.iconst 0, 1) := by decide +kernel
theorem dL_see_22 : decode cL_see 22 = .ok (.ireturn, 1) := by decide +kernel
theorem dL_pockets_0 : decode cL_pockets 0 = .ok (.aload_n 2, 1) := by decide +kernel
theorem dL_pockets_1 : decode cL_pockets 1 = .ok (.iconst 0, 1) := by decide +kernel
theorem dL_pockets_2 : decode cL_pockets 2 = .ok (.aload_n 0, 1) := by decide +kernel
theorem dL_pockets_3 : decode cL_pockets 3 = .ok (.iload_n 1, 1) := by decide +kernel
theorem dL_pockets_4 : decode cL_pockets 4 = .ok (.invokevirtual 93, 3) := by decide +kernel
theorem dL_pockets_7 : decode cL_pockets 7 = .ok (.i2l, 1) := by decide +kernel
theorem dL_pockets_8 : decode cL_pockets 8 = .ok (.lastore, 1) := by decide +kernel
theorem dL_pockets_9 : decode cL_pockets 9 = .ok (.goto 6, 3) := by decide +kernel
theorem dL_pockets_12 : decode cL_pockets 12 = .ok (.astore_n 3, 1) := by decide +kernel
theorem dL_pockets_13 : decode cL_pockets 13 = .ok (.iconst 1, 1) := by decide +kernel
theorem dL_pockets_14 : decode cL_pockets 14 = .ok (.ireturn, 1) := by decide +kernel
theorem dL_pockets_15 : decode cL_pockets 15 = .ok (.iconst 0, 1) := by decide +kernel
theorem dL_pockets_16 : decode cL_pockets 16 = .ok (.ireturn, 1) := by decide +kernel
theorem dL_look_0 : decode cL_look 0 = .ok (.aload_n 2, 1) := by decide +kernel
theorem dL_look_1 : decode cL_look 1 = .ok (.iconst 0, 1) := by decide +kernel
theorem dL_look_2 : decode cL_look 2 = .ok (.aload_n 0, 1) := by decide +kernel
theorem dL_look_3 : decode cL_look 3 = .ok (.iload_n 1, 1) := by decide +kernel
theorem dL_look_4 : decode cL_look 4 = .ok (.invokevirtual 96, 3) := by decide +kernel
theorem dL_look_7 : decode cL_look 7 = .ok (.i2l, 1) := by decide +kernel
theorem dL_look_8 : decode cL_look 8 = .ok (.lastore, 1) := by decide +kernel
theorem dL_look_9 : decode cL_look 9 = .ok (.goto 6, 3) := by decide +kernel
theorem dL_look_12 : decode cL_look 12 = .ok (.astore_n 3, 1) := by decide +kernel
theorem dL_look_13 : decode cL_look 13 = .ok (.iconst 1, 1) := by decide +kernel
theorem dL_look_14 : decode cL_look 14 = .ok (.ireturn, 1) := by decide +kernel
theorem dL_look_15 : decode cL_look 15 = .ok (.iconst 0, 1) := by decide +kernel
theorem dL_look_16 : decode cL_look 16 = .ok (.ireturn, 1) := by decide +kernel
theorem dL_game_0 : decode cL_game 0 = .ok (.aload 4, 2) := by decide +kernel
theorem dL_game_2 : decode cL_game 2 = .ok (.iconst 0, 1) := by decide +kernel
theorem dL_game_3 : decode cL_game 3 = .ok (.aload_n 0, 1) := by decide +kernel
theorem dL_game_4 : decode cL_game 4 = .ok (.iload_n 1, 1) := by decide +kernel
theorem dL_game_5 : decode cL_game 5 = .ok (.iload_n 2, 1) := by decide +kernel
theorem dL_game_6 : decode cL_game 6 = .ok (.iload_n 3, 1) := by decide +kernel
theorem dL_game_7 : decode cL_game 7 = .ok (.invokevirtual 99, 3) := by decide +kernel
theorem dL_game_10 : decode cL_game 10 = .ok (.i2l, 1) := by decide +kernel
theorem dL_game_11 : decode cL_game 11 = .ok (.lastore, 1) := by decide +kernel
theorem dL_game_12 : decode cL_game 12 = .ok (.goto 11, 3) := by decide +kernel
theorem dL_game_15 : decode cL_game 15 = .ok (.astore 5, 2) := by decide +kernel
theorem dL_game_17 : decode cL_game 17 = .ok (.iconst 1, 1) := by decide +kernel
theorem dL_game_18 : decode cL_game 18 = .ok (.ireturn, 1) := by decide +kernel
theorem dL_game_19 : decode cL_game 19 = .ok (.astore 5, 2) := by decide +kernel
theorem dL_game_21 : decode cL_game 21 = .ok (.iconst 2, 1) := by decide +kernel
theorem dL_game_22 : decode cL_game 22 = .ok (.ireturn, 1) := by decide +kernel
theorem dL_game_23 : decode cL_game 23 = .ok (.iconst 0, 1) := by decide +kernel
theorem dL_game_24 : decode cL_game 24 = .ok (.ireturn, 1) := by decide +kernel
theorem dL_years_0 : decode cL_years 0 = .ok (.aload 4, 2) := by decide +kernel
theorem dL_years_2 : decode cL_years 2 = .ok (.iconst 0, 1) := by decide +kernel
theorem dL_years_3 : decode cL_years 3 = .ok (.aload_n 0, 1) := by decide +kernel
theorem dL_years_4 : decode cL_years 4 = .ok (.iload_n 1, 1) := by decide +kernel
theorem dL_years_5 : decode cL_years 5 = .ok (.iload_n 2, 1) := by decide +kernel
theorem dL_years_6 : decode cL_years 6 = .ok (.iload_n 3, 1) := by decide +kernel
theorem dL_years_7 : decode cL_years 7 = .ok (.invokevirtual 102, 3) := by decide +kernel
theorem dL_years_10 : decode cL_years 10 = .ok (.i2l, 1) := by decide +kernel
theorem dL_years_11 : decode cL_years 11 = .ok (.lastore, 1) := by decide +kernel
theorem dL_years_12 : decode cL_years 12 = .ok (.goto 11, 3) := by decide +kernel
theorem dL_years_15 : decode cL_years 15 = .ok (.astore 5, 2) := by decide +kernel
theorem dL_years_17 : decode cL_years 17 = .ok (.iconst 1, 1) := by decide +kernel
theorem dL_years_18 : decode cL_years 18 = .ok (.ireturn, 1) := by decide +kernel
theorem dL_years_19 : decode cL_years 19 = .ok (.astore 5, 2) := by decide +kernel
theorem dL_years_21 : decode cL_years 21 = .ok (.iconst 2, 1) := by decide +kernel
theorem dL_years_22 : decode cL_years 22 = .ok (.ireturn, 1) := by decide +kernel
theorem dL_years_23 : decode cL_years 23 = .ok (.iconst 0, 1) := by decide +kernel
theorem dL_years_24 : decode cL_years 24 = .ok (.ireturn, 1) := by decide +kernel
