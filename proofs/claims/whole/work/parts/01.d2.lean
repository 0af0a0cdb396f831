theorem dX10_stars_84 : decode cX10_stars 84 = .ok (.istore 8, 2) := by decide +kernel
theorem dX10_stars_86 : decode cX10_stars 86 = .ok (.iload 8, 2) := by decide +kernel
theorem dX10_stars_88 : decode cX10_stars 88 = .ok (.iload 6, 2) := by decide +kernel
theorem dX10_stars_90 : decode cX10_stars 90 = .ok (.if_icmp .le 11, 3) := by decide +kernel
theorem dX10_stars_93 : decode cX10_stars 93 = .ok (.iload 7, 2) := by decide +kernel
theorem dX10_stars_95 : decode cX10_stars 95 = .ok (.istore 5, 2) := by decide +kernel
theorem dX10_stars_97 : decode cX10_stars 97 = .ok (.iload 8, 2) := by decide +kernel
theorem dX10_stars_99 : decode cX10_stars 99 = .ok (.istore 6, 2) := by decide +kernel
theorem dX10_stars_101 : decode cX10_stars 101 = .ok (.iinc 7 1, 3) := by decide +kernel
theorem dX10_stars_104 : decode cX10_stars 104 = .ok (.goto (-36), 3) := by decide +kernel
theorem dX10_stars_107 : decode cX10_stars 107 = .ok (.iload 5, 2) := by decide +kernel
theorem dX10_stars_109 : decode cX10_stars 109 = .ok (.ireturn, 1) := by decide +kernel
theorem dX10_tried_0 : decode cX10_tried 0 = .ok (.aload_n 0, 1) := by decide +kernel
theorem dX10_tried_1 : decode cX10_tried 1 = .ok (.iload_n 1, 1) := by decide +kernel
theorem dX10_tried_2 : decode cX10_tried 2 = .ok (.invokevirtual 100, 3) := by decide +kernel
theorem dX10_tried_5 : decode cX10_tried 5 = .ok (.ifCond .eq 27, 3) := by decide +kernel
theorem dX10_tried_8 : decode cX10_tried 8 = .ok (.iload_n 2, 1) := by decide +kernel
theorem dX10_tried_9 : decode cX10_tried 9 = .ok (.invokestatic 145, 3) := by decide +kernel
theorem dX10_tried_12 : decode cX10_tried 12 = .ok (.ifCond .eq 20, 3) := by decide +kernel
theorem dX10_tried_15 : decode cX10_tried 15 = .ok (.iload_n 3, 1) := by decide +kernel
theorem dX10_tried_16 : decode cX10_tried 16 = .ok (.iload 4, 2) := by decide +kernel
theorem dX10_tried_18 : decode cX10_tried 18 = .ok (.invokestatic 315, 3) := by decide +kernel
theorem dX10_tried_21 : decode cX10_tried 21 = .ok (.ifCond .eq 11, 3) := by decide +kernel
theorem dX10_tried_24 : decode cX10_tried 24 = .ok (.iload 5, 2) := by decide +kernel
theorem dX10_tried_26 : decode cX10_tried 26 = .ok (.invokestatic 309, 3) := by decide +kernel
theorem dX10_tried_29 : decode cX10_tried 29 = .ok (.ifCond .ne 9, 3) := by decide +kernel
theorem dX10_tried_32 : decode cX10_tried 32 = .ok (.aload_n 0, 1) := by decide +kernel
theorem dX10_tried_33 : decode cX10_tried 33 = .ok (.iconst 1, 1) := by decide +kernel
theorem dX10_tried_34 : decode cX10_tried 34 = .ok (.invokevirtual 78, 3) := by decide +kernel
theorem dX10_tried_37 : decode cX10_tried 37 = .ok (.ireturn, 1) := by decide +kernel
theorem dX10_tried_38 : decode cX10_tried 38 = .ok (.aload_n 0, 1) := by decide +kernel
theorem dX10_tried_39 : decode cX10_tried 39 = .ok (.getfield 49, 3) := by decide +kernel
theorem dX10_tried_42 : decode cX10_tried 42 = .ok (.aload_n 0, 1) := by decide +kernel
theorem dX10_tried_43 : decode cX10_tried 43 = .ok (.getfield 10, 3) := by decide +kernel
theorem dX10_tried_46 : decode cX10_tried 46 = .ok (.iload_n 1, 1) := by decide +kernel
theorem dX10_tried_47 : decode cX10_tried 47 = .ok (.invokevirtual 148, 3) := by decide +kernel
theorem dX10_tried_50 : decode cX10_tried 50 = .ok (.aload_n 0, 1) := by decide +kernel
theorem dX10_tried_51 : decode cX10_tried 51 = .ok (.getfield 49, 3) := by decide +kernel
theorem dX10_tried_54 : decode cX10_tried 54 = .ok (.iload_n 2, 1) := by decide +kernel
theorem dX10_tried_55 : decode cX10_tried 55 = .ok (.invokevirtual 293, 3) := by decide +kernel
theorem dX10_tried_58 : decode cX10_tried 58 = .ok (.aload_n 0, 1) := by decide +kernel
theorem dX10_tried_59 : decode cX10_tried 59 = .ok (.getfield 49, 3) := by decide +kernel
theorem dX10_tried_62 : decode cX10_tried 62 = .ok (.iload 5, 2) := by decide +kernel
theorem dX10_tried_64 : decode cX10_tried 64 = .ok (.invokevirtual 312, 3) := by decide +kernel
theorem dX10_tried_67 : decode cX10_tried 67 = .ok (.istore 6, 2) := by decide +kernel
theorem dX10_tried_69 : decode cX10_tried 69 = .ok (.iconst 0, 1) := by decide +kernel
theorem dX10_tried_70 : decode cX10_tried 70 = .ok (.istore 7, 2) := by decide +kernel
theorem dX10_tried_72 : decode cX10_tried 72 = .ok (.iload_n 3, 1) := by decide +kernel
theorem dX10_tried_73 : decode cX10_tried 73 = .ok (.istore 8, 2) := by decide +kernel
theorem dX10_tried_75 : decode cX10_tried 75 = .ok (.iload 8, 2) := by decide +kernel
theorem dX10_tried_77 : decode cX10_tried 77 = .ok (.iload 4, 2) := by decide +kernel
theorem dX10_tried_79 : decode cX10_tried 79 = .ok (.if_icmp .gt 26, 3) := by decide +kernel
theorem dX10_tried_82 : decode cX10_tried 82 = .ok (.aload_n 0, 1) := by decide +kernel
theorem dX10_tried_83 : decode cX10_tried 83 = .ok (.getfield 49, 3) := by decide +kernel
theorem dX10_tried_86 : decode cX10_tried 86 = .ok (.iload 8, 2) := by decide +kernel
theorem dX10_tried_88 : decode cX10_tried 88 = .ok (.invokevirtual 312, 3) := by decide +kernel
theorem dX10_tried_91 : decode cX10_tried 91 = .ok (.iload 6, 2) := by decide +kernel
theorem dX10_tried_93 : decode cX10_tried 93 = .ok (.if_icmp .lt 6, 3) := by decide +kernel
theorem dX10_tried_96 : decode cX10_tried 96 = .ok (.iinc 7 1, 3) := by decide +kernel
theorem dX10_tried_99 : decode cX10_tried 99 = .ok (.iinc 8 1, 3) := by decide +kernel
theorem dX10_tried_102 : decode cX10_tried 102 = .ok (.goto (-27), 3) := by decide +kernel
theorem dX10_tried_105 : decode cX10_tried 105 = .ok (.iload 7, 2) := by decide +kernel
theorem dX10_tried_107 : decode cX10_tried 107 = .ok (.ireturn, 1) := by decide +kernel
theorem dX10_weight_0 : decode cX10_weight 0 = .ok (.iload_n 1, 1) := by decide +kernel
theorem dX10_weight_1 : decode cX10_weight 1 = .ok (.invokestatic 204, 3) := by decide +kernel
theorem dX10_weight_4 : decode cX10_weight 4 = .ok (.ifCond .eq 13, 3) := by decide +kernel
theorem dX10_weight_7 : decode cX10_weight 7 = .ok (.iload_n 2, 1) := by decide +kernel
theorem dX10_weight_8 : decode cX10_weight 8 = .ok (.iconst 0, 1) := by decide +kernel
theorem dX10_weight_9 : decode cX10_weight 9 = .ok (.bipush 99, 2) := by decide +kernel
theorem dX10_weight_11 : decode cX10_weight 11 = .ok (.invokestatic 74, 3) := by decide +kernel
theorem dX10_weight_14 : decode cX10_weight 14 = .ok (.ifCond .ne 9, 3) := by decide +kernel
theorem dX10_weight_17 : decode cX10_weight 17 = .ok (.aload_n 0, 1) := by decide +kernel
theorem dX10_weight_18 : decode cX10_weight 18 = .ok (.iconst 1, 1) := by decide +kernel
theorem dX10_weight_19 : decode cX10_weight 19 = .ok (.invokevirtual 78, 3) := by decide +kernel
theorem dX10_weight_22 : decode cX10_weight 22 = .ok (.ireturn, 1) := by decide +kernel
theorem dX10_weight_23 : decode cX10_weight 23 = .ok (.aload_n 0, 1) := by decide +kernel
theorem dX10_weight_24 : decode cX10_weight 24 = .ok (.getfield 10, 3) := by decide +kernel
theorem dX10_weight_27 : decode cX10_weight 27 = .ok (.getfield 318, 3) := by decide +kernel
theorem dX10_weight_30 : decode cX10_weight 30 = .ok (.iload_n 1, 1) := by decide +kernel
theorem dX10_weight_31 : decode cX10_weight 31 = .ok (.iload_n 2, 1) := by decide +kernel
theorem dX10_weight_32 : decode cX10_weight 32 = .ok (.invokevirtual 85, 3) := by decide +kernel
theorem dX10_weight_35 : decode cX10_weight 35 = .ok (.ireturn, 1) := by decide +kernel
theorem dX10_year_0 : decode cX10_year 0 = .ok (.iload_n 1, 1) := by decide +kernel
theorem dX10_year_1 : decode cX10_year 1 = .ok (.invokestatic 321, 3) := by decide +kernel
theorem dX10_year_4 : decode cX10_year 4 = .ok (.ifCond .eq 13, 3) := by decide +kernel
theorem dX10_year_7 : decode cX10_year 7 = .ok (.iload_n 2, 1) := by decide +kernel
theorem dX10_year_8 : decode cX10_year 8 = .ok (.iconst 0, 1) := by decide +kernel
theorem dX10_year_9 : decode cX10_year 9 = .ok (.bipush 99, 2) := by decide +kernel
theorem dX10_year_11 : decode cX10_year 11 = .ok (.invokestatic 74, 3) := by decide +kernel
theorem dX10_year_14 : decode cX10_year 14 = .ok (.ifCond .ne 9, 3) := by decide +kernel
theorem dX10_year_17 : decode cX10_year 17 = .ok (.aload_n 0, 1) := by decide +kernel
theorem dX10_year_18 : decode cX10_year 18 = .ok (.iconst 1, 1) := by decide +kernel
theorem dX10_year_19 : decode cX10_year 19 = .ok (.invokevirtual 78, 3) := by decide +kernel
theorem dX10_year_22 : decode cX10_year 22 = .ok (.ireturn, 1) := by decide +kernel
theorem dX10_year_23 : decode cX10_year 23 = .ok (.aload_n 0, 1) := by decide +kernel
theorem dX10_year_24 : decode cX10_year 24 = .ok (.getfield 10, 3) := by decide +kernel
theorem dX10_year_27 : decode cX10_year 27 = .ok (.getfield 324, 3) := by decide +kernel
theorem dX10_year_30 : decode cX10_year 30 = .ok (.iload_n 1, 1) := by decide +kernel
theorem dX10_year_31 : decode cX10_year 31 = .ok (.iload_n 2, 1) := by decide +kernel
theorem dX10_year_32 : decode cX10_year 32 = .ok (.invokevirtual 85, 3) := by decide +kernel
theorem dX10_year_35 : decode cX10_year 35 = .ok (.ireturn, 1) := by decide +kernel
theorem dX10_all_0 : decode cX10_all 0 = .ok (.iload_n 1, 1) := by decide +kernel
theorem dX10_all_1 : decode cX10_all 1 = .ok (.invokestatic 204, 3) := by decide +kernel
theorem dX10_all_4 : decode cX10_all 4 = .ok (.ifCond .eq 17, 3) := by decide +kernel
theorem dX10_all_7 : decode cX10_all 7 = .ok (.iload_n 2, 1) := by decide +kernel
theorem dX10_all_8 : decode cX10_all 8 = .ok (.invokestatic 321, 3) := by decide +kernel
theorem dX10_all_11 : decode cX10_all 11 = .ok (.ifCond .eq 10, 3) := by decide +kernel
theorem dX10_all_14 : decode cX10_all 14 = .ok (.iload_n 3, 1) := by decide +kernel
theorem dX10_all_15 : decode cX10_all 15 = .ok (.invokestatic 263, 3) := by decide +kernel
theorem dX10_all_18 : decode cX10_all 18 = .ok (.ifCond .ne 10, 3) := by decide +kernel
theorem dX10_all_21 : decode cX10_all 21 = .ok (.aload_n 0, 1) := by decide +kernel
theorem dX10_all_22 : decode cX10_all 22 = .ok (.iconst 1, 1) := by decide +kernel
theorem dX10_all_23 : decode cX10_all 23 = .ok (.invokevirtual 78, 3) := by decide +kernel
theorem dX10_all_26 : decode cX10_all 26 = .ok (.i2l, 1) := by decide +kernel
theorem dX10_all_27 : decode cX10_all 27 = .ok (.lreturn, 1) := by decide +kernel
theorem dX10_all_28 : decode cX10_all 28 = .ok (.aload_n 0, 1) := by decide +kernel
theorem dX10_all_29 : decode cX10_all 29 = .ok (.getfield 10, 3) := by decide +kernel
theorem dX10_all_32 : decode cX10_all 32 = .ok (.iload_n 1, 1) := by decide +kernel
theorem dX10_all_33 : decode cX10_all 33 = .ok (.iload_n 2, 1) := by decide +kernel
theorem dX10_all_34 : decode cX10_all 34 = .ok (.invokevirtual 327, 3) := by decide +kernel
theorem dX10_all_37 : decode cX10_all 37 = .ok (.aload_n 0, 1) := by decide +kernel
theorem dX10_all_38 : decode cX10_all 38 = .ok (.getfield 10, 3) := by decide +kernel
theorem dX10_all_41 : decode cX10_all 41 = .ok (.iload_n 2, 1) := by decide +kernel
theorem dX10_all_42 : decode cX10_all 42 = .ok (.invokevirtual 331, 3) := by decide +kernel
theorem dX10_all_45 : decode cX10_all 45 = .ok (.iload_n 3, 1) := by decide +kernel
theorem dX10_all_46 : decode cX10_all 46 = .ok (.invokestatic 273, 3) := by decide +kernel
theorem dX10_all_49 : decode cX10_all 49 = .ok (.lreturn, 1) := by decide +kernel
theorem dX10_say_0 : decode cX10_say 0 = .ok (.iload_n 1, 1) := by decide +kernel
theorem dX10_say_1 : decode cX10_say 1 = .ok (.invokestatic 321, 3) := by decide +kernel
theorem dX10_say_4 : decode cX10_say 4 = .ok (.ifCond .ne 9, 3) := by decide +kernel
theorem dX10_say_7 : decode cX10_say 7 = .ok (.aload_n 0, 1) := by decide +kernel
theorem dX10_say_8 : decode cX10_say 8 = .ok (.iconst 1, 1) := by decide +kernel
theorem dX10_say_9 : decode cX10_say 9 = .ok (.invokevirtual 78, 3) := by decide +kernel
theorem dX10_say_12 : decode cX10_say 12 = .ok (.ireturn, 1) := by decide +kernel
theorem dX10_say_13 : decode cX10_say 13 = .ok (.aload_n 0, 1) := by decide +kernel
theorem dX10_say_14 : decode cX10_say 14 = .ok (.getfield 10, 3) := by decide +kernel
theorem dX10_say_17 : decode cX10_say 17 = .ok (.iload_n 1, 1) := by decide +kernel
theorem dX10_say_18 : decode cX10_say 18 = .ok (.invokevirtual 331, 3) := by decide +kernel
theorem dX10_say_21 : decode cX10_say 21 = .ok (.lstore_n 2, 1) := by decide +kernel
theorem dX10_say_22 : decode cX10_say 22 = .ok (.lload_n 2, 1) := by decide +kernel
theorem dX10_say_23 : decode cX10_say 23 = .ok (.lconst 0, 1) := by decide +kernel
theorem dX10_say_24 : decode cX10_say 24 = .ok (.lcmp, 1) := by decide +kernel
theorem dX10_say_25 : decode cX10_say 25 = .ok (.ifCond .ne 5, 3) := by decide +kernel
theorem dX10_say_28 : decode cX10_say 28 = .ok (.iconst 0, 1) := by decide +kernel
theorem dX10_say_29 : decode cX10_say 29 = .ok (.ireturn, 1) := by decide +kernel
theorem dX10_say_30 : decode cX10_say 30 = .ok (.lconst 0, 1) := by decide +kernel
theorem dX10_say_31 : decode cX10_say 31 = .ok (.lstore 4, 2) := by decide +kernel
theorem dX10_say_33 : decode cX10_say 33 = .ok (.iconst 0, 1) := by decide +kernel
theorem dX10_say_34 : decode cX10_say 34 = .ok (.istore 6, 2) := by decide +kernel
theorem dX10_say_36 : decode cX10_say 36 = .ok (.iload 6, 2) := by decide +kernel
theorem dX10_say_38 : decode cX10_say 38 = .ok (.bipush 6, 2) := by decide +kernel
theorem dX10_say_40 : decode cX10_say 40 = .ok (.if_icmp .ge 26, 3) := by decide +kernel
theorem dX10_say_43 : decode cX10_say 43 = .ok (.lload 4, 2) := by decide +kernel
theorem dX10_say_45 : decode cX10_say 45 = .ok (.aload_n 0, 1) := by decide +kernel
theorem dX10_say_46 : decode cX10_say 46 = .ok (.getfield 10, 3) := by decide +kernel
theorem dX10_say_49 : decode cX10_say 49 = .ok (.iload 6, 2) := by decide +kernel
theorem dX10_say_51 : decode cX10_say 51 = .ok (.iload_n 1, 1) := by decide +kernel
theorem dX10_say_52 : decode cX10_say 52 = .ok (.invokevirtual 327, 3) := by decide +kernel
theorem dX10_say_55 : decode cX10_say 55 = .ok (.invokestatic 335, 3) := by decide +kernel
theorem dX10_say_58 : decode cX10_say 58 = .ok (.lstore 4, 2) := by decide +kernel
theorem dX10_say_60 : decode cX10_say 60 = .ok (.iinc 6 1, 3) := by decide +kernel
theorem dX10_say_63 : decode cX10_say 63 = .ok (.goto (-27), 3) := by decide +kernel
theorem dX10_say_66 : decode cX10_say 66 = .ok (.ldc2_w 341, 3) := by decide +kernel
theorem dX10_say_69 : decode cX10_say 69 = .ok (.lload 4, 2) := by decide +kernel
theorem dX10_say_71 : decode cX10_say 71 = .ok (.lmul, 1) := by decide +kernel
theorem dX10_say_72 : decode cX10_say 72 = .ok (.ldc2_w 343, 3) := by decide +kernel
theorem dX10_say_75 : decode cX10_say 75 = .ok (.lload_n 2, 1) := by decide +kernel
theorem dX10_say_76 : decode cX10_say 76 = .ok (.lmul, 1) := by decide +kernel
theorem dX10_say_77 : decode cX10_say 77 = .ok (.lcmp, 1) := by decide +kernel
theorem dX10_say_78 : decode cX10_say 78 = .ok (.ifCond .lt 5, 3) := by decide +kernel
theorem dX10_say_81 : decode cX10_say 81 = .ok (.iconst 2, 1) := by decide +kernel
theorem dX10_say_82 : decode cX10_say 82 = .ok (.ireturn, 1) := by decide +kernel
theorem dX10_say_83 : decode cX10_say 83 = .ok (.ldc2_w 345, 3) := by decide +kernel
theorem dX10_say_86 : decode cX10_say 86 = .ok (.lload 4, 2) := by decide +kernel
theorem dX10_say_88 : decode cX10_say 88 = .ok (.lmul, 1) := by decide +kernel
theorem dX10_say_89 : decode cX10_say 89 = .ok (.lload_n 2, 1) := by decide +kernel
theorem dX10_say_90 : decode cX10_say 90 = .ok (.lcmp, 1) := by decide +kernel
theorem dX10_say_91 : decode cX10_say 91 = .ok (.ifCond .lt 7, 3) := by decide +kernel
theorem dX10_say_94 : decode cX10_say 94 = .ok (.iconst 1, 1) := by decide +kernel
theorem dX10_say_95 : decode cX10_say 95 = .ok (.goto 4, 3) := by decide +kernel
theorem dX10_say_98 : decode cX10_say 98 = .ok (.iconst 0, 1) := by decide +kernel
theorem dX10_say_99 : decode cX10_say 99 = .ok (.ireturn, 1) := by decide +kernel
theorem dX10_find_0 : decode cX10_find 0 = .ok (.iload_n 1, 1) := by decide +kernel
theorem dX10_find_1 : decode cX10_find 1 = .ok (.invokestatic 204, 3) := by decide +kernel
theorem dX10_find_4 : decode cX10_find 4 = .ok (.ifCond .eq 10, 3) := by decide +kernel
theorem dX10_find_7 : decode cX10_find 7 = .ok (.iload_n 2, 1) := by decide +kernel
theorem dX10_find_8 : decode cX10_find 8 = .ok (.invokestatic 204, 3) := by decide +kernel
theorem dX10_find_11 : decode cX10_find 11 = .ok (.ifCond .ne 9, 3) := by decide +kernel
theorem dX10_find_14 : decode cX10_find 14 = .ok (.aload_n 0, 1) := by decide +kernel
theorem dX10_find_15 : decode cX10_find 15 = .ok (.iconst 1, 1) := by decide +kernel
theorem dX10_find_16 : decode cX10_find 16 = .ok (.invokevirtual 78, 3) := by decide +kernel
theorem dX10_find_19 : decode cX10_find 19 = .ok (.ireturn, 1) := by decide +kernel
theorem dX10_find_20 : decode cX10_find 20 = .ok (.iconst 0, 1) := by decide +kernel
theorem dX10_find_21 : decode cX10_find 21 = .ok (.istore_n 3, 1) := by decide +kernel
theorem dX10_find_22 : decode cX10_find 22 = .ok (.iload_n 3, 1) := by decide +kernel
theorem dX10_find_23 : decode cX10_find 23 = .ok (.bipush 99, 2) := by decide +kernel
theorem dX10_find_25 : decode cX10_find 25 = .ok (.if_icmp .gt 58, 3) := by decide +kernel
theorem dX10_find_28 : decode cX10_find 28 = .ok (.iconst 0, 1) := by decide +kernel
theorem dX10_find_29 : decode cX10_find 29 = .ok (.istore 4, 2) := by decide +kernel
theorem dX10_find_31 : decode cX10_find 31 = .ok (.iload 4, 2) := by decide +kernel
theorem dX10_find_33 : decode cX10_find 33 = .ok (.bipush 8, 2) := by decide +kernel
theorem dX10_find_35 : decode cX10_find 35 = .ok (.if_icmp .ge 42, 3) := by decide +kernel
theorem dX10_find_38 : decode cX10_find 38 = .ok (.aload_n 0, 1) := by decide +kernel
theorem dX10_find_39 : decode cX10_find 39 = .ok (.getfield 10, 3) := by decide +kernel
theorem dX10_find_42 : decode cX10_find 42 = .ok (.iload_n 1, 1) := by decide +kernel
theorem dX10_find_43 : decode cX10_find 43 = .ok (.iload_n 3, 1) := by decide +kernel
theorem dX10_find_44 : decode cX10_find 44 = .ok (.iload 4, 2) := by decide +kernel
theorem dX10_find_46 : decode cX10_find 46 = .ok (.invokevirtual 207, 3) := by decide +kernel
theorem dX10_find_49 : decode cX10_find 49 = .ok (.aload_n 0, 1) := by decide +kernel
theorem dX10_find_50 : decode cX10_find 50 = .ok (.getfield 10, 3) := by decide +kernel
theorem dX10_find_53 : decode cX10_find 53 = .ok (.iload_n 2, 1) := by decide +kernel
theorem dX10_find_54 : decode cX10_find 54 = .ok (.iload_n 3, 1) := by decide +kernel
theorem dX10_find_55 : decode cX10_find 55 = .ok (.iload 4, 2) := by decide +kernel
theorem dX10_find_57 : decode cX10_find 57 = .ok (.invokevirtual 207, 3) := by decide +kernel
theorem dX10_find_60 : decode cX10_find 60 = .ok (.if_icmp .eq 11, 3) := by decide +kernel
theorem dX10_find_63 : decode cX10_find 63 = .ok (.bipush 10, 2) := by decide +kernel
theorem dX10_find_65 : decode cX10_find 65 = .ok (.iload_n 3, 1) := by decide +kernel
theorem dX10_find_66 : decode cX10_find 66 = .ok (.imul, 1) := by decide +kernel
theorem dX10_find_67 : decode cX10_find 67 = .ok (.iload 4, 2) := by decide +kernel
theorem dX10_find_69 : decode cX10_find 69 = .ok (.iadd, 1) := by decide +kernel
theorem dX10_find_70 : decode cX10_find 70 = .ok (.ireturn, 1) := by decide +kernel
theorem dX10_find_71 : decode cX10_find 71 = .ok (.iinc 4 1, 3) := by decide +kernel
theorem dX10_find_74 : decode cX10_find 74 = .ok (.goto (-43), 3) := by decide +kernel
theorem dX10_find_77 : decode cX10_find 77 = .ok (.iinc 3 1, 3) := by decide +kernel
theorem dX10_find_80 : decode cX10_find 80 = .ok (.goto (-58), 3) := by decide +kernel
theorem dX10_find_83 : decode cX10_find 83 = .ok (.aload_n 0, 1) := by decide +kernel
theorem dX10_find_84 : decode cX10_find 84 = .ok (.iconst 2, 1) := by decide +kernel
theorem dX10_find_85 : decode cX10_find 85 = .ok (.invokevirtual 78, 3) := by decide +kernel
theorem dX10_find_88 : decode cX10_find 88 = .ok (.ireturn, 1) := by decide +kernel
theorem dX10_quiet_0 : decode cX10_quiet 0 = .ok (.iload_n 1, 1) := by decide +kernel
theorem dX10_quiet_1 : decode cX10_quiet 1 = .ok (.invokestatic 106, 3) := by decide +kernel
theorem dX10_quiet_4 : decode cX10_quiet 4 = .ok (.ifCond .eq 14, 3) := by decide +kernel
theorem dX10_quiet_7 : decode cX10_quiet 7 = .ok (.iload_n 2, 1) := by decide +kernel
theorem dX10_quiet_8 : decode cX10_quiet 8 = .ok (.iconst 1, 1) := by decide +kernel
theorem dX10_quiet_9 : decode cX10_quiet 9 = .ok (.sipush 9999, 3) := by decide +kernel
theorem dX10_quiet_12 : decode cX10_quiet 12 = .ok (.invokestatic 74, 3) := by decide +kernel
theorem dX10_quiet_15 : decode cX10_quiet 15 = .ok (.ifCond .ne 9, 3) := by decide +kernel
theorem dX10_quiet_18 : decode cX10_quiet 18 = .ok (.aload_n 0, 1) := by decide +kernel
theorem dX10_quiet_19 : decode cX10_quiet 19 = .ok (.iconst 1, 1) := by decide +kernel
theorem dX10_quiet_20 : decode cX10_quiet 20 = .ok (.invokevirtual 78, 3) := by decide +kernel
theorem dX10_quiet_23 : decode cX10_quiet 23 = .ok (.ireturn, 1) := by decide +kernel
theorem dX10_quiet_24 : decode cX10_quiet 24 = .ok (.aload_n 0, 1) := by decide +kernel
theorem dX10_quiet_25 : decode cX10_quiet 25 = .ok (.getfield 10, 3) := by decide +kernel
theorem dX10_quiet_28 : decode cX10_quiet 28 = .ok (.getfield 347, 3) := by decide +kernel
theorem dX10_quiet_31 : decode cX10_quiet 31 = .ok (.invokevirtual 176, 3) := by decide +kernel
theorem dX10_quiet_34 : decode cX10_quiet 34 = .ok (.ifCond .ne 9, 3) := by decide +kernel
theorem dX10_quiet_37 : decode cX10_quiet 37 = .ok (.aload_n 0, 1) := by decide +kernel
theorem dX10_quiet_38 : decode cX10_quiet 38 = .ok (.iconst 4, 1) := by decide +kernel
theorem dX10_quiet_39 : decode cX10_quiet 39 = .ok (.invokevirtual 78, 3) := by decide +kernel
theorem dX10_quiet_42 : decode cX10_quiet 42 = .ok (.ireturn, 1) := by decide +kernel
theorem dX10_quiet_43 : decode cX10_quiet 43 = .ok (.aload_n 0, 1) := by decide +kernel
theorem dX10_quiet_44 : decode cX10_quiet 44 = .ok (.getfield 10, 3) := by decide +kernel
theorem dX10_quiet_47 : decode cX10_quiet 47 = .ok (.getfield 347, 3) := by decide +kernel
theorem dX10_quiet_50 : decode cX10_quiet 50 = .ok (.iload_n 1, 1) := by decide +kernel
theorem dX10_quiet_51 : decode cX10_quiet 51 = .ok (.invokevirtual 92, 3) := by decide +kernel
theorem dX10_quiet_54 : decode cX10_quiet 54 = .ok (.pop, 1) := by decide +kernel
theorem dX10_quiet_55 : decode cX10_quiet 55 = .ok (.aload_n 0, 1) := by decide +kernel
theorem dX10_quiet_56 : decode cX10_quiet 56 = .ok (.getfield 10, 3) := by decide +kernel
theorem dX10_quiet_59 : decode cX10_quiet 59 = .ok (.getfield 350, 3) := by decide +kernel
theorem dX10_quiet_62 : decode cX10_quiet 62 = .ok (.iload_n 2, 1) := by decide +kernel
theorem dX10_quiet_63 : decode cX10_quiet 63 = .ok (.invokevirtual 92, 3) := by decide +kernel
theorem dX10_quiet_66 : decode cX10_quiet 66 = .ok (.pop, 1) := by decide +kernel
theorem dX10_quiet_67 : decode cX10_quiet 67 = .ok (.aload_n 0, 1) := by decide +kernel
theorem dX10_quiet_68 : decode cX10_quiet 68 = .ok (.getfield 10, 3) := by decide +kernel
theorem dX10_quiet_71 : decode cX10_quiet 71 = .ok (.getfield 347, 3) := by decide +kernel
theorem dX10_quiet_74 : decode cX10_quiet 74 = .ok (.invokevirtual 96, 3) := by decide +kernel
theorem dX10_quiet_77 : decode cX10_quiet 77 = .ok (.ireturn, 1) := by decide +kernel
theorem dX10_bound_0 : decode cX10_bound 0 = .ok (.iload_n 1, 1) := by decide +kernel
theorem dX10_bound_1 : decode cX10_bound 1 = .ok (.invokestatic 106, 3) := by decide +kernel
theorem dX10_bound_4 : decode cX10_bound 4 = .ok (.ifCond .ne 9, 3) := by decide +kernel
theorem dX10_bound_7 : decode cX10_bound 7 = .ok (.aload_n 0, 1) := by decide +kernel
theorem dX10_bound_8 : decode cX10_bound 8 = .ok (.iconst 1, 1) := by decide +kernel
theorem dX10_bound_9 : decode cX10_bound 9 = .ok (.invokevirtual 78, 3) := by decide +kernel
theorem dX10_bound_12 : decode cX10_bound 12 = .ok (.ireturn, 1) := by decide +kernel
theorem dX10_bound_13 : decode cX10_bound 13 = .ok (.iconst 0, 1) := by decide +kernel
theorem dX10_bound_14 : decode cX10_bound 14 = .ok (.istore_n 2, 1) := by decide +kernel
theorem dX10_bound_15 : decode cX10_bound 15 = .ok (.iconst 0, 1) := by decide +kernel
theorem dX10_bound_16 : decode cX10_bound 16 = .ok (.istore_n 3, 1) := by decide +kernel
theorem dX10_bound_17 : decode cX10_bound 17 = .ok (.iload_n 3, 1) := by decide +kernel
theorem dX10_bound_18 : decode cX10_bound 18 = .ok (.aload_n 0, 1) := by decide +kernel
theorem dX10_bound_19 : decode cX10_bound 19 = .ok (.getfield 10, 3) := by decide +kernel
theorem dX10_bound_22 : decode cX10_bound 22 = .ok (.getfield 347, 3) := by decide +kernel
theorem dX10_bound_25 : decode cX10_bound 25 = .ok (.invokevirtual 96, 3) := by decide +kernel
theorem dX10_bound_28 : decode cX10_bound 28 = .ok (.if_icmp .ge 40, 3) := by decide +kernel
theorem dX10_bound_31 : decode cX10_bound 31 = .ok (.aload_n 0, 1) := by decide +kernel
theorem dX10_bound_32 : decode cX10_bound 32 = .ok (.getfield 10, 3) := by decide +kernel
theorem dX10_bound_35 : decode cX10_bound 35 = .ok (.getfield 347, 3) := by decide +kernel
theorem dX10_bound_38 : decode cX10_bound 38 = .ok (.iload_n 3, 1) := by decide +kernel
theorem dX10_bound_39 : decode cX10_bound 39 = .ok (.invokevirtual 121, 3) := by decide +kernel
theorem dX10_bound_42 : decode cX10_bound 42 = .ok (.iload_n 1, 1) := by decide +kernel
theorem dX10_bound_43 : decode cX10_bound 43 = .ok (.if_icmp .gt 19, 3) := by decide +kernel
theorem dX10_bound_46 : decode cX10_bound 46 = .ok (.iload_n 2, 1) := by decide +kernel
theorem dX10_bound_47 : decode cX10_bound 47 = .ok (.aload_n 0, 1) := by decide +kernel
theorem dX10_bound_48 : decode cX10_bound 48 = .ok (.getfield 10, 3) := by decide +kernel
theorem dX10_bound_51 : decode cX10_bound 51 = .ok (.getfield 350, 3) := by decide +kernel
theorem dX10_bound_54 : decode cX10_bound 54 = .ok (.iload_n 3, 1) := by decide +kernel
theorem dX10_bound_55 : decode cX10_bound 55 = .ok (.invokevirtual 121, 3) := by decide +kernel
theorem dX10_bound_58 : decode cX10_bound 58 = .ok (.invokestatic 353, 3) := by decide +kernel
theorem dX10_bound_61 : decode cX10_bound 61 = .ok (.istore_n 2, 1) := by decide +kernel
theorem dX10_bound_62 : decode cX10_bound 62 = .ok (.iinc 3 1, 3) := by decide +kernel
theorem dX10_bound_65 : decode cX10_bound 65 = .ok (.goto (-48), 3) := by decide +kernel
theorem dX10_bound_68 : decode cX10_bound 68 = .ok (.iload_n 2, 1) := by decide +kernel
theorem dX10_bound_69 : decode cX10_bound 69 = .ok (.ifCond .ne 9, 3) := by decide +kernel
theorem dX10_bound_72 : decode cX10_bound 72 = .ok (.aload_n 0, 1) := by decide +kernel
theorem dX10_bound_73 : decode cX10_bound 73 = .ok (.iconst 2, 1) := by decide +kernel
theorem dX10_bound_74 : decode cX10_bound 74 = .ok (.invokevirtual 78, 3) := by decide +kernel
theorem dX10_bound_77 : decode cX10_bound 77 = .ok (.ireturn, 1) := by decide +kernel
theorem dX10_bound_78 : decode cX10_bound 78 = .ok (.sipush 30000, 3) := by decide +kernel
theorem dX10_bound_81 : decode cX10_bound 81 = .ok (.iload_n 2, 1) := by decide +kernel
theorem dX10_bound_82 : decode cX10_bound 82 = .ok (.idiv, 1) := by decide +kernel
theorem dX10_bound_83 : decode cX10_bound 83 = .ok (.ireturn, 1) := by decide +kernel
theorem dX10_gone_0 : decode cX10_gone 0 = .ok (.iload_n 1, 1) := by decide +kernel
theorem dX10_gone_1 : decode cX10_gone 1 = .ok (.iconst 1, 1) := by decide +kernel
theorem dX10_gone_2 : decode cX10_gone 2 = .ok (.ldc_w 355, 3) := by decide +kernel
theorem dX10_gone_5 : decode cX10_gone 5 = .ok (.invokestatic 74, 3) := by decide +kernel
theorem dX10_gone_8 : decode cX10_gone 8 = .ok (.ifCond .eq 24, 3) := by decide +kernel
theorem dX10_gone_11 : decode cX10_gone 11 = .ok (.iload_n 2, 1) := by decide +kernel
theorem dX10_gone_12 : decode cX10_gone 12 = .ok (.iconst 1, 1) := by decide +kernel
theorem dX10_gone_13 : decode cX10_gone 13 = .ok (.sipush 999, 3) := by decide +kernel
theorem dX10_gone_16 : decode cX10_gone 16 = .ok (.invokestatic 74, 3) := by decide +kernel
theorem dX10_gone_19 : decode cX10_gone 19 = .ok (.ifCond .eq 13, 3) := by decide +kernel
theorem dX10_gone_22 : decode cX10_gone 22 = .ok (.iload_n 3, 1) := by decide +kernel
theorem dX10_gone_23 : decode cX10_gone 23 = .ok (.iconst 1, 1) := by decide +kernel
theorem dX10_gone_24 : decode cX10_gone 24 = .ok (.bipush 9, 2) := by decide +kernel
theorem dX10_gone_26 : decode cX10_gone 26 = .ok (.invokestatic 74, 3) := by decide +kernel
theorem dX10_gone_29 : decode cX10_gone 29 = .ok (.ifCond .ne 9, 3) := by decide +kernel
theorem dX10_gone_32 : decode cX10_gone 32 = .ok (.aload_n 0, 1) := by decide +kernel
theorem dX10_gone_33 : decode cX10_gone 33 = .ok (.iconst 1, 1) := by decide +kernel
theorem dX10_gone_34 : decode cX10_gone 34 = .ok (.invokevirtual 78, 3) := by decide +kernel
theorem dX10_gone_37 : decode cX10_gone 37 = .ok (.ireturn, 1) := by decide +kernel
theorem dX10_gone_38 : decode cX10_gone 38 = .ok (.iload_n 1, 1) := by decide +kernel
theorem dX10_gone_39 : decode cX10_gone 39 = .ok (.istore 4, 2) := by decide +kernel
theorem dX10_gone_41 : decode cX10_gone 41 = .ok (.iconst 1, 1) := by decide +kernel
theorem dX10_gone_42 : decode cX10_gone 42 = .ok (.istore 5, 2) := by decide +kernel
theorem dX10_gone_44 : decode cX10_gone 44 = .ok (.iload 5, 2) := by decide +kernel
theorem dX10_gone_46 : decode cX10_gone 46 = .ok (.sipush 999, 3) := by decide +kernel
theorem dX10_gone_49 : decode cX10_gone 49 = .ok (.if_icmp .gt 52, 3) := by decide +kernel
theorem dX10_gone_52 : decode cX10_gone 52 = .ok (.iconst 0, 1) := by decide +kernel
theorem dX10_gone_53 : decode cX10_gone 53 = .ok (.istore 6, 2) := by decide +kernel
theorem dX10_gone_55 : decode cX10_gone 55 = .ok (.iload 6, 2) := by decide +kernel
theorem dX10_gone_57 : decode cX10_gone 57 = .ok (.iload_n 3, 1) := by decide +kernel
theorem dX10_gone_58 : decode cX10_gone 58 = .ok (.if_icmp .ge 26, 3) := by decide +kernel
theorem dX10_gone_61 : decode cX10_gone 61 = .ok (.iload 4, 2) := by decide +kernel
theorem dX10_gone_63 : decode cX10_gone 63 = .ok (.iload 4, 2) := by decide +kernel
theorem dX10_gone_65 : decode cX10_gone 65 = .ok (.iload_n 2, 1) := by decide +kernel
theorem dX10_gone_66 : decode cX10_gone 66 = .ok (.imul, 1) := by decide +kernel
theorem dX10_gone_67 : decode cX10_gone 67 = .ok (.sipush 999, 3) := by decide +kernel
theorem dX10_gone_70 : decode cX10_gone 70 = .ok (.iadd, 1) := by decide +kernel
theorem dX10_gone_71 : decode cX10_gone 71 = .ok (.sipush 1000, 3) := by decide +kernel
theorem dX10_gone_74 : decode cX10_gone 74 = .ok (.idiv, 1) := by decide +kernel
theorem dX10_gone_75 : decode cX10_gone 75 = .ok (.isub, 1) := by decide +kernel
theorem dX10_gone_76 : decode cX10_gone 76 = .ok (.istore 4, 2) := by decide +kernel
theorem dX10_gone_78 : decode cX10_gone 78 = .ok (.iinc 6 1, 3) := by decide +kernel
theorem dX10_gone_81 : decode cX10_gone 81 = .ok (.goto (-26), 3) := by decide +kernel
theorem dX10_gone_84 : decode cX10_gone 84 = .ok (.iconst 2, 1) := by decide +kernel
theorem dX10_gone_85 : decode cX10_gone 85 = .ok (.iload 4, 2) := by decide +kernel
theorem dX10_gone_87 : decode cX10_gone 87 = .ok (.imul, 1) := by decide +kernel
theorem dX10_gone_88 : decode cX10_gone 88 = .ok (.iload_n 1, 1) := by decide +kernel
theorem dX10_gone_89 : decode cX10_gone 89 = .ok (.if_icmp .ge 6, 3) := by decide +kernel
theorem dX10_gone_92 : decode cX10_gone 92 = .ok (.iload 5, 2) := by decide +kernel
theorem dX10_gone_94 : decode cX10_gone 94 = .ok (.ireturn, 1) := by decide +kernel
theorem dX10_gone_95 : decode cX10_gone 95 = .ok (.iinc 5 1, 3) := by decide +kernel
theorem dX10_gone_98 : decode cX10_gone 98 = .ok (.goto (-54), 3) := by decide +kernel
theorem dX10_gone_101 : decode cX10_gone 101 = .ok (.aload_n 0, 1) := by decide +kernel
theorem dX10_gone_102 : decode cX10_gone 102 = .ok (.iconst 2, 1) := by decide +kernel
theorem dX10_gone_103 : decode cX10_gone 103 = .ok (.invokevirtual 78, 3) := by decide +kernel
theorem dX10_gone_106 : decode cX10_gone 106 = .ok (.ireturn, 1) := by decide +kernel
theorem dX10_seed_0 : decode cX10_seed 0 = .ok (.aload_n 0, 1) := by decide +kernel
theorem dX10_seed_1 : decode cX10_seed 1 = .ok (.getfield 10, 3) := by decide +kernel
theorem dX10_seed_4 : decode cX10_seed 4 = .ok (.getfield 356, 3) := by decide +kernel
theorem dX10_seed_7 : decode cX10_seed 7 = .ok (.istore_n 2, 1) := by decide +kernel
theorem dX10_seed_8 : decode cX10_seed 8 = .ok (.aload_n 0, 1) := by decide +kernel
theorem dX10_seed_9 : decode cX10_seed 9 = .ok (.getfield 10, 3) := by decide +kernel
theorem dX10_seed_12 : decode cX10_seed 12 = .ok (.iload_n 1, 1) := by decide +kernel
theorem dX10_seed_13 : decode cX10_seed 13 = .ok (.putfield 356, 3) := by decide +kernel
theorem dX10_seed_16 : decode cX10_seed 16 = .ok (.iload_n 2, 1) := by decide +kernel
theorem dX10_seed_17 : decode cX10_seed 17 = .ok (.ireturn, 1) := by decide +kernel
theorem dX10_made_0 : decode cX10_made 0 = .ok (.aload_n 0, 1) := by decide +kernel
theorem dX10_made_1 : decode cX10_made 1 = .ok (.iload_n 1, 1) := by decide +kernel
theorem dX10_made_2 : decode cX10_made 2 = .ok (.invokevirtual 100, 3) := by decide +kernel
theorem dX10_made_5 : decode cX10_made 5 = .ok (.ifCond .eq 13, 3) := by decide +kernel
theorem dX10_made_8 : decode cX10_made 8 = .ok (.iload_n 2, 1) := by decide +kernel
theorem dX10_made_9 : decode cX10_made 9 = .ok (.iconst 1, 1) := by decide +kernel
theorem dX10_made_10 : decode cX10_made 10 = .ok (.bipush 20, 2) := by decide +kernel
theorem dX10_made_12 : decode cX10_made 12 = .ok (.invokestatic 74, 3) := by decide +kernel
theorem dX10_made_15 : decode cX10_made 15 = .ok (.ifCond .ne 9, 3) := by decide +kernel
theorem dX10_made_18 : decode cX10_made 18 = .ok (.aload_n 0, 1) := by decide +kernel
theorem dX10_made_19 : decode cX10_made 19 = .ok (.iconst 1, 1) := by decide +kernel
theorem dX10_made_20 : decode cX10_made 20 = .ok (.invokevirtual 78, 3) := by decide +kernel
theorem dX10_made_23 : decode cX10_made 23 = .ok (.ireturn, 1) := by decide +kernel
theorem dX10_made_24 : decode cX10_made 24 = .ok (.aload_n 0, 1) := by decide +kernel
theorem dX10_made_25 : decode cX10_made 25 = .ok (.getfield 10, 3) := by decide +kernel
theorem dX10_made_28 : decode cX10_made 28 = .ok (.getfield 118, 3) := by decide +kernel
theorem dX10_made_31 : decode cX10_made 31 = .ok (.invokevirtual 176, 3) := by decide +kernel
theorem dX10_made_34 : decode cX10_made 34 = .ok (.iload_n 2, 1) := by decide +kernel
theorem dX10_made_35 : decode cX10_made 35 = .ok (.if_icmp .ge 9, 3) := by decide +kernel
theorem dX10_made_38 : decode cX10_made 38 = .ok (.aload_n 0, 1) := by decide +kernel
theorem dX10_made_39 : decode cX10_made 39 = .ok (.iconst 4, 1) := by decide +kernel
theorem dX10_made_40 : decode cX10_made 40 = .ok (.invokevirtual 78, 3) := by decide +kernel
theorem dX10_made_43 : decode cX10_made 43 = .ok (.ireturn, 1) := by decide +kernel
theorem dX10_made_44 : decode cX10_made 44 = .ok (.iconst 0, 1) := by decide +kernel
theorem dX10_made_45 : decode cX10_made 45 = .ok (.istore_n 3, 1) := by decide +kernel
theorem dX10_made_46 : decode cX10_made 46 = .ok (.iload_n 3, 1) := by decide +kernel
theorem dX10_made_47 : decode cX10_made 47 = .ok (.iload_n 2, 1) := by decide +kernel
theorem dX10_made_48 : decode cX10_made 48 = .ok (.if_icmp .ge 36, 3) := by decide +kernel
theorem dX10_made_51 : decode cX10_made 51 = .ok (.aload_n 0, 1) := by decide +kernel
theorem dX10_made_52 : decode cX10_made 52 = .ok (.getfield 10, 3) := by decide +kernel
theorem dX10_made_55 : decode cX10_made 55 = .ok (.invokevirtual 359, 3) := by decide +kernel
theorem dX10_made_58 : decode cX10_made 58 = .ok (.istore 4, 2) := by decide +kernel
theorem dX10_made_60 : decode cX10_made 60 = .ok (.aload_n 0, 1) := by decide +kernel
theorem dX10_made_61 : decode cX10_made 61 = .ok (.getfield 10, 3) := by decide +kernel
theorem dX10_made_64 : decode cX10_made 64 = .ok (.iload_n 1, 1) := by decide +kernel
theorem dX10_made_65 : decode cX10_made 65 = .ok (.iload 4, 2) := by decide +kernel
theorem dX10_made_67 : decode cX10_made 67 = .ok (.aload_n 0, 1) := by decide +kernel
theorem dX10_made_68 : decode cX10_made 68 = .ok (.getfield 10, 3) := by decide +kernel
theorem dX10_made_71 : decode cX10_made 71 = .ok (.invokevirtual 362, 3) := by decide +kernel
theorem dX10_made_74 : decode cX10_made 74 = .ok (.invokevirtual 109, 3) := by decide +kernel
theorem dX10_made_77 : decode cX10_made 77 = .ok (.pop, 1) := by decide +kernel
theorem dX10_made_78 : decode cX10_made 78 = .ok (.iinc 3 1, 3) := by decide +kernel
theorem dX10_made_81 : decode cX10_made 81 = .ok (.goto (-35), 3) := by decide +kernel
theorem dX10_made_84 : decode cX10_made 84 = .ok (.aload_n 0, 1) := by decide +kernel
theorem dX10_made_85 : decode cX10_made 85 = .ok (.getfield 10, 3) := by decide +kernel
theorem dX10_made_88 : decode cX10_made 88 = .ok (.invokevirtual 112, 3) := by decide +kernel
theorem dX10_made_91 : decode cX10_made 91 = .ok (.ireturn, 1) := by decide +kernel
theorem dX10_both_0 : decode cX10_both 0 = .ok (.aload_n 0, 1) := by decide +kernel
theorem dX10_both_1 : decode cX10_both 1 = .ok (.iload_n 1, 1) := by decide +kernel
theorem dX10_both_2 : decode cX10_both 2 = .ok (.invokevirtual 211, 3) := by decide +kernel
theorem dX10_both_5 : decode cX10_both 5 = .ok (.ifCond .eq 13, 3) := by decide +kernel
theorem dX10_both_8 : decode cX10_both 8 = .ok (.iload_n 2, 1) := by decide +kernel
theorem dX10_both_9 : decode cX10_both 9 = .ok (.iconst 1, 1) := by decide +kernel
theorem dX10_both_10 : decode cX10_both 10 = .ok (.bipush 10, 2) := by decide +kernel
theorem dX10_both_12 : decode cX10_both 12 = .ok (.invokestatic 74, 3) := by decide +kernel
theorem dX10_both_15 : decode cX10_both 15 = .ok (.ifCond .ne 9, 3) := by decide +kernel
theorem dX10_both_18 : decode cX10_both 18 = .ok (.aload_n 0, 1) := by decide +kernel
theorem dX10_both_19 : decode cX10_both 19 = .ok (.iconst 1, 1) := by decide +kernel
theorem dX10_both_20 : decode cX10_both 20 = .ok (.invokevirtual 78, 3) := by decide +kernel
theorem dX10_both_23 : decode cX10_both 23 = .ok (.ireturn, 1) := by decide +kernel
theorem dX10_both_24 : decode cX10_both 24 = .ok (.aload_n 0, 1) := by decide +kernel
theorem dX10_both_25 : decode cX10_both 25 = .ok (.getfield 10, 3) := by decide +kernel
theorem dX10_both_28 : decode cX10_both 28 = .ok (.getfield 118, 3) := by decide +kernel
theorem dX10_both_31 : decode cX10_both 31 = .ok (.invokevirtual 176, 3) := by decide +kernel
theorem dX10_both_34 : decode cX10_both 34 = .ok (.iconst 2, 1) := by decide +kernel
theorem dX10_both_35 : decode cX10_both 35 = .ok (.iload_n 2, 1) := by decide +kernel
theorem dX10_both_36 : decode cX10_both 36 = .ok (.imul, 1) := by decide +kernel
theorem dX10_both_37 : decode cX10_both 37 = .ok (.if_icmp .ge 9, 3) := by decide +kernel
theorem dX10_both_40 : decode cX10_both 40 = .ok (.aload_n 0, 1) := by decide +kernel
theorem dX10_both_41 : decode cX10_both 41 = .ok (.iconst 4, 1) := by decide +kernel
theorem dX10_both_42 : decode cX10_both 42 = .ok (.invokevirtual 78, 3) := by decide +kernel
theorem dX10_both_45 : decode cX10_both 45 = .ok (.ireturn, 1) := by decide +kernel
theorem dX10_both_46 : decode cX10_both 46 = .ok (.iconst 0, 1) := by decide +kernel
theorem dX10_both_47 : decode cX10_both 47 = .ok (.istore_n 3, 1) := by decide +kernel
theorem dX10_both_48 : decode cX10_both 48 = .ok (.iload_n 3, 1) := by decide +kernel
theorem dX10_both_49 : decode cX10_both 49 = .ok (.iload_n 2, 1) := by decide +kernel
theorem dX10_both_50 : decode cX10_both 50 = .ok (.if_icmp .ge 59, 3) := by decide +kernel
theorem dX10_both_53 : decode cX10_both 53 = .ok (.aload_n 0, 1) := by decide +kernel
theorem dX10_both_54 : decode cX10_both 54 = .ok (.getfield 10, 3) := by decide +kernel
theorem dX10_both_57 : decode cX10_both 57 = .ok (.invokevirtual 359, 3) := by decide +kernel
theorem dX10_both_60 : decode cX10_both 60 = .ok (.istore 4, 2) := by decide +kernel
theorem dX10_both_62 : decode cX10_both 62 = .ok (.aload_n 0, 1) := by decide +kernel
theorem dX10_both_63 : decode cX10_both 63 = .ok (.getfield 10, 3) := by decide +kernel
theorem dX10_both_66 : decode cX10_both 66 = .ok (.invokevirtual 362, 3) := by decide +kernel
theorem dX10_both_69 : decode cX10_both 69 = .ok (.istore 5, 2) := by decide +kernel
theorem dX10_both_71 : decode cX10_both 71 = .ok (.aload_n 0, 1) := by decide +kernel
theorem dX10_both_72 : decode cX10_both 72 = .ok (.getfield 10, 3) := by decide +kernel
theorem dX10_both_75 : decode cX10_both 75 = .ok (.iload_n 1, 1) := by decide +kernel
theorem dX10_both_76 : decode cX10_both 76 = .ok (.bipush 10, 2) := by decide +kernel
theorem dX10_both_78 : decode cX10_both 78 = .ok (.idiv, 1) := by decide +kernel
theorem dX10_both_79 : decode cX10_both 79 = .ok (.iload 4, 2) := by decide +kernel
theorem dX10_both_81 : decode cX10_both 81 = .ok (.iload 5, 2) := by decide +kernel
theorem dX10_both_83 : decode cX10_both 83 = .ok (.invokevirtual 109, 3) := by decide +kernel
theorem dX10_both_86 : decode cX10_both 86 = .ok (.pop, 1) := by decide +kernel
theorem dX10_both_87 : decode cX10_both 87 = .ok (.aload_n 0, 1) := by decide +kernel
theorem dX10_both_88 : decode cX10_both 88 = .ok (.getfield 10, 3) := by decide +kernel
theorem dX10_both_91 : decode cX10_both 91 = .ok (.iload_n 1, 1) := by decide +kernel
theorem dX10_both_92 : decode cX10_both 92 = .ok (.bipush 10, 2) := by decide +kernel
theorem dX10_both_94 : decode cX10_both 94 = .ok (.irem, 1) := by decide +kernel
theorem dX10_both_95 : decode cX10_both 95 = .ok (.iload 4, 2) := by decide +kernel
theorem dX10_both_97 : decode cX10_both 97 = .ok (.iload 5, 2) := by decide +kernel
theorem dX10_both_99 : decode cX10_both 99 = .ok (.invokevirtual 109, 3) := by decide +kernel
theorem dX10_both_102 : decode cX10_both 102 = .ok (.pop, 1) := by decide +kernel
theorem dX10_both_103 : decode cX10_both 103 = .ok (.iinc 3 1, 3) := by decide +kernel
theorem dX10_both_106 : decode cX10_both 106 = .ok (.goto (-58), 3) := by decide +kernel
theorem dX10_both_109 : decode cX10_both 109 = .ok (.aload_n 0, 1) := by decide +kernel
theorem dX10_both_110 : decode cX10_both 110 = .ok (.getfield 10, 3) := by decide +kernel
theorem dX10_both_113 : decode cX10_both 113 = .ok (.invokevirtual 112, 3) := by decide +kernel
theorem dX10_both_116 : decode cX10_both 116 = .ok (.ireturn, 1) := by decide +kernel
theorem dX10_voice_0 : decode cX10_voice 0 = .ok (.aload_n 0, 1) := by decide +kernel
theorem dX10_voice_1 : decode cX10_voice 1 = .ok (.getfield 10, 3) := by decide +kernel
theorem dX10_voice_4 : decode cX10_voice 4 = .ok (.iload_n 1, 1) := by decide +kernel
theorem dX10_voice_5 : decode cX10_voice 5 = .ok (.invokevirtual 239, 3) := by decide +kernel
theorem dX10_voice_8 : decode cX10_voice 8 = .ok (.astore 4, 2) := by decide +kernel
theorem dX10_voice_10 : decode cX10_voice 10 = .ok (.aload 4, 2) := by decide +kernel
theorem dX10_voice_12 : decode cX10_voice 12 = .ok (.ifnull 12, 3) := by decide +kernel
theorem dX10_voice_15 : decode cX10_voice 15 = .ok (.iload_n 2, 1) := by decide +kernel
theorem dX10_voice_16 : decode cX10_voice 16 = .ok (.iconst 0, 1) := by decide +kernel
theorem dX10_voice_17 : decode cX10_voice 17 = .ok (.iconst 3, 1) := by decide +kernel
theorem dX10_voice_18 : decode cX10_voice 18 = .ok (.invokestatic 74, 3) := by decide +kernel
theorem dX10_voice_21 : decode cX10_voice 21 = .ok (.ifCond .ne 9, 3) := by decide +kernel
theorem dX10_voice_24 : decode cX10_voice 24 = .ok (.aload_n 0, 1) := by decide +kernel
theorem dX10_voice_25 : decode cX10_voice 25 = .ok (.iconst 1, 1) := by decide +kernel
theorem dX10_voice_26 : decode cX10_voice 26 = .ok (.invokevirtual 78, 3) := by decide +kernel
theorem dX10_voice_29 : decode cX10_voice 29 = .ok (.ireturn, 1) := by decide +kernel
theorem dX10_voice_30 : decode cX10_voice 30 = .ok (.aload_n 0, 1) := by decide +kernel
theorem dX10_voice_31 : decode cX10_voice 31 = .ok (.getfield 63, 3) := by decide +kernel
theorem dX10_voice_34 : decode cX10_voice 34 = .ok (.aload 4, 2) := by decide +kernel
theorem dX10_voice_36 : decode cX10_voice 36 = .ok (.iload_n 2, 1) := by decide +kernel
theorem dX10_voice_37 : decode cX10_voice 37 = .ok (.iload_n 3, 1) := by decide +kernel
theorem dX10_voice_38 : decode cX10_voice 38 = .ok (.invokevirtual 365, 3) := by decide +kernel
theorem dX10_voice_41 : decode cX10_voice 41 = .ok (.ireturn, 1) := by decide +kernel
theorem dX10_trace_0 : decode cX10_trace 0 = .ok (.iload_n 1, 1) := by decide +kernel
theorem dX10_trace_1 : decode cX10_trace 1 = .ok (.iconst 0, 1) := by decide +kernel
theorem dX10_trace_2 : decode cX10_trace 2 = .ok (.aload_n 0, 1) := by decide +kernel
theorem dX10_trace_3 : decode cX10_trace 3 = .ok (.getfield 63, 3) := by decide +kernel
theorem dX10_trace_6 : decode cX10_trace 6 = .ok (.getfield 369, 3) := by decide +kernel
theorem dX10_trace_9 : decode cX10_trace 9 = .ok (.invokevirtual 96, 3) := by decide +kernel
theorem dX10_trace_12 : decode cX10_trace 12 = .ok (.iconst 1, 1) := by decide +kernel
theorem dX10_trace_13 : decode cX10_trace 13 = .ok (.isub, 1) := by decide +kernel
theorem dX10_trace_14 : decode cX10_trace 14 = .ok (.invokestatic 74, 3) := by decide +kernel
theorem dX10_trace_17 : decode cX10_trace 17 = .ok (.ifCond .ne 9, 3) := by decide +kernel
theorem dX10_trace_20 : decode cX10_trace 20 = .ok (.aload_n 0, 1) := by decide +kernel
theorem dX10_trace_21 : decode cX10_trace 21 = .ok (.iconst 2, 1) := by decide +kernel
theorem dX10_trace_22 : decode cX10_trace 22 = .ok (.invokevirtual 78, 3) := by decide +kernel
theorem dX10_trace_25 : decode cX10_trace 25 = .ok (.ireturn, 1) := by decide +kernel
theorem dX10_trace_26 : decode cX10_trace 26 = .ok (.aload_n 0, 1) := by decide +kernel
theorem dX10_trace_27 : decode cX10_trace 27 = .ok (.getfield 63, 3) := by decide +kernel
theorem dX10_trace_30 : decode cX10_trace 30 = .ok (.getfield 369, 3) := by decide +kernel
theorem dX10_trace_33 : decode cX10_trace 33 = .ok (.iload_n 1, 1) := by decide +kernel
theorem dX10_trace_34 : decode cX10_trace 34 = .ok (.invokevirtual 121, 3) := by decide +kernel
theorem dX10_trace_37 : decode cX10_trace 37 = .ok (.ireturn, 1) := by decide +kernel
theorem dX10_sheet_0 : decode cX10_sheet 0 = .ok (.aload_n 0, 1) := by decide +kernel
theorem dX10_sheet_1 : decode cX10_sheet 1 = .ok (.iload_n 1, 1) := by decide +kernel
theorem dX10_sheet_2 : decode cX10_sheet 2 = .ok (.invokevirtual 155, 3) := by decide +kernel
theorem dX10_sheet_5 : decode cX10_sheet 5 = .ok (.astore 4, 2) := by decide +kernel
theorem dX10_sheet_7 : decode cX10_sheet 7 = .ok (.aload 4, 2) := by decide +kernel
theorem dX10_sheet_9 : decode cX10_sheet 9 = .ok (.ifnull 25, 3) := by decide +kernel
theorem dX10_sheet_12 : decode cX10_sheet 12 = .ok (.iload_n 2, 1) := by decide +kernel
theorem dX10_sheet_13 : decode cX10_sheet 13 = .ok (.ifCond .eq 27, 3) := by decide +kernel
theorem dX10_sheet_16 : decode cX10_sheet 16 = .ok (.iload_n 2, 1) := by decide +kernel
theorem dX10_sheet_17 : decode cX10_sheet 17 = .ok (.bipush 8, 2) := by decide +kernel
theorem dX10_sheet_19 : decode cX10_sheet 19 = .ok (.if_icmp .eq 21, 3) := by decide +kernel
theorem dX10_sheet_22 : decode cX10_sheet 22 = .ok (.iload_n 2, 1) := by decide +kernel
theorem dX10_sheet_23 : decode cX10_sheet 23 = .ok (.bipush 16, 2) := by decide +kernel
theorem dX10_sheet_25 : decode cX10_sheet 25 = .ok (.if_icmp .eq 15, 3) := by decide +kernel
theorem dX10_sheet_28 : decode cX10_sheet 28 = .ok (.iload_n 2, 1) := by decide +kernel
theorem dX10_sheet_29 : decode cX10_sheet 29 = .ok (.bipush 32, 2) := by decide +kernel
theorem dX10_sheet_31 : decode cX10_sheet 31 = .ok (.if_icmp .eq 9, 3) := by decide +kernel
theorem dX10_sheet_34 : decode cX10_sheet 34 = .ok (.aload_n 0, 1) := by decide +kernel
theorem dX10_sheet_35 : decode cX10_sheet 35 = .ok (.iconst 1, 1) := by decide +kernel
theorem dX10_sheet_36 : decode cX10_sheet 36 = .ok (.invokevirtual 78, 3) := by decide +kernel
theorem dX10_sheet_39 : decode cX10_sheet 39 = .ok (.ireturn, 1) := by decide +kernel
theorem dX10_sheet_40 : decode cX10_sheet 40 = .ok (.iload_n 2, 1) := by decide +kernel
theorem dX10_sheet_41 : decode cX10_sheet 41 = .ok (.ifCond .eq 13, 3) := by decide +kernel
theorem dX10_sheet_44 : decode cX10_sheet 44 = .ok (.iload_n 3, 1) := by decide +kernel
theorem dX10_sheet_45 : decode cX10_sheet 45 = .ok (.ifCond .ge 9, 3) := by decide +kernel
theorem dX10_sheet_48 : decode cX10_sheet 48 = .ok (.aload_n 0, 1) := by decide +kernel
theorem dX10_sheet_49 : decode cX10_sheet 49 = .ok (.iconst 3, 1) := by decide +kernel
theorem dX10_sheet_50 : decode cX10_sheet 50 = .ok (.invokevirtual 78, 3) := by decide +kernel
theorem dX10_sheet_53 : decode cX10_sheet 53 = .ok (.ireturn, 1) := by decide +kernel
theorem dX10_sheet_54 : decode cX10_sheet 54 = .ok (.iload_n 2, 1) := by decide +kernel
theorem dX10_sheet_55 : decode cX10_sheet 55 = .ok (.ifCond .eq 15, 3) := by decide +kernel
theorem dX10_sheet_58 : decode cX10_sheet 58 = .ok (.iload_n 3, 1) := by decide +kernel
theorem dX10_sheet_59 : decode cX10_sheet 59 = .ok (.bipush 40, 2) := by decide +kernel
theorem dX10_sheet_61 : decode cX10_sheet 61 = .ok (.if_icmp .le 9, 3) := by decide +kernel
theorem dX10_sheet_64 : decode cX10_sheet 64 = .ok (.aload_n 0, 1) := by decide +kernel
theorem dX10_sheet_65 : decode cX10_sheet 65 = .ok (.iconst 1, 1) := by decide +kernel
theorem dX10_sheet_66 : decode cX10_sheet 66 = .ok (.invokevirtual 78, 3) := by decide +kernel
theorem dX10_sheet_69 : decode cX10_sheet 69 = .ok (.ireturn, 1) := by decide +kernel
theorem dX10_sheet_70 : decode cX10_sheet 70 = .ok (.aload 4, 2) := by decide +kernel
theorem dX10_sheet_72 : decode cX10_sheet 72 = .ok (.iload_n 2, 1) := by decide +kernel
theorem dX10_sheet_73 : decode cX10_sheet 73 = .ok (.iload_n 2, 1) := by decide +kernel
theorem dX10_sheet_74 : decode cX10_sheet 74 = .ok (.ifCond .ne 7, 3) := by decide +kernel
theorem dX10_sheet_77 : decode cX10_sheet 77 = .ok (.iconst 0, 1) := by decide +kernel
theorem dX10_sheet_78 : decode cX10_sheet 78 = .ok (.goto 4, 3) := by decide +kernel
theorem dX10_sheet_81 : decode cX10_sheet 81 = .ok (.iload_n 3, 1) := by decide +kernel
theorem dX10_sheet_82 : decode cX10_sheet 82 = .ok (.invokevirtual 372, 3) := by decide +kernel
theorem dX10_sheet_85 : decode cX10_sheet 85 = .ok (.iconst 1, 1) := by decide +kernel
theorem dX10_sheet_86 : decode cX10_sheet 86 = .ok (.ireturn, 1) := by decide +kernel
theorem dX10_put_0 : decode cX10_put 0 = .ok (.aload_n 0, 1) := by decide +kernel
theorem dX10_put_1 : decode cX10_put 1 = .ok (.iload_n 1, 1) := by decide +kernel
theorem dX10_put_2 : decode cX10_put 2 = .ok (.invokevirtual 155, 3) := by decide +kernel
theorem dX10_put_5 : decode cX10_put 5 = .ok (.astore 4, 2) := by decide +kernel
theorem dX10_put_7 : decode cX10_put 7 = .ok (.aload 4, 2) := by decide +kernel
theorem dX10_put_9 : decode cX10_put 9 = .ok (.ifnonnull 9, 3) := by decide +kernel
theorem dX10_put_12 : decode cX10_put 12 = .ok (.aload_n 0, 1) := by decide +kernel
theorem dX10_put_13 : decode cX10_put 13 = .ok (.iconst 1, 1) := by decide +kernel
theorem dX10_put_14 : decode cX10_put 14 = .ok (.invokevirtual 78, 3) := by decide +kernel
theorem dX10_put_17 : decode cX10_put 17 = .ok (.ireturn, 1) := by decide +kernel
theorem dX10_put_18 : decode cX10_put 18 = .ok (.aload 4, 2) := by decide +kernel
theorem dX10_put_20 : decode cX10_put 20 = .ok (.invokevirtual 159, 3) := by decide +kernel
theorem dX10_put_23 : decode cX10_put 23 = .ok (.ifCond .eq 9, 3) := by decide +kernel
theorem dX10_put_26 : decode cX10_put 26 = .ok (.aload_n 0, 1) := by decide +kernel
theorem dX10_put_27 : decode cX10_put 27 = .ok (.iconst 2, 1) := by decide +kernel
theorem dX10_put_28 : decode cX10_put 28 = .ok (.invokevirtual 78, 3) := by decide +kernel
theorem dX10_put_31 : decode cX10_put 31 = .ok (.ireturn, 1) := by decide +kernel
theorem dX10_put_32 : decode cX10_put 32 = .ok (.aload 4, 2) := by decide +kernel
theorem dX10_put_34 : decode cX10_put 34 = .ok (.iload_n 2, 1) := by decide +kernel
theorem dX10_put_35 : decode cX10_put 35 = .ok (.invokevirtual 167, 3) := by decide +kernel
theorem dX10_put_38 : decode cX10_put 38 = .ok (.ifCond .ne 9, 3) := by decide +kernel
theorem dX10_put_41 : decode cX10_put 41 = .ok (.aload_n 0, 1) := by decide +kernel
theorem dX10_put_42 : decode cX10_put 42 = .ok (.iconst 1, 1) := by decide +kernel
theorem dX10_put_43 : decode cX10_put 43 = .ok (.invokevirtual 78, 3) := by decide +kernel
theorem dX10_put_46 : decode cX10_put 46 = .ok (.ireturn, 1) := by decide +kernel
theorem dX10_put_47 : decode cX10_put 47 = .ok (.aload 4, 2) := by decide +kernel
theorem dX10_put_49 : decode cX10_put 49 = .ok (.iload_n 2, 1) := by decide +kernel
theorem dX10_put_50 : decode cX10_put 50 = .ok (.iload_n 3, 1) := by decide +kernel
theorem dX10_put_51 : decode cX10_put 51 = .ok (.invokevirtual 375, 3) := by decide +kernel
theorem dX10_put_54 : decode cX10_put 54 = .ok (.iconst 1, 1) := by decide +kernel
theorem dX10_put_55 : decode cX10_put 55 = .ok (.ireturn, 1) := by decide +kernel
theorem dX10_move_0 : decode cX10_move 0 = .ok (.aload_n 0, 1) := by decide +kernel
theorem dX10_move_1 : decode cX10_move 1 = .ok (.iload_n 1, 1) := by decide +kernel
theorem dX10_move_2 : decode cX10_move 2 = .ok (.invokevirtual 155, 3) := by decide +kernel
theorem dX10_move_5 : decode cX10_move 5 = .ok (.astore 6, 2) := by decide +kernel
theorem dX10_move_7 : decode cX10_move 7 = .ok (.aload_n 0, 1) := by decide +kernel
theorem dX10_move_8 : decode cX10_move 8 = .ok (.iload_n 3, 1) := by decide +kernel
theorem dX10_move_9 : decode cX10_move 9 = .ok (.invokevirtual 155, 3) := by decide +kernel
theorem dX10_move_12 : decode cX10_move 12 = .ok (.astore 7, 2) := by decide +kernel
theorem dX10_move_14 : decode cX10_move 14 = .ok (.aload 6, 2) := by decide +kernel
theorem dX10_move_16 : decode cX10_move 16 = .ok (.ifnull 8, 3) := by decide +kernel
theorem dX10_move_19 : decode cX10_move 19 = .ok (.aload 7, 2) := by decide +kernel
theorem dX10_move_21 : decode cX10_move 21 = .ok (.ifnonnull 9, 3) := by decide +kernel
theorem dX10_move_24 : decode cX10_move 24 = .ok (.aload_n 0, 1) := by decide +kernel
theorem dX10_move_25 : decode cX10_move 25 = .ok (.iconst 1, 1) := by decide +kernel
theorem dX10_move_26 : decode cX10_move 26 = .ok (.invokevirtual 78, 3) := by decide +kernel
theorem dX10_move_29 : decode cX10_move 29 = .ok (.ireturn, 1) := by decide +kernel
theorem dX10_move_30 : decode cX10_move 30 = .ok (.aload 6, 2) := by decide +kernel
theorem dX10_move_32 : decode cX10_move 32 = .ok (.invokevirtual 159, 3) := by decide +kernel
theorem dX10_move_35 : decode cX10_move 35 = .ok (.ifCond .ne 11, 3) := by decide +kernel
theorem dX10_move_38 : decode cX10_move 38 = .ok (.aload 7, 2) := by decide +kernel
theorem dX10_move_40 : decode cX10_move 40 = .ok (.invokevirtual 159, 3) := by decide +kernel
theorem dX10_move_43 : decode cX10_move 43 = .ok (.ifCond .eq 9, 3) := by decide +kernel
theorem dX10_move_46 : decode cX10_move 46 = .ok (.aload_n 0, 1) := by decide +kernel
theorem dX10_move_47 : decode cX10_move 47 = .ok (.iconst 2, 1) := by decide +kernel
theorem dX10_move_48 : decode cX10_move 48 = .ok (.invokevirtual 78, 3) := by decide +kernel
theorem dX10_move_51 : decode cX10_move 51 = .ok (.ireturn, 1) := by decide +kernel
theorem dX10_move_52 : decode cX10_move 52 = .ok (.aload 6, 2) := by decide +kernel
theorem dX10_move_54 : decode cX10_move 54 = .ok (.getfield 378, 3) := by decide +kernel
theorem dX10_move_57 : decode cX10_move 57 = .ok (.aload 7, 2) := by decide +kernel
theorem dX10_move_59 : decode cX10_move 59 = .ok (.getfield 378, 3) := by decide +kernel
theorem dX10_move_62 : decode cX10_move 62 = .ok (.if_icmp .eq 9, 3) := by decide +kernel
theorem dX10_move_65 : decode cX10_move 65 = .ok (.aload_n 0, 1) := by decide +kernel
theorem dX10_move_66 : decode cX10_move 66 = .ok (.iconst 5, 1) := by decide +kernel
theorem dX10_move_67 : decode cX10_move 67 = .ok (.invokevirtual 78, 3) := by decide +kernel
theorem dX10_move_70 : decode cX10_move 70 = .ok (.ireturn, 1) := by decide +kernel
theorem dX10_move_71 : decode cX10_move 71 = .ok (.aload 6, 2) := by decide +kernel
theorem dX10_move_73 : decode cX10_move 73 = .ok (.iload_n 2, 1) := by decide +kernel
theorem dX10_move_74 : decode cX10_move 74 = .ok (.iload 5, 2) := by decide +kernel
theorem dX10_move_76 : decode cX10_move 76 = .ok (.invokevirtual 381, 3) := by decide +kernel
theorem dX10_move_79 : decode cX10_move 79 = .ok (.ifCond .eq 15, 3) := by decide +kernel
theorem dX10_move_82 : decode cX10_move 82 = .ok (.aload 7, 2) := by decide +kernel
theorem dX10_move_84 : decode cX10_move 84 = .ok (.iload 4, 2) := by decide +kernel
theorem dX10_move_86 : decode cX10_move 86 = .ok (.iload 5, 2) := by decide +kernel
theorem dX10_move_88 : decode cX10_move 88 = .ok (.invokevirtual 381, 3) := by decide +kernel
theorem dX10_move_91 : decode cX10_move 91 = .ok (.ifCond .ne 9, 3) := by decide +kernel
theorem dX10_move_94 : decode cX10_move 94 = .ok (.aload_n 0, 1) := by decide +kernel
theorem dX10_move_95 : decode cX10_move 95 = .ok (.iconst 1, 1) := by decide +kernel
theorem dX10_move_96 : decode cX10_move 96 = .ok (.invokevirtual 78, 3) := by decide +kernel
theorem dX10_move_99 : decode cX10_move 99 = .ok (.ireturn, 1) := by decide +kernel
theorem dX10_move_100 : decode cX10_move 100 = .ok (.aload 7, 2) := by decide +kernel
theorem dX10_move_102 : decode cX10_move 102 = .ok (.getfield 384, 3) := by decide +kernel
theorem dX10_move_105 : decode cX10_move 105 = .ok (.aload 6, 2) := by decide +kernel
theorem dX10_move_107 : decode cX10_move 107 = .ok (.getfield 384, 3) := by decide +kernel
theorem dX10_move_110 : decode cX10_move 110 = .ok (.iload_n 2, 1) := by decide +kernel
theorem dX10_move_111 : decode cX10_move 111 = .ok (.iload 4, 2) := by decide +kernel
theorem dX10_move_113 : decode cX10_move 113 = .ok (.iload 5, 2) := by decide +kernel
theorem dX10_move_115 : decode cX10_move 115 = .ok (.invokevirtual 387, 3) := by decide +kernel
theorem dX10_move_118 : decode cX10_move 118 = .ok (.iload 5, 2) := by decide +kernel
theorem dX10_move_120 : decode cX10_move 120 = .ok (.ireturn, 1) := by decide +kernel
theorem dX10_image_0 : decode cX10_image 0 = .ok (.aload_n 0, 1) := by decide +kernel
theorem dX10_image_1 : decode cX10_image 1 = .ok (.getfield 16, 3) := by decide +kernel
theorem dX10_image_4 : decode cX10_image 4 = .ok (.aload_n 0, 1) := by decide +kernel
theorem dX10_image_5 : decode cX10_image 5 = .ok (.getfield 10, 3) := by decide +kernel
theorem dX10_image_8 : decode cX10_image 8 = .ok (.invokevirtual 391, 3) := by decide +kernel
theorem dX10_image_11 : decode cX10_image 11 = .ok (.aload_n 0, 1) := by decide +kernel
theorem dX10_image_12 : decode cX10_image 12 = .ok (.dup, 1) := by decide +kernel
theorem dX10_image_13 : decode cX10_image 13 = .ok (.getfield 394, 3) := by decide +kernel
theorem dX10_image_16 : decode cX10_image 16 = .ok (.iconst 1, 1) := by decide +kernel
theorem dX10_image_17 : decode cX10_image 17 = .ok (.iadd, 1) := by decide +kernel
theorem dX10_image_18 : decode cX10_image 18 = .ok (.putfield 394, 3) := by decide +kernel
theorem dX10_image_21 : decode cX10_image 21 = .ok (.aload_n 0, 1) := by decide +kernel
theorem dX10_image_22 : decode cX10_image 22 = .ok (.getfield 394, 3) := by decide +kernel
theorem dX10_image_25 : decode cX10_image 25 = .ok (.ireturn, 1) := by decide +kernel
theorem dX10_restore_0 : decode cX10_restore 0 = .ok (.aload_n 0, 1) := by decide +kernel
theorem dX10_restore_1 : decode cX10_restore 1 = .ok (.getfield 394, 3) := by decide +kernel
theorem dX10_restore_4 : decode cX10_restore 4 = .ok (.ifCond .ne 9, 3) := by decide +kernel
theorem dX10_restore_7 : decode cX10_restore 7 = .ok (.aload_n 0, 1) := by decide +kernel
theorem dX10_restore_8 : decode cX10_restore 8 = .ok (.iconst 2, 1) := by decide +kernel
theorem dX10_restore_9 : decode cX10_restore 9 = .ok (.invokevirtual 78, 3) := by decide +kernel
theorem dX10_restore_12 : decode cX10_restore 12 = .ok (.ireturn, 1) := by decide +kernel
theorem dX10_restore_13 : decode cX10_restore 13 = .ok (.aload_n 0, 1) := by decide +kernel
theorem dX10_restore_14 : decode cX10_restore 14 = .ok (.getfield 10, 3) := by decide +kernel
theorem dX10_restore_17 : decode cX10_restore 17 = .ok (.aload_n 0, 1) := by decide +kernel
theorem dX10_restore_18 : decode cX10_restore 18 = .ok (.getfield 16, 3) := by decide +kernel
theorem dX10_restore_21 : decode cX10_restore 21 = .ok (.invokevirtual 391, 3) := by decide +kernel
theorem dX10_restore_24 : decode cX10_restore 24 = .ok (.aload_n 0, 1) := by decide +kernel
theorem dX10_restore_25 : decode cX10_restore 25 = .ok (.getfield 10, 3) := by decide +kernel
theorem dX10_restore_28 : decode cX10_restore 28 = .ok (.invokevirtual 112, 3) := by decide +kernel
theorem dX10_restore_31 : decode cX10_restore 31 = .ok (.ireturn, 1) := by decide +kernel
theorem dX10_tell_0 : decode cX10_tell 0 = .ok (.aload_n 0, 1) := by decide +kernel
theorem dX10_tell_1 : decode cX10_tell 1 = .ok (.getfield 10, 3) := by decide +kernel
theorem dX10_tell_4 : decode cX10_tell 4 = .ok (.getfield 397, 3) := by decide +kernel
theorem dX10_tell_7 : decode cX10_tell 7 = .ok (.iload_n 1, 1) := by decide +kernel
theorem dX10_tell_8 : decode cX10_tell 8 = .ok (.invokevirtual 92, 3) := by decide +kernel
theorem dX10_tell_11 : decode cX10_tell 11 = .ok (.ifCond .ne 9, 3) := by decide +kernel
theorem dX10_tell_14 : decode cX10_tell 14 = .ok (.aload_n 0, 1) := by decide +kernel
theorem dX10_tell_15 : decode cX10_tell 15 = .ok (.iconst 4, 1) := by decide +kernel
theorem dX10_tell_16 : decode cX10_tell 16 = .ok (.invokevirtual 78, 3) := by decide +kernel
theorem dX10_tell_19 : decode cX10_tell 19 = .ok (.ireturn, 1) := by decide +kernel
theorem dX10_tell_20 : decode cX10_tell 20 = .ok (.aload_n 0, 1) := by decide +kernel
theorem dX10_tell_21 : decode cX10_tell 21 = .ok (.getfield 10, 3) := by decide +kernel
theorem dX10_tell_24 : decode cX10_tell 24 = .ok (.getfield 397, 3) := by decide +kernel
theorem dX10_tell_27 : decode cX10_tell 27 = .ok (.invokevirtual 96, 3) := by decide +kernel
theorem dX10_tell_30 : decode cX10_tell 30 = .ok (.ireturn, 1) := by decide +kernel
theorem dX10_check_0 : decode cX10_check 0 = .ok (.aload_n 0, 1) := by decide +kernel
theorem dX10_check_1 : decode cX10_check 1 = .ok (.getfield 10, 3) := by decide +kernel
theorem dX10_check_4 : decode cX10_check 4 = .ok (.iload_n 1, 1) := by decide +kernel
theorem dX10_check_5 : decode cX10_check 5 = .ok (.invokevirtual 239, 3) := by decide +kernel
theorem dX10_check_8 : decode cX10_check 8 = .ok (.astore_n 2, 1) := by decide +kernel
theorem dX10_check_9 : decode cX10_check 9 = .ok (.aload_n 2, 1) := by decide +kernel
theorem dX10_check_10 : decode cX10_check 10 = .ok (.ifnonnull 19, 3) := by decide +kernel
theorem dX10_check_13 : decode cX10_check 13 = .ok (.aload_n 0, 1) := by decide +kernel
theorem dX10_check_14 : decode cX10_check 14 = .ok (.getfield 10, 3) := by decide +kernel
theorem dX10_check_17 : decode cX10_check 17 = .ok (.getfield 397, 3) := by decide +kernel
theorem dX10_check_20 : decode cX10_check 20 = .ok (.invokevirtual 189, 3) := by decide +kernel
theorem dX10_check_23 : decode cX10_check 23 = .ok (.aload_n 0, 1) := by decide +kernel
theorem dX10_check_24 : decode cX10_check 24 = .ok (.iconst 1, 1) := by decide +kernel
theorem dX10_check_25 : decode cX10_check 25 = .ok (.invokevirtual 78, 3) := by decide +kernel
theorem dX10_check_28 : decode cX10_check 28 = .ok (.ireturn, 1) := by decide +kernel
theorem dX10_check_29 : decode cX10_check 29 = .ok (.aload_n 0, 1) := by decide +kernel
theorem dX10_check_30 : decode cX10_check 30 = .ok (.getfield 42, 3) := by decide +kernel
theorem dX10_check_33 : decode cX10_check 33 = .ok (.aload_n 0, 1) := by decide +kernel
theorem dX10_check_34 : decode cX10_check 34 = .ok (.getfield 10, 3) := by decide +kernel
theorem dX10_check_37 : decode cX10_check 37 = .ok (.aload_n 2, 1) := by decide +kernel
theorem dX10_check_38 : decode cX10_check 38 = .ok (.getfield 250, 3) := by decide +kernel
theorem dX10_check_41 : decode cX10_check 41 = .ok (.invokevirtual 217, 3) := by decide +kernel
theorem dX10_check_44 : decode cX10_check 44 = .ok (.aload_n 0, 1) := by decide +kernel
theorem dX10_check_45 : decode cX10_check 45 = .ok (.getfield 42, 3) := by decide +kernel
theorem dX10_check_48 : decode cX10_check 48 = .ok (.aload_n 2, 1) := by decide +kernel
theorem dX10_check_49 : decode cX10_check 49 = .ok (.getfield 246, 3) := by decide +kernel
theorem dX10_check_52 : decode cX10_check 52 = .ok (.invokevirtual 218, 3) := by decide +kernel
theorem dX10_check_55 : decode cX10_check 55 = .ok (.aload_n 0, 1) := by decide +kernel
theorem dX10_check_56 : decode cX10_check 56 = .ok (.getfield 42, 3) := by decide +kernel
theorem dX10_check_59 : decode cX10_check 59 = .ok (.aload_n 2, 1) := by decide +kernel
theorem dX10_check_60 : decode cX10_check 60 = .ok (.getfield 400, 3) := by decide +kernel
theorem dX10_check_63 : decode cX10_check 63 = .ok (.iconst 0, 1) := by decide +kernel
theorem dX10_check_64 : decode cX10_check 64 = .ok (.invokevirtual 221, 3) := by decide +kernel
theorem dX10_check_67 : decode cX10_check 67 = .ok (.pop, 1) := by decide +kernel
theorem dX10_check_68 : decode cX10_check 68 = .ok (.aload_n 0, 1) := by decide +kernel
theorem dX10_check_69 : decode cX10_check 69 = .ok (.getfield 10, 3) := by decide +kernel
theorem dX10_check_72 : decode cX10_check 72 = .ok (.getfield 397, 3) := by decide +kernel
theorem dX10_check_75 : decode cX10_check 75 = .ok (.aload_n 0, 1) := by decide +kernel
theorem dX10_check_76 : decode cX10_check 76 = .ok (.getfield 42, 3) := by decide +kernel
theorem dX10_check_79 : decode cX10_check 79 = .ok (.getfield 403, 3) := by decide +kernel
theorem dX10_check_82 : decode cX10_check 82 = .ok (.invokevirtual 406, 3) := by decide +kernel
theorem dX10_check_85 : decode cX10_check 85 = .ok (.istore_n 3, 1) := by decide +kernel
theorem dX10_check_86 : decode cX10_check 86 = .ok (.aload_n 0, 1) := by decide +kernel
theorem dX10_check_87 : decode cX10_check 87 = .ok (.getfield 10, 3) := by decide +kernel
theorem dX10_check_90 : decode cX10_check 90 = .ok (.getfield 397, 3) := by decide +kernel
theorem dX10_check_93 : decode cX10_check 93 = .ok (.invokevirtual 189, 3) := by decide +kernel
theorem dX10_check_96 : decode cX10_check 96 = .ok (.iconst 1, 1) := by decide +kernel
theorem dX10_check_97 : decode cX10_check 97 = .ok (.iload_n 3, 1) := by decide +kernel
theorem dX10_check_98 : decode cX10_check 98 = .ok (.iadd, 1) := by decide +kernel
theorem dX10_check_99 : decode cX10_check 99 = .ok (.ireturn, 1) := by decide +kernel
theorem dX10_count_0 : decode cX10_count 0 = .ok (.iload_n 1, 1) := by decide +kernel
theorem dX10_count_1 : decode cX10_count 1 = .ok (.tableswitch 156 0 9 #[55, 66, 74, 82, 93, 104, 115, 126, 137, 148], 55) := by decide +kernel
theorem dX10_count_56 : decode cX10_count 56 = .ok (.aload_n 0, 1) := by decide +kernel
theorem dX10_count_57 : decode cX10_count 57 = .ok (.getfield 10, 3) := by decide +kernel
theorem dX10_count_60 : decode cX10_count 60 = .ok (.getfield 89, 3) := by decide +kernel
theorem dX10_count_63 : decode cX10_count 63 = .ok (.invokevirtual 96, 3) := by decide +kernel
theorem dX10_count_66 : decode cX10_count 66 = .ok (.ireturn, 1) := by decide +kernel
theorem dX10_count_67 : decode cX10_count 67 = .ok (.aload_n 0, 1) := by decide +kernel
theorem dX10_count_68 : decode cX10_count 68 = .ok (.getfield 10, 3) := by decide +kernel
theorem dX10_count_71 : decode cX10_count 71 = .ok (.invokevirtual 112, 3) := by decide +kernel
theorem dX10_count_74 : decode cX10_count 74 = .ok (.ireturn, 1) := by decide +kernel
theorem dX10_count_75 : decode cX10_count 75 = .ok (.aload_n 0, 1) := by decide +kernel
theorem dX10_count_76 : decode cX10_count 76 = .ok (.getfield 10, 3) := by decide +kernel
theorem dX10_count_79 : decode cX10_count 79 = .ok (.invokevirtual 227, 3) := by decide +kernel
theorem dX10_count_82 : decode cX10_count 82 = .ok (.ireturn, 1) := by decide +kernel
theorem dX10_count_83 : decode cX10_count 83 = .ok (.aload_n 0, 1) := by decide +kernel
theorem dX10_count_84 : decode cX10_count 84 = .ok (.getfield 10, 3) := by decide +kernel
theorem dX10_count_87 : decode cX10_count 87 = .ok (.getfield 280, 3) := by decide +kernel
theorem dX10_count_90 : decode cX10_count 90 = .ok (.invokevirtual 96, 3) := by decide +kernel
theorem dX10_count_93 : decode cX10_count 93 = .ok (.ireturn, 1) := by decide +kernel
theorem dX10_count_94 : decode cX10_count 94 = .ok (.aload_n 0, 1) := by decide +kernel
theorem dX10_count_95 : decode cX10_count 95 = .ok (.getfield 10, 3) := by decide +kernel
theorem dX10_count_98 : decode cX10_count 98 = .ok (.getfield 290, 3) := by decide +kernel
theorem dX10_count_101 : decode cX10_count 101 = .ok (.invokevirtual 96, 3) := by decide +kernel
theorem dX10_count_104 : decode cX10_count 104 = .ok (.ireturn, 1) := by decide +kernel
theorem dX10_count_105 : decode cX10_count 105 = .ok (.aload_n 0, 1) := by decide +kernel
theorem dX10_count_106 : decode cX10_count 106 = .ok (.getfield 10, 3) := by decide +kernel
theorem dX10_count_109 : decode cX10_count 109 = .ok (.getfield 347, 3) := by decide +kernel
theorem dX10_count_112 : decode cX10_count 112 = .ok (.invokevirtual 96, 3) := by decide +kernel
theorem dX10_count_115 : decode cX10_count 115 = .ok (.ireturn, 1) := by decide +kernel
theorem dX10_count_116 : decode cX10_count 116 = .ok (.aload_n 0, 1) := by decide +kernel
theorem dX10_count_117 : decode cX10_count 117 = .ok (.getfield 10, 3) := by decide +kernel
theorem dX10_count_120 : decode cX10_count 120 = .ok (.getfield 173, 3) := by decide +kernel
theorem dX10_count_123 : decode cX10_count 123 = .ok (.invokevirtual 96, 3) := by decide +kernel
theorem dX10_count_126 : decode cX10_count 126 = .ok (.ireturn, 1) := by decide +kernel
theorem dX10_count_127 : decode cX10_count 127 = .ok (.aload_n 0, 1) := by decide +kernel
theorem dX10_count_128 : decode cX10_count 128 = .ok (.getfield 10, 3) := by decide +kernel
theorem dX10_count_131 : decode cX10_count 131 = .ok (.getfield 397, 3) := by decide +kernel
theorem dX10_count_134 : decode cX10_count 134 = .ok (.invokevirtual 96, 3) := by decide +kernel
theorem dX10_count_137 : decode cX10_count 137 = .ok (.ireturn, 1) := by decide +kernel
theorem dX10_count_138 : decode cX10_count 138 = .ok (.aload_n 0, 1) := by decide +kernel
theorem dX10_count_139 : decode cX10_count 139 = .ok (.getfield 63, 3) := by decide +kernel
theorem dX10_count_142 : decode cX10_count 142 = .ok (.getfield 369, 3) := by decide +kernel
theorem dX10_count_145 : decode cX10_count 145 = .ok (.invokevirtual 96, 3) := by decide +kernel
theorem dX10_count_148 : decode cX10_count 148 = .ok (.ireturn, 1) := by decide +kernel
theorem dX10_count_149 : decode cX10_count 149 = .ok (.aload_n 0, 1) := by decide +kernel
theorem dX10_count_150 : decode cX10_count 150 = .ok (.getfield 10, 3) := by decide +kernel
theorem dX10_count_153 : decode cX10_count 153 = .ok (.getfield 356, 3) := by decide +kernel
theorem dX10_count_156 : decode cX10_count 156 = .ok (.ireturn, 1) := by decide +kernel
theorem dX10_count_157 : decode cX10_count 157 = .ok (.aload_n 0, 1) := by decide +kernel
theorem dX10_count_158 : decode cX10_count 158 = .ok (.iconst 1, 1) := by decide +kernel
theorem dX10_count_159 : decode cX10_count 159 = .ok (.invokevirtual 78, 3) := by decide +kernel
theorem dX10_count_162 : decode cX10_count 162 = .ok (.ireturn, 1) := by decide +kernel
theorem dX10_told_0 : decode cX10_told 0 = .ok (.iload_n 1, 1) := by decide +kernel
theorem dX10_told_1 : decode cX10_told 1 = .ok (.iconst 1, 1) := by decide +kernel
theorem dX10_told_2 : decode cX10_told 2 = .ok (.iconst 5, 1) := by decide +kernel
theorem dX10_told_3 : decode cX10_told 3 = .ok (.invokestatic 74, 3) := by decide +kernel
theorem dX10_told_6 : decode cX10_told 6 = .ok (.ifCond .ne 9, 3) := by decide +kernel
theorem dX10_told_9 : decode cX10_told 9 = .ok (.aload_n 0, 1) := by decide +kernel
theorem dX10_told_10 : decode cX10_told 10 = .ok (.iconst 1, 1) := by decide +kernel
theorem dX10_told_11 : decode cX10_told 11 = .ok (.invokevirtual 78, 3) := by decide +kernel
theorem dX10_told_14 : decode cX10_told 14 = .ok (.ireturn, 1) := by decide +kernel
theorem dX10_told_15 : decode cX10_told 15 = .ok (.aload_n 0, 1) := by decide +kernel
theorem dX10_told_16 : decode cX10_told 16 = .ok (.getfield 24, 3) := by decide +kernel
theorem dX10_told_19 : decode cX10_told 19 = .ok (.iload_n 1, 1) := by decide +kernel
theorem dX10_told_20 : decode cX10_told 20 = .ok (.invokevirtual 121, 3) := by decide +kernel
theorem dX10_told_23 : decode cX10_told 23 = .ok (.ireturn, 1) := by decide +kernel
theorem dX10_error_0 : decode cX10_error 0 = .ok (.aload_n 0, 1) := by decide +kernel
theorem dX10_error_1 : decode cX10_error 1 = .ok (.getfield 24, 3) := by decide +kernel
theorem dX10_error_4 : decode cX10_error 4 = .ok (.iload_n 1, 1) := by decide +kernel
theorem dX10_error_5 : decode cX10_error 5 = .ok (.iconst 1, 1) := by decide +kernel
theorem dX10_error_6 : decode cX10_error 6 = .ok (.invokevirtual 410, 3) := by decide +kernel
theorem dX10_error_9 : decode cX10_error 9 = .ok (.ldc_w 413, 3) := by decide +kernel
theorem dX10_error_12 : decode cX10_error 12 = .ok (.iload_n 1, 1) := by decide +kernel
theorem dX10_error_13 : decode cX10_error 13 = .ok (.isub, 1) := by decide +kernel
theorem dX10_error_14 : decode cX10_error 14 = .ok (.ireturn, 1) := by decide +kernel
theorem dX10_within_0 : decode cX10_within 0 = .ok (.iload_n 0, 1) := by decide +kernel
theorem dX10_within_1 : decode cX10_within 1 = .ok (.iload_n 1, 1) := by decide +kernel
theorem dX10_within_2 : decode cX10_within 2 = .ok (.if_icmp .lt 12, 3) := by decide +kernel
theorem dX10_within_5 : decode cX10_within 5 = .ok (.iload_n 0, 1) := by decide +kernel
theorem dX10_within_6 : decode cX10_within 6 = .ok (.iload_n 2, 1) := by decide +kernel
theorem dX10_within_7 : decode cX10_within 7 = .ok (.if_icmp .gt 7, 3) := by decide +kernel
theorem dX10_within_10 : decode cX10_within 10 = .ok (.iconst 1, 1) := by decide +kernel
theorem dX10_within_11 : decode cX10_within 11 = .ok (.goto 4, 3) := by decide +kernel
theorem dX10_within_14 : decode cX10_within 14 = .ok (.iconst 0, 1) := by decide +kernel
theorem dX10_within_15 : decode cX10_within 15 = .ok (.ireturn, 1) := by decide +kernel
theorem dX10_isBar_0 : decode cX10_isBar 0 = .ok (.iload_n 1, 1) := by decide +kernel
theorem dX10_isBar_1 : decode cX10_isBar 1 = .ok (.iconst 0, 1) := by decide +kernel
theorem dX10_isBar_2 : decode cX10_isBar 2 = .ok (.aload_n 0, 1) := by decide +kernel
theorem dX10_isBar_3 : decode cX10_isBar 3 = .ok (.getfield 10, 3) := by decide +kernel
theorem dX10_isBar_6 : decode cX10_isBar 6 = .ok (.getfield 89, 3) := by decide +kernel
theorem dX10_isBar_9 : decode cX10_isBar 9 = .ok (.invokevirtual 96, 3) := by decide +kernel
theorem dX10_isBar_12 : decode cX10_isBar 12 = .ok (.iconst 1, 1) := by decide +kernel
theorem dX10_isBar_13 : decode cX10_isBar 13 = .ok (.isub, 1) := by decide +kernel
theorem dX10_isBar_14 : decode cX10_isBar 14 = .ok (.invokestatic 74, 3) := by decide +kernel
theorem dX10_isBar_17 : decode cX10_isBar 17 = .ok (.ireturn, 1) := by decide +kernel
theorem dX10_isPair_0 : decode cX10_isPair 0 = .ok (.iload_n 1, 1) := by decide +kernel
theorem dX10_isPair_1 : decode cX10_isPair 1 = .ok (.ifCond .lt 40, 3) := by decide +kernel
theorem dX10_isPair_4 : decode cX10_isPair 4 = .ok (.aload_n 0, 1) := by decide +kernel
theorem dX10_isPair_5 : decode cX10_isPair 5 = .ok (.iload_n 1, 1) := by decide +kernel
theorem dX10_isPair_6 : decode cX10_isPair 6 = .ok (.bipush 10, 2) := by decide +kernel
theorem dX10_isPair_8 : decode cX10_isPair 8 = .ok (.idiv, 1) := by decide +kernel
theorem dX10_isPair_9 : decode cX10_isPair 9 = .ok (.invokevirtual 100, 3) := by decide +kernel
theorem dX10_isPair_12 : decode cX10_isPair 12 = .ok (.ifCond .eq 29, 3) := by decide +kernel
theorem dX10_isPair_15 : decode cX10_isPair 15 = .ok (.aload_n 0, 1) := by decide +kernel
theorem dX10_isPair_16 : decode cX10_isPair 16 = .ok (.iload_n 1, 1) := by decide +kernel
theorem dX10_isPair_17 : decode cX10_isPair 17 = .ok (.bipush 10, 2) := by decide +kernel
theorem dX10_isPair_19 : decode cX10_isPair 19 = .ok (.irem, 1) := by decide +kernel
theorem dX10_isPair_20 : decode cX10_isPair 20 = .ok (.invokevirtual 100, 3) := by decide +kernel
theorem dX10_isPair_23 : decode cX10_isPair 23 = .ok (.ifCond .eq 18, 3) := by decide +kernel
theorem dX10_isPair_26 : decode cX10_isPair 26 = .ok (.iload_n 1, 1) := by decide +kernel
theorem dX10_isPair_27 : decode cX10_isPair 27 = .ok (.bipush 10, 2) := by decide +kernel
theorem dX10_isPair_29 : decode cX10_isPair 29 = .ok (.idiv, 1) := by decide +kernel
theorem dX10_isPair_30 : decode cX10_isPair 30 = .ok (.iload_n 1, 1) := by decide +kernel
theorem dX10_isPair_31 : decode cX10_isPair 31 = .ok (.bipush 10, 2) := by decide +kernel
theorem dX10_isPair_33 : decode cX10_isPair 33 = .ok (.irem, 1) := by decide +kernel
theorem dX10_isPair_34 : decode cX10_isPair 34 = .ok (.if_icmp .eq 7, 3) := by decide +kernel
theorem dX10_isPair_37 : decode cX10_isPair 37 = .ok (.iconst 1, 1) := by decide +kernel
theorem dX10_isPair_38 : decode cX10_isPair 38 = .ok (.goto 4, 3) := by decide +kernel
theorem dX10_isPair_41 : decode cX10_isPair 41 = .ok (.iconst 0, 1) := by decide +kernel
theorem dX10_isPair_42 : decode cX10_isPair 42 = .ok (.ireturn, 1) := by decide +kernel
theorem dX10_isRing_0 : decode cX10_isRing 0 = .ok (.iload_n 1, 1) := by decide +kernel
theorem dX10_isRing_1 : decode cX10_isRing 1 = .ok (.iconst 0, 1) := by decide +kernel
theorem dX10_isRing_2 : decode cX10_isRing 2 = .ok (.aload_n 0, 1) := by decide +kernel
theorem dX10_isRing_3 : decode cX10_isRing 3 = .ok (.getfield 10, 3) := by decide +kernel
theorem dX10_isRing_6 : decode cX10_isRing 6 = .ok (.invokevirtual 112, 3) := by decide +kernel
theorem dX10_isRing_9 : decode cX10_isRing 9 = .ok (.iconst 1, 1) := by decide +kernel
theorem dX10_isRing_10 : decode cX10_isRing 10 = .ok (.isub, 1) := by decide +kernel
theorem dX10_isRing_11 : decode cX10_isRing 11 = .ok (.invokestatic 74, 3) := by decide +kernel
theorem dX10_isRing_14 : decode cX10_isRing 14 = .ok (.ireturn, 1) := by decide +kernel
theorem dX10_isTenth_0 : decode cX10_isTenth 0 = .ok (.iload_n 0, 1) := by decide +kernel
theorem dX10_isTenth_1 : decode cX10_isTenth 1 = .ok (.iconst 0, 1) := by decide +kernel
theorem dX10_isTenth_2 : decode cX10_isTenth 2 = .ok (.sipush 9999, 3) := by decide +kernel
theorem dX10_isTenth_5 : decode cX10_isTenth 5 = .ok (.invokestatic 74, 3) := by decide +kernel
theorem dX10_isTenth_8 : decode cX10_isTenth 8 = .ok (.ireturn, 1) := by decide +kernel
theorem dX10_isHeight_0 : decode cX10_isHeight 0 = .ok (.iload_n 0, 1) := by decide +kernel
theorem dX10_isHeight_1 : decode cX10_isHeight 1 = .ok (.iconst 1, 1) := by decide +kernel
theorem dX10_isHeight_2 : decode cX10_isHeight 2 = .ok (.sipush 999, 3) := by decide +kernel
theorem dX10_isHeight_5 : decode cX10_isHeight 5 = .ok (.invokestatic 74, 3) := by decide +kernel
theorem dX10_isHeight_8 : decode cX10_isHeight 8 = .ok (.ireturn, 1) := by decide +kernel
theorem dX10_isLine_0 : decode cX10_isLine 0 = .ok (.iload_n 0, 1) := by decide +kernel
theorem dX10_isLine_1 : decode cX10_isLine 1 = .ok (.iconst 0, 1) := by decide +kernel
theorem dX10_isLine_2 : decode cX10_isLine 2 = .ok (.sipush 999, 3) := by decide +kernel
theorem dX10_isLine_5 : decode cX10_isLine 5 = .ok (.invokestatic 74, 3) := by decide +kernel
theorem dX10_isLine_8 : decode cX10_isLine 8 = .ok (.ireturn, 1) := by decide +kernel
theorem dX10_isWindow_0 : decode cX10_isWindow 0 = .ok (.iload_n 0, 1) := by decide +kernel
theorem dX10_isWindow_1 : decode cX10_isWindow 1 = .ok (.iconst 0, 1) := by decide +kernel
theorem dX10_isWindow_2 : decode cX10_isWindow 2 = .ok (.bipush 50, 2) := by decide +kernel
theorem dX10_isWindow_4 : decode cX10_isWindow 4 = .ok (.invokestatic 74, 3) := by decide +kernel
theorem dX10_isWindow_7 : decode cX10_isWindow 7 = .ok (.ireturn, 1) := by decide +kernel
theorem dX10_isKind_0 : decode cX10_isKind 0 = .ok (.iload_n 0, 1) := by decide +kernel
theorem dX10_isKind_1 : decode cX10_isKind 1 = .ok (.iconst 0, 1) := by decide +kernel
theorem dX10_isKind_2 : decode cX10_isKind 2 = .ok (.bipush 7, 2) := by decide +kernel
theorem dX10_isKind_4 : decode cX10_isKind 4 = .ok (.invokestatic 74, 3) := by decide +kernel
theorem dX10_isKind_7 : decode cX10_isKind 7 = .ok (.ireturn, 1) := by decide +kernel
theorem dX10_isSlides_0 : decode cX10_isSlides 0 = .ok (.iload_n 0, 1) := by decide +kernel
theorem dX10_isSlides_1 : decode cX10_isSlides 1 = .ok (.iconst 1, 1) := by decide +kernel
theorem dX10_isSlides_2 : decode cX10_isSlides 2 = .ok (.bipush 40, 2) := by decide +kernel
theorem dX10_isSlides_4 : decode cX10_isSlides 4 = .ok (.invokestatic 74, 3) := by decide +kernel
theorem dX10_isSlides_7 : decode cX10_isSlides 7 = .ok (.ireturn, 1) := by decide +kernel
theorem dX10_isPart_0 : decode cX10_isPart 0 = .ok (.iload_n 0, 1) := by decide +kernel
theorem dX10_isPart_1 : decode cX10_isPart 1 = .ok (.iconst 0, 1) := by decide +kernel
theorem dX10_isPart_2 : decode cX10_isPart 2 = .ok (.iconst 1, 1) := by decide +kernel
theorem dX10_isPart_3 : decode cX10_isPart 3 = .ok (.invokestatic 74, 3) := by decide +kernel
theorem dX10_isPart_6 : decode cX10_isPart 6 = .ok (.ireturn, 1) := by decide +kernel
theorem dX10_isPeriod_0 : decode cX10_isPeriod 0 = .ok (.iload_n 0, 1) := by decide +kernel
theorem dX10_isPeriod_1 : decode cX10_isPeriod 1 = .ok (.bipush 12, 2) := by decide +kernel
theorem dX10_isPeriod_3 : decode cX10_isPeriod 3 = .ok (.sipush 999, 3) := by decide +kernel
theorem dX10_isPeriod_6 : decode cX10_isPeriod 6 = .ok (.invokestatic 74, 3) := by decide +kernel
theorem dX10_isPeriod_9 : decode cX10_isPeriod 9 = .ok (.ireturn, 1) := by decide +kernel
theorem dX10_arePeriods_0 : decode cX10_arePeriods 0 = .ok (.iload_n 0, 1) := by decide +kernel
theorem dX10_arePeriods_1 : decode cX10_arePeriods 1 = .ok (.invokestatic 309, 3) := by decide +kernel
theorem dX10_arePeriods_4 : decode cX10_arePeriods 4 = .ok (.ifCond .eq 26, 3) := by decide +kernel
theorem dX10_arePeriods_7 : decode cX10_arePeriods 7 = .ok (.iload_n 1, 1) := by decide +kernel
theorem dX10_arePeriods_8 : decode cX10_arePeriods 8 = .ok (.invokestatic 309, 3) := by decide +kernel
theorem dX10_arePeriods_11 : decode cX10_arePeriods 11 = .ok (.ifCond .eq 19, 3) := by decide +kernel
theorem dX10_arePeriods_14 : decode cX10_arePeriods 14 = .ok (.iload_n 1, 1) := by decide +kernel
theorem dX10_arePeriods_15 : decode cX10_arePeriods 15 = .ok (.iload_n 0, 1) := by decide +kernel
theorem dX10_arePeriods_16 : decode cX10_arePeriods 16 = .ok (.isub, 1) := by decide +kernel
theorem dX10_arePeriods_17 : decode cX10_arePeriods 17 = .ok (.iconst 0, 1) := by decide +kernel
theorem dX10_arePeriods_18 : decode cX10_arePeriods 18 = .ok (.bipush 39, 2) := by decide +kernel
theorem dX10_arePeriods_20 : decode cX10_arePeriods 20 = .ok (.invokestatic 74, 3) := by decide +kernel
theorem dX10_arePeriods_23 : decode cX10_arePeriods 23 = .ok (.ifCond .eq 7, 3) := by decide +kernel
theorem dX10_arePeriods_26 : decode cX10_arePeriods 26 = .ok (.iconst 1, 1) := by decide +kernel
theorem dX10_arePeriods_27 : decode cX10_arePeriods 27 = .ok (.goto 4, 3) := by decide +kernel
theorem dX10_arePeriods_30 : decode cX10_arePeriods 30 = .ok (.iconst 0, 1) := by decide +kernel
theorem dX10_arePeriods_31 : decode cX10_arePeriods 31 = .ok (.ireturn, 1) := by decide +kernel
theorem dX10_isLaw_0 : decode cX10_isLaw 0 = .ok (.iload_n 0, 1) := by decide +kernel
theorem dX10_isLaw_1 : decode cX10_isLaw 1 = .ok (.iconst 0, 1) := by decide +kernel
theorem dX10_isLaw_2 : decode cX10_isLaw 2 = .ok (.iconst 5, 1) := by decide +kernel
theorem dX10_isLaw_3 : decode cX10_isLaw 3 = .ok (.invokestatic 74, 3) := by decide +kernel
theorem dX10_isLaw_6 : decode cX10_isLaw 6 = .ok (.ireturn, 1) := by decide +kernel
theorem dX10_isYear_0 : decode cX10_isYear 0 = .ok (.iload_n 0, 1) := by decide +kernel
theorem dX10_isYear_1 : decode cX10_isYear 1 = .ok (.iconst 0, 1) := by decide +kernel
theorem dX10_isYear_2 : decode cX10_isYear 2 = .ok (.bipush 7, 2) := by decide +kernel
theorem dX10_isYear_4 : decode cX10_isYear 4 = .ok (.invokestatic 74, 3) := by decide +kernel
theorem dX10_isYear_7 : decode cX10_isYear 7 = .ok (.ireturn, 1) := by decide +kernel
theorem dX10_sheetAt_0 : decode cX10_sheetAt 0 = .ok (.iload_n 1, 1) := by decide +kernel
theorem dX10_sheetAt_1 : decode cX10_sheetAt 1 = .ok (.iconst 0, 1) := by decide +kernel
theorem dX10_sheetAt_2 : decode cX10_sheetAt 2 = .ok (.aload_n 0, 1) := by decide +kernel
theorem dX10_sheetAt_3 : decode cX10_sheetAt 3 = .ok (.getfield 34, 3) := by decide +kernel
theorem dX10_sheetAt_6 : decode cX10_sheetAt 6 = .ok (.arraylength, 1) := by decide +kernel
theorem dX10_sheetAt_7 : decode cX10_sheetAt 7 = .ok (.iconst 1, 1) := by decide +kernel
theorem dX10_sheetAt_8 : decode cX10_sheetAt 8 = .ok (.isub, 1) := by decide +kernel
theorem dX10_sheetAt_9 : decode cX10_sheetAt 9 = .ok (.invokestatic 74, 3) := by decide +kernel
theorem dX10_sheetAt_12 : decode cX10_sheetAt 12 = .ok (.ifCond .eq 12, 3) := by decide +kernel
theorem dX10_sheetAt_15 : decode cX10_sheetAt 15 = .ok (.aload_n 0, 1) := by decide +kernel
theorem dX10_sheetAt_16 : decode cX10_sheetAt 16 = .ok (.getfield 34, 3) := by decide +kernel
theorem dX10_sheetAt_19 : decode cX10_sheetAt 19 = .ok (.iload_n 1, 1) := by decide +kernel
theorem dX10_sheetAt_20 : decode cX10_sheetAt 20 = .ok (.aaload, 1) := by decide +kernel
theorem dX10_sheetAt_21 : decode cX10_sheetAt 21 = .ok (.goto 4, 3) := by decide +kernel
theorem dX10_sheetAt_24 : decode cX10_sheetAt 24 = .ok (.aconst_null, 1) := by decide +kernel
theorem dX10_sheetAt_25 : decode cX10_sheetAt 25 = .ok (.areturn, 1) := by decide +kernel
theorem dX10_inLowestTerms_0 : decode cX10_inLowestTerms 0 = .ok (.lload_n 0, 1) := by decide +kernel
theorem dX10_inLowestTerms_1 : decode cX10_inLowestTerms 1 = .ok (.lconst 0, 1) := by decide +kernel
theorem dX10_inLowestTerms_2 : decode cX10_inLowestTerms 2 = .ok (.lcmp, 1) := by decide +kernel
theorem dX10_inLowestTerms_3 : decode cX10_inLowestTerms 3 = .ok (.ifCond .ne 7, 3) := by decide +kernel
theorem dX10_inLowestTerms_6 : decode cX10_inLowestTerms 6 = .ok (.lconst 0, 1) := by decide +kernel
theorem dX10_inLowestTerms_7 : decode cX10_inLowestTerms 7 = .ok (.goto 8, 3) := by decide +kernel
theorem dX10_inLowestTerms_10 : decode cX10_inLowestTerms 10 = .ok (.lload_n 0, 1) := by decide +kernel
theorem dX10_inLowestTerms_11 : decode cX10_inLowestTerms 11 = .ok (.lload_n 2, 1) := by decide +kernel
theorem dX10_inLowestTerms_12 : decode cX10_inLowestTerms 12 = .ok (.invokestatic 414, 3) := by decide +kernel
theorem dX10_inLowestTerms_15 : decode cX10_inLowestTerms 15 = .ok (.lstore 5, 2) := by decide +kernel
theorem dX10_inLowestTerms_17 : decode cX10_inLowestTerms 17 = .ok (.lload 5, 2) := by decide +kernel
theorem dX10_inLowestTerms_19 : decode cX10_inLowestTerms 19 = .ok (.lconst 0, 1) := by decide +kernel
theorem dX10_inLowestTerms_20 : decode cX10_inLowestTerms 20 = .ok (.lcmp, 1) := by decide +kernel
theorem dX10_inLowestTerms_21 : decode cX10_inLowestTerms 21 = .ok (.ifCond .ne 14, 3) := by decide +kernel
theorem dX10_inLowestTerms_24 : decode cX10_inLowestTerms 24 = .ok (.iload 4, 2) := by decide +kernel
theorem dX10_inLowestTerms_26 : decode cX10_inLowestTerms 26 = .ok (.ifCond .ne 7, 3) := by decide +kernel
theorem dX10_inLowestTerms_29 : decode cX10_inLowestTerms 29 = .ok (.lconst 0, 1) := by decide +kernel
theorem dX10_inLowestTerms_30 : decode cX10_inLowestTerms 30 = .ok (.goto 4, 3) := by decide +kernel
theorem dX10_inLowestTerms_33 : decode cX10_inLowestTerms 33 = .ok (.lconst 1, 1) := by decide +kernel
theorem dX10_inLowestTerms_34 : decode cX10_inLowestTerms 34 = .ok (.lreturn, 1) := by decide +kernel
theorem dX10_inLowestTerms_35 : decode cX10_inLowestTerms 35 = .ok (.iload 4, 2) := by decide +kernel
theorem dX10_inLowestTerms_37 : decode cX10_inLowestTerms 37 = .ok (.ifCond .ne 7, 3) := by decide +kernel
theorem dX10_inLowestTerms_40 : decode cX10_inLowestTerms 40 = .ok (.lload_n 0, 1) := by decide +kernel
theorem dX10_inLowestTerms_41 : decode cX10_inLowestTerms 41 = .ok (.goto 4, 3) := by decide +kernel
theorem dX10_inLowestTerms_44 : decode cX10_inLowestTerms 44 = .ok (.lload_n 2, 1) := by decide +kernel
theorem dX10_inLowestTerms_45 : decode cX10_inLowestTerms 45 = .ok (.lload 5, 2) := by decide +kernel
theorem dX10_inLowestTerms_47 : decode cX10_inLowestTerms 47 = .ok (.ldiv, 1) := by decide +kernel
theorem dX10_inLowestTerms_48 : decode cX10_inLowestTerms 48 = .ok (.lreturn, 1) := by decide +kernel
theorem dX10_greatestShared_0 : decode cX10_greatestShared 0 = .ok (.lload_n 0, 1) := by decide +kernel
theorem dX10_greatestShared_1 : decode cX10_greatestShared 1 = .ok (.lstore 4, 2) := by decide +kernel
theorem dX10_greatestShared_3 : decode cX10_greatestShared 3 = .ok (.lload_n 2, 1) := by decide +kernel
theorem dX10_greatestShared_4 : decode cX10_greatestShared 4 = .ok (.lstore 6, 2) := by decide +kernel
theorem dX10_greatestShared_6 : decode cX10_greatestShared 6 = .ok (.iconst 0, 1) := by decide +kernel
theorem dX10_greatestShared_7 : decode cX10_greatestShared 7 = .ok (.istore 8, 2) := by decide +kernel
theorem dX10_greatestShared_9 : decode cX10_greatestShared 9 = .ok (.iload 8, 2) := by decide +kernel
theorem dX10_greatestShared_11 : decode cX10_greatestShared 11 = .ok (.sipush 200, 3) := by decide +kernel
theorem dX10_greatestShared_14 : decode cX10_greatestShared 14 = .ok (.if_icmp .ge 31, 3) := by decide +kernel
theorem dX10_greatestShared_17 : decode cX10_greatestShared 17 = .ok (.lload 6, 2) := by decide +kernel
theorem dX10_greatestShared_19 : decode cX10_greatestShared 19 = .ok (.lconst 0, 1) := by decide +kernel
theorem dX10_greatestShared_20 : decode cX10_greatestShared 20 = .ok (.lcmp, 1) := by decide +kernel
theorem dX10_greatestShared_21 : decode cX10_greatestShared 21 = .ok (.ifCond .eq 24, 3) := by decide +kernel
theorem dX10_greatestShared_24 : decode cX10_greatestShared 24 = .ok (.lload 4, 2) := by decide +kernel
theorem dX10_greatestShared_26 : decode cX10_greatestShared 26 = .ok (.lload 6, 2) := by decide +kernel
theorem dX10_greatestShared_28 : decode cX10_greatestShared 28 = .ok (.lrem, 1) := by decide +kernel
theorem dX10_greatestShared_29 : decode cX10_greatestShared 29 = .ok (.lstore 9, 2) := by decide +kernel
theorem dX10_greatestShared_31 : decode cX10_greatestShared 31 = .ok (.lload 6, 2) := by decide +kernel
theorem dX10_greatestShared_33 : decode cX10_greatestShared 33 = .ok (.lstore 4, 2) := by decide +kernel
theorem dX10_greatestShared_35 : decode cX10_greatestShared 35 = .ok (.lload 9, 2) := by decide +kernel
theorem dX10_greatestShared_37 : decode cX10_greatestShared 37 = .ok (.lstore 6, 2) := by decide +kernel
theorem dX10_greatestShared_39 : decode cX10_greatestShared 39 = .ok (.iinc 8 1, 3) := by decide +kernel
theorem dX10_greatestShared_42 : decode cX10_greatestShared 42 = .ok (.goto (-33), 3) := by decide +kernel
theorem dX10_greatestShared_45 : decode cX10_greatestShared 45 = .ok (.lload 4, 2) := by decide +kernel
theorem dX10_greatestShared_47 : decode cX10_greatestShared 47 = .ok (.lreturn, 1) := by decide +kernel
theorem dX11_init_0 : decode cX11_init 0 = .ok (.aload_n 0, 1) := by decide +kernel
theorem dX11_init_1 : decode cX11_init 1 = .ok (.invokespecial 3, 3) := by decide +kernel
theorem dX11_init_4 : decode cX11_init 4 = .ok (.aload_n 0, 1) := by decide +kernel
theorem dX11_init_5 : decode cX11_init 5 = .ok (.sipush 950, 3) := by decide +kernel
theorem dX11_init_8 : decode cX11_init 8 = .ok (.newarray .int, 2) := by decide +kernel
theorem dX11_init_10 : decode cX11_init 10 = .ok (.putfield 9, 3) := by decide +kernel
theorem dX11_init_13 : decode cX11_init 13 = .ok (.aload_n 0, 1) := by decide +kernel
theorem dX11_init_14 : decode cX11_init 14 = .ok (.sipush 950, 3) := by decide +kernel
theorem dX11_init_17 : decode cX11_init 17 = .ok (.newarray .int, 2) := by decide +kernel
theorem dX11_init_19 : decode cX11_init 19 = .ok (.putfield 13, 3) := by decide +kernel
theorem dX11_init_22 : decode cX11_init 22 = .ok (.aload_n 0, 1) := by decide +kernel
theorem dX11_init_23 : decode cX11_init 23 = .ok (.bipush 6, 2) := by decide +kernel
theorem dX11_init_25 : decode cX11_init 25 = .ok (.newarray .int, 2) := by decide +kernel
theorem dX11_init_27 : decode cX11_init 27 = .ok (.putfield 16, 3) := by decide +kernel
theorem dX11_init_30 : decode cX11_init 30 = .ok (.aload_n 0, 1) := by decide +kernel
theorem dX11_init_31 : decode cX11_init 31 = .ok (.bipush 96, 2) := by decide +kernel
theorem dX11_init_33 : decode cX11_init 33 = .ok (.newarray .int, 2) := by decide +kernel
theorem dX11_init_35 : decode cX11_init 35 = .ok (.putfield 19, 3) := by decide +kernel
theorem dX11_init_38 : decode cX11_init 38 = .ok (.aload_n 0, 1) := by decide +kernel
theorem dX11_init_39 : decode cX11_init 39 = .ok (.bipush 96, 2) := by decide +kernel
theorem dX11_init_41 : decode cX11_init 41 = .ok (.newarray .boolean, 2) := by decide +kernel
theorem dX11_init_43 : decode cX11_init 43 = .ok (.putfield 22, 3) := by decide +kernel
theorem dX11_init_46 : decode cX11_init 46 = .ok (.aload_n 0, 1) := by decide +kernel
theorem dX11_init_47 : decode cX11_init 47 = .ok (.iconst 4, 1) := by decide +kernel
theorem dX11_init_48 : decode cX11_init 48 = .ok (.newarray .int, 2) := by decide +kernel
theorem dX11_init_50 : decode cX11_init 50 = .ok (.putfield 26, 3) := by decide +kernel
theorem dX11_init_53 : decode cX11_init 53 = .ok (.aload_n 0, 1) := by decide +kernel
theorem dX11_init_54 : decode cX11_init 54 = .ok (.iconst 4, 1) := by decide +kernel
theorem dX11_init_55 : decode cX11_init 55 = .ok (.newarray .int, 2) := by decide +kernel
theorem dX11_init_57 : decode cX11_init 57 = .ok (.putfield 29, 3) := by decide +kernel
theorem dX11_init_60 : decode cX11_init 60 = .ok (.aload_n 0, 1) := by decide +kernel
theorem dX11_init_61 : decode cX11_init 61 = .ok (.sipush 160, 3) := by decide +kernel
theorem dX11_init_64 : decode cX11_init 64 = .ok (.newarray .int, 2) := by decide +kernel
theorem dX11_init_66 : decode cX11_init 66 = .ok (.putfield 32, 3) := by decide +kernel
theorem dX11_init_69 : decode cX11_init 69 = .ok (.aload_n 0, 1) := by decide +kernel
theorem dX11_init_70 : decode cX11_init 70 = .ok (.bipush 50, 2) := by decide +kernel
theorem dX11_init_72 : decode cX11_init 72 = .ok (.newarray .int, 2) := by decide +kernel
theorem dX11_init_74 : decode cX11_init 74 = .ok (.putfield 35, 3) := by decide +kernel
theorem dX11_init_77 : decode cX11_init 77 = .ok (.aload_n 0, 1) := by decide +kernel
theorem dX11_init_78 : decode cX11_init 78 = .ok (.iconst 4, 1) := by decide +kernel
theorem dX11_init_79 : decode cX11_init 79 = .ok (.newarray .int, 2) := by decide +kernel
theorem dX11_init_81 : decode cX11_init 81 = .ok (.putfield 38, 3) := by decide +kernel
theorem dX11_init_84 : decode cX11_init 84 = .ok (.aload_n 0, 1) := by decide +kernel
theorem dX11_init_85 : decode cX11_init 85 = .ok (.bipush 50, 2) := by decide +kernel
theorem dX11_init_87 : decode cX11_init 87 = .ok (.newarray .int, 2) := by decide +kernel
theorem dX11_init_89 : decode cX11_init 89 = .ok (.putfield 41, 3) := by decide +kernel
theorem dX11_init_92 : decode cX11_init 92 = .ok (.aload_n 0, 1) := by decide +kernel
theorem dX11_init_93 : decode cX11_init 93 = .ok (.bipush 41, 2) := by decide +kernel
theorem dX11_init_95 : decode cX11_init 95 = .ok (.newarray .int, 2) := by decide +kernel
theorem dX11_init_97 : decode cX11_init 97 = .ok (.putfield 44, 3) := by decide +kernel
theorem dX11_init_100 : decode cX11_init 100 = .ok (.aload_n 0, 1) := by decide +kernel
theorem dX11_init_101 : decode cX11_init 101 = .ok (.sipush 246, 3) := by decide +kernel
theorem dX11_init_104 : decode cX11_init 104 = .ok (.newarray .int, 2) := by decide +kernel
theorem dX11_init_106 : decode cX11_init 106 = .ok (.putfield 47, 3) := by decide +kernel
theorem dX11_init_109 : decode cX11_init 109 = .ok (.aload_n 0, 1) := by decide +kernel
theorem dX11_init_110 : decode cX11_init 110 = .ok (.bipush 12, 2) := by decide +kernel
theorem dX11_init_112 : decode cX11_init 112 = .ok (.newarray .int, 2) := by decide +kernel
theorem dX11_init_114 : decode cX11_init 114 = .ok (.putfield 50, 3) := by decide +kernel
theorem dX11_init_117 : decode cX11_init 117 = .ok (.aload_n 0, 1) := by decide +kernel
theorem dX11_init_118 : decode cX11_init 118 = .ok (.bipush 40, 2) := by decide +kernel
theorem dX11_init_120 : decode cX11_init 120 = .ok (.newarray .int, 2) := by decide +kernel
theorem dX11_init_122 : decode cX11_init 122 = .ok (.putfield 53, 3) := by decide +kernel
theorem dX11_init_125 : decode cX11_init 125 = .ok (.aload_n 0, 1) := by decide +kernel
theorem dX11_init_126 : decode cX11_init 126 = .ok (.getfield 9, 3) := by decide +kernel
theorem dX11_init_129 : decode cX11_init 129 = .ok (.bipush 8, 2) := by decide +kernel
theorem dX11_init_131 : decode cX11_init 131 = .ok (.iconst 1, 1) := by decide +kernel
theorem dX11_init_132 : decode cX11_init 132 = .ok (.iastore, 1) := by decide +kernel
theorem dX11_init_133 : decode cX11_init 133 = .ok (.iconst 0, 1) := by decide +kernel
theorem dX11_init_134 : decode cX11_init 134 = .ok (.istore_n 1, 1) := by decide +kernel
theorem dX11_init_135 : decode cX11_init 135 = .ok (.iload_n 1, 1) := by decide +kernel
theorem dX11_init_136 : decode cX11_init 136 = .ok (.bipush 6, 2) := by decide +kernel
theorem dX11_init_138 : decode cX11_init 138 = .ok (.if_icmp .ge 20, 3) := by decide +kernel
theorem dX11_init_141 : decode cX11_init 141 = .ok (.aload_n 0, 1) := by decide +kernel
theorem dX11_init_142 : decode cX11_init 142 = .ok (.getfield 9, 3) := by decide +kernel
theorem dX11_init_145 : decode cX11_init 145 = .ok (.sipush 398, 3) := by decide +kernel
theorem dX11_init_148 : decode cX11_init 148 = .ok (.iload_n 1, 1) := by decide +kernel
theorem dX11_init_149 : decode cX11_init 149 = .ok (.iadd, 1) := by decide +kernel
theorem dX11_init_150 : decode cX11_init 150 = .ok (.iconst 1, 1) := by decide +kernel
theorem dX11_init_151 : decode cX11_init 151 = .ok (.iastore, 1) := by decide +kernel
theorem dX11_init_152 : decode cX11_init 152 = .ok (.iinc 1 1, 3) := by decide +kernel
theorem dX11_init_155 : decode cX11_init 155 = .ok (.goto (-20), 3) := by decide +kernel
theorem dX11_init_158 : decode cX11_init 158 = .ok (.return_, 1) := by decide +kernel
theorem dX11_error_0 : decode cX11_error 0 = .ok (.aload_n 0, 1) := by decide +kernel
theorem dX11_error_1 : decode cX11_error 1 = .ok (.getfield 16, 3) := by decide +kernel
theorem dX11_error_4 : decode cX11_error 4 = .ok (.iload_n 1, 1) := by decide +kernel
theorem dX11_error_5 : decode cX11_error 5 = .ok (.dup2, 1) := by decide +kernel
theorem dX11_error_6 : decode cX11_error 6 = .ok (.iaload, 1) := by decide +kernel
theorem dX11_error_7 : decode cX11_error 7 = .ok (.iconst 1, 1) := by decide +kernel
theorem dX11_error_8 : decode cX11_error 8 = .ok (.iadd, 1) := by decide +kernel
theorem dX11_error_9 : decode cX11_error 9 = .ok (.iastore, 1) := by decide +kernel
theorem dX11_error_10 : decode cX11_error 10 = .ok (.ldc 56, 2) := by decide +kernel
theorem dX11_error_12 : decode cX11_error 12 = .ok (.iload_n 1, 1) := by decide +kernel
theorem dX11_error_13 : decode cX11_error 13 = .ok (.isub, 1) := by decide +kernel
theorem dX11_error_14 : decode cX11_error 14 = .ok (.ireturn, 1) := by decide +kernel
theorem dX11_in_0 : decode cX11_in 0 = .ok (.lload_n 0, 1) := by decide +kernel
theorem dX11_in_1 : decode cX11_in 1 = .ok (.lload_n 2, 1) := by decide +kernel
theorem dX11_in_2 : decode cX11_in 2 = .ok (.lcmp, 1) := by decide +kernel
theorem dX11_in_3 : decode cX11_in 3 = .ok (.ifCond .lt 14, 3) := by decide +kernel
theorem dX11_in_6 : decode cX11_in 6 = .ok (.lload_n 0, 1) := by decide +kernel
theorem dX11_in_7 : decode cX11_in 7 = .ok (.lload 4, 2) := by decide +kernel
theorem dX11_in_9 : decode cX11_in 9 = .ok (.lcmp, 1) := by decide +kernel
theorem dX11_in_10 : decode cX11_in 10 = .ok (.ifCond .gt 7, 3) := by decide +kernel
theorem dX11_in_13 : decode cX11_in 13 = .ok (.iconst 1, 1) := by decide +kernel
theorem dX11_in_14 : decode cX11_in 14 = .ok (.goto 4, 3) := by decide +kernel
theorem dX11_in_17 : decode cX11_in 17 = .ok (.iconst 0, 1) := by decide +kernel
theorem dX11_in_18 : decode cX11_in 18 = .ok (.ireturn, 1) := by decide +kernel
theorem dX11_rest_0 : decode cX11_rest 0 = .ok (.iload_n 0, 1) := by decide +kernel
theorem dX11_rest_1 : decode cX11_rest 1 = .ok (.iload_n 1, 1) := by decide +kernel
theorem dX11_rest_2 : decode cX11_rest 2 = .ok (.irem, 1) := by decide +kernel
theorem dX11_rest_3 : decode cX11_rest 3 = .ok (.istore_n 2, 1) := by decide +kernel
theorem dX11_rest_4 : decode cX11_rest 4 = .ok (.iload_n 2, 1) := by decide +kernel
theorem dX11_rest_5 : decode cX11_rest 5 = .ok (.ifCond .ge 9, 3) := by decide +kernel
theorem dX11_rest_8 : decode cX11_rest 8 = .ok (.iload_n 2, 1) := by decide +kernel
theorem dX11_rest_9 : decode cX11_rest 9 = .ok (.iload_n 1, 1) := by decide +kernel
theorem dX11_rest_10 : decode cX11_rest 10 = .ok (.iadd, 1) := by decide +kernel
theorem dX11_rest_11 : decode cX11_rest 11 = .ok (.goto 4, 3) := by decide +kernel
theorem dX11_rest_14 : decode cX11_rest 14 = .ok (.iload_n 2, 1) := by decide +kernel
theorem dX11_rest_15 : decode cX11_rest 15 = .ok (.ireturn, 1) := by decide +kernel
theorem dX11_size_0 : decode cX11_size 0 = .ok (.iload_n 0, 1) := by decide +kernel
theorem dX11_size_1 : decode cX11_size 1 = .ok (.ifCond .ge 8, 3) := by decide +kernel
theorem dX11_size_4 : decode cX11_size 4 = .ok (.iload_n 0, 1) := by decide +kernel
theorem dX11_size_5 : decode cX11_size 5 = .ok (.ineg, 1) := by decide +kernel
theorem dX11_size_6 : decode cX11_size 6 = .ok (.goto 4, 3) := by decide +kernel
theorem dX11_size_9 : decode cX11_size 9 = .ok (.iload_n 0, 1) := by decide +kernel
theorem dX11_size_10 : decode cX11_size 10 = .ok (.ireturn, 1) := by decide +kernel
theorem dX11_isBar_0 : decode cX11_isBar 0 = .ok (.iload_n 1, 1) := by decide +kernel
theorem dX11_isBar_1 : decode cX11_isBar 1 = .ok (.i2l, 1) := by decide +kernel
theorem dX11_isBar_2 : decode cX11_isBar 2 = .ok (.lconst 0, 1) := by decide +kernel
theorem dX11_isBar_3 : decode cX11_isBar 3 = .ok (.aload_n 0, 1) := by decide +kernel
theorem dX11_isBar_4 : decode cX11_isBar 4 = .ok (.getfield 9, 3) := by decide +kernel
theorem dX11_isBar_7 : decode cX11_isBar 7 = .ok (.iconst 0, 1) := by decide +kernel
theorem dX11_isBar_8 : decode cX11_isBar 8 = .ok (.iaload, 1) := by decide +kernel
theorem dX11_isBar_9 : decode cX11_isBar 9 = .ok (.iconst 1, 1) := by decide +kernel
theorem dX11_isBar_10 : decode cX11_isBar 10 = .ok (.isub, 1) := by decide +kernel
theorem dX11_isBar_11 : decode cX11_isBar 11 = .ok (.i2l, 1) := by decide +kernel
theorem dX11_isBar_12 : decode cX11_isBar 12 = .ok (.invokestatic 57, 3) := by decide +kernel
theorem dX11_isBar_15 : decode cX11_isBar 15 = .ok (.ireturn, 1) := by decide +kernel
theorem dX11_isRing_0 : decode cX11_isRing 0 = .ok (.iload_n 1, 1) := by decide +kernel
theorem dX11_isRing_1 : decode cX11_isRing 1 = .ok (.i2l, 1) := by decide +kernel
theorem dX11_isRing_2 : decode cX11_isRing 2 = .ok (.lconst 0, 1) := by decide +kernel
theorem dX11_isRing_3 : decode cX11_isRing 3 = .ok (.aload_n 0, 1) := by decide +kernel
theorem dX11_isRing_4 : decode cX11_isRing 4 = .ok (.getfield 9, 3) := by decide +kernel
theorem dX11_isRing_7 : decode cX11_isRing 7 = .ok (.iconst 1, 1) := by decide +kernel
theorem dX11_isRing_8 : decode cX11_isRing 8 = .ok (.iaload, 1) := by decide +kernel
theorem dX11_isRing_9 : decode cX11_isRing 9 = .ok (.iconst 1, 1) := by decide +kernel
theorem dX11_isRing_10 : decode cX11_isRing 10 = .ok (.isub, 1) := by decide +kernel
theorem dX11_isRing_11 : decode cX11_isRing 11 = .ok (.i2l, 1) := by decide +kernel
theorem dX11_isRing_12 : decode cX11_isRing 12 = .ok (.invokestatic 57, 3) := by decide +kernel
theorem dX11_isRing_15 : decode cX11_isRing 15 = .ok (.ireturn, 1) := by decide +kernel
theorem dX11_isCounting_0 : decode cX11_isCounting 0 = .ok (.iload_n 1, 1) := by decide +kernel
theorem dX11_isCounting_1 : decode cX11_isCounting 1 = .ok (.i2l, 1) := by decide +kernel
theorem dX11_isCounting_2 : decode cX11_isCounting 2 = .ok (.lconst 0, 1) := by decide +kernel
theorem dX11_isCounting_3 : decode cX11_isCounting 3 = .ok (.aload_n 0, 1) := by decide +kernel
theorem dX11_isCounting_4 : decode cX11_isCounting 4 = .ok (.getfield 9, 3) := by decide +kernel
theorem dX11_isCounting_7 : decode cX11_isCounting 7 = .ok (.iconst 2, 1) := by decide +kernel
theorem dX11_isCounting_8 : decode cX11_isCounting 8 = .ok (.iaload, 1) := by decide +kernel
theorem dX11_isCounting_9 : decode cX11_isCounting 9 = .ok (.iconst 1, 1) := by decide +kernel
theorem dX11_isCounting_10 : decode cX11_isCounting 10 = .ok (.isub, 1) := by decide +kernel
theorem dX11_isCounting_11 : decode cX11_isCounting 11 = .ok (.i2l, 1) := by decide +kernel
theorem dX11_isCounting_12 : decode cX11_isCounting 12 = .ok (.invokestatic 57, 3) := by decide +kernel
theorem dX11_isCounting_15 : decode cX11_isCounting 15 = .ok (.ireturn, 1) := by decide +kernel
theorem dX11_isLine_0 : decode cX11_isLine 0 = .ok (.iload_n 0, 1) := by decide +kernel
theorem dX11_isLine_1 : decode cX11_isLine 1 = .ok (.i2l, 1) := by decide +kernel
theorem dX11_isLine_2 : decode cX11_isLine 2 = .ok (.lconst 0, 1) := by decide +kernel
theorem dX11_isLine_3 : decode cX11_isLine 3 = .ok (.ldc2_w 61, 3) := by decide +kernel
theorem dX11_isLine_6 : decode cX11_isLine 6 = .ok (.invokestatic 57, 3) := by decide +kernel
theorem dX11_isLine_9 : decode cX11_isLine 9 = .ok (.ireturn, 1) := by decide +kernel
theorem dX11_isWindow_0 : decode cX11_isWindow 0 = .ok (.iload_n 0, 1) := by decide +kernel
theorem dX11_isWindow_1 : decode cX11_isWindow 1 = .ok (.i2l, 1) := by decide +kernel
theorem dX11_isWindow_2 : decode cX11_isWindow 2 = .ok (.lconst 0, 1) := by decide +kernel
theorem dX11_isWindow_3 : decode cX11_isWindow 3 = .ok (.ldc2_w 63, 3) := by decide +kernel
theorem dX11_isWindow_6 : decode cX11_isWindow 6 = .ok (.invokestatic 57, 3) := by decide +kernel
theorem dX11_isWindow_9 : decode cX11_isWindow 9 = .ok (.ireturn, 1) := by decide +kernel
theorem dX11_isPair_0 : decode cX11_isPair 0 = .ok (.iload_n 1, 1) := by decide +kernel
theorem dX11_isPair_1 : decode cX11_isPair 1 = .ok (.ifCond .lt 40, 3) := by decide +kernel
theorem dX11_isPair_4 : decode cX11_isPair 4 = .ok (.aload_n 0, 1) := by decide +kernel
theorem dX11_isPair_5 : decode cX11_isPair 5 = .ok (.iload_n 1, 1) := by decide +kernel
theorem dX11_isPair_6 : decode cX11_isPair 6 = .ok (.bipush 10, 2) := by decide +kernel
theorem dX11_isPair_8 : decode cX11_isPair 8 = .ok (.idiv, 1) := by decide +kernel
theorem dX11_isPair_9 : decode cX11_isPair 9 = .ok (.invokevirtual 65, 3) := by decide +kernel
theorem dX11_isPair_12 : decode cX11_isPair 12 = .ok (.ifCond .eq 29, 3) := by decide +kernel
theorem dX11_isPair_15 : decode cX11_isPair 15 = .ok (.aload_n 0, 1) := by decide +kernel
theorem dX11_isPair_16 : decode cX11_isPair 16 = .ok (.iload_n 1, 1) := by decide +kernel
theorem dX11_isPair_17 : decode cX11_isPair 17 = .ok (.bipush 10, 2) := by decide +kernel
theorem dX11_isPair_19 : decode cX11_isPair 19 = .ok (.irem, 1) := by decide +kernel
theorem dX11_isPair_20 : decode cX11_isPair 20 = .ok (.invokevirtual 65, 3) := by decide +kernel
theorem dX11_isPair_23 : decode cX11_isPair 23 = .ok (.ifCond .eq 18, 3) := by decide +kernel
theorem dX11_isPair_26 : decode cX11_isPair 26 = .ok (.iload_n 1, 1) := by decide +kernel
theorem dX11_isPair_27 : decode cX11_isPair 27 = .ok (.bipush 10, 2) := by decide +kernel
theorem dX11_isPair_29 : decode cX11_isPair 29 = .ok (.idiv, 1) := by decide +kernel
theorem dX11_isPair_30 : decode cX11_isPair 30 = .ok (.iload_n 1, 1) := by decide +kernel
theorem dX11_isPair_31 : decode cX11_isPair 31 = .ok (.bipush 10, 2) := by decide +kernel
theorem dX11_isPair_33 : decode cX11_isPair 33 = .ok (.irem, 1) := by decide +kernel
theorem dX11_isPair_34 : decode cX11_isPair 34 = .ok (.if_icmp .eq 7, 3) := by decide +kernel
theorem dX11_isPair_37 : decode cX11_isPair 37 = .ok (.iconst 1, 1) := by decide +kernel
theorem dX11_isPair_38 : decode cX11_isPair 38 = .ok (.goto 4, 3) := by decide +kernel
theorem dX11_isPair_41 : decode cX11_isPair 41 = .ok (.iconst 0, 1) := by decide +kernel
theorem dX11_isPair_42 : decode cX11_isPair 42 = .ok (.ireturn, 1) := by decide +kernel
theorem dX11_ring_0 : decode cX11_ring 0 = .ok (.aload_n 0, 1) := by decide +kernel
theorem dX11_ring_1 : decode cX11_ring 1 = .ok (.getfield 9, 3) := by decide +kernel
theorem dX11_ring_4 : decode cX11_ring 4 = .ok (.bipush 18, 2) := by decide +kernel
theorem dX11_ring_6 : decode cX11_ring 6 = .ok (.iconst 3, 1) := by decide +kernel
theorem dX11_ring_7 : decode cX11_ring 7 = .ok (.iload_n 1, 1) := by decide +kernel
theorem dX11_ring_8 : decode cX11_ring 8 = .ok (.imul, 1) := by decide +kernel
theorem dX11_ring_9 : decode cX11_ring 9 = .ok (.iadd, 1) := by decide +kernel
theorem dX11_ring_10 : decode cX11_ring 10 = .ok (.iload_n 2, 1) := by decide +kernel
theorem dX11_ring_11 : decode cX11_ring 11 = .ok (.iadd, 1) := by decide +kernel
theorem dX11_ring_12 : decode cX11_ring 12 = .ok (.iaload, 1) := by decide +kernel
theorem dX11_ring_13 : decode cX11_ring 13 = .ok (.ireturn, 1) := by decide +kernel
theorem dX11_clockOf_0 : decode cX11_clockOf 0 = .ok (.aload_n 0, 1) := by decide +kernel
theorem dX11_clockOf_1 : decode cX11_clockOf 1 = .ok (.getfield 9, 3) := by decide +kernel
theorem dX11_clockOf_4 : decode cX11_clockOf 4 = .ok (.bipush 9, 2) := by decide +kernel
theorem dX11_clockOf_6 : decode cX11_clockOf 6 = .ok (.aload_n 0, 1) := by decide +kernel
theorem dX11_clockOf_7 : decode cX11_clockOf 7 = .ok (.getfield 9, 3) := by decide +kernel
theorem dX11_clockOf_10 : decode cX11_clockOf 10 = .ok (.bipush 12, 2) := by decide +kernel
theorem dX11_clockOf_12 : decode cX11_clockOf 12 = .ok (.iload_n 1, 1) := by decide +kernel
theorem dX11_clockOf_13 : decode cX11_clockOf 13 = .ok (.iadd, 1) := by decide +kernel
theorem dX11_clockOf_14 : decode cX11_clockOf 14 = .ok (.iaload, 1) := by decide +kernel
theorem dX11_clockOf_15 : decode cX11_clockOf 15 = .ok (.iadd, 1) := by decide +kernel
theorem dX11_clockOf_16 : decode cX11_clockOf 16 = .ok (.iaload, 1) := by decide +kernel
theorem dX11_clockOf_17 : decode cX11_clockOf 17 = .ok (.ireturn, 1) := by decide +kernel
theorem dX11_clock_0 : decode cX11_clock 0 = .ok (.iload_n 1, 1) := by decide +kernel
theorem dX11_clock_1 : decode cX11_clock 1 = .ok (.i2l, 1) := by decide +kernel
theorem dX11_clock_2 : decode cX11_clock 2 = .ok (.lconst 0, 1) := by decide +kernel
theorem dX11_clock_3 : decode cX11_clock 3 = .ok (.ldc2_w 69, 3) := by decide +kernel
theorem dX11_clock_6 : decode cX11_clock 6 = .ok (.invokestatic 57, 3) := by decide +kernel
theorem dX11_clock_9 : decode cX11_clock 9 = .ok (.ifCond .eq 17, 3) := by decide +kernel
theorem dX11_clock_12 : decode cX11_clock 12 = .ok (.iload_n 2, 1) := by decide +kernel
theorem dX11_clock_13 : decode cX11_clock 13 = .ok (.i2l, 1) := by decide +kernel
theorem dX11_clock_14 : decode cX11_clock 14 = .ok (.ldc2_w 71, 3) := by decide +kernel
theorem dX11_clock_17 : decode cX11_clock 17 = .ok (.ldc2_w 61, 3) := by decide +kernel
theorem dX11_clock_20 : decode cX11_clock 20 = .ok (.invokestatic 57, 3) := by decide +kernel
theorem dX11_clock_23 : decode cX11_clock 23 = .ok (.ifCond .ne 9, 3) := by decide +kernel
theorem dX11_clock_26 : decode cX11_clock 26 = .ok (.aload_n 0, 1) := by decide +kernel
theorem dX11_clock_27 : decode cX11_clock 27 = .ok (.iconst 1, 1) := by decide +kernel
theorem dX11_clock_28 : decode cX11_clock 28 = .ok (.invokevirtual 73, 3) := by decide +kernel
theorem dX11_clock_31 : decode cX11_clock 31 = .ok (.ireturn, 1) := by decide +kernel
theorem dX11_clock_32 : decode cX11_clock 32 = .ok (.aload_n 0, 1) := by decide +kernel
theorem dX11_clock_33 : decode cX11_clock 33 = .ok (.getfield 9, 3) := by decide +kernel
theorem dX11_clock_36 : decode cX11_clock 36 = .ok (.bipush 9, 2) := by decide +kernel
theorem dX11_clock_38 : decode cX11_clock 38 = .ok (.iload_n 1, 1) := by decide +kernel
theorem dX11_clock_39 : decode cX11_clock 39 = .ok (.iadd, 1) := by decide +kernel
theorem dX11_clock_40 : decode cX11_clock 40 = .ok (.iaload, 1) := by decide +kernel
theorem dX11_clock_41 : decode cX11_clock 41 = .ok (.istore_n 3, 1) := by decide +kernel
theorem dX11_clock_42 : decode cX11_clock 42 = .ok (.aload_n 0, 1) := by decide +kernel
theorem dX11_clock_43 : decode cX11_clock 43 = .ok (.getfield 9, 3) := by decide +kernel
theorem dX11_clock_46 : decode cX11_clock 46 = .ok (.bipush 9, 2) := by decide +kernel
theorem dX11_clock_48 : decode cX11_clock 48 = .ok (.iload_n 1, 1) := by decide +kernel
theorem dX11_clock_49 : decode cX11_clock 49 = .ok (.iadd, 1) := by decide +kernel
theorem dX11_clock_50 : decode cX11_clock 50 = .ok (.iload_n 2, 1) := by decide +kernel
theorem dX11_clock_51 : decode cX11_clock 51 = .ok (.iastore, 1) := by decide +kernel
theorem dX11_clock_52 : decode cX11_clock 52 = .ok (.iload_n 3, 1) := by decide +kernel
theorem dX11_clock_53 : decode cX11_clock 53 = .ok (.ireturn, 1) := by decide +kernel
theorem dX11_bar_0 : decode cX11_bar 0 = .ok (.iload_n 1, 1) := by decide +kernel
theorem dX11_bar_1 : decode cX11_bar 1 = .ok (.i2l, 1) := by decide +kernel
theorem dX11_bar_2 : decode cX11_bar 2 = .ok (.lconst 0, 1) := by decide +kernel
theorem dX11_bar_3 : decode cX11_bar 3 = .ok (.ldc2_w 69, 3) := by decide +kernel
theorem dX11_bar_6 : decode cX11_bar 6 = .ok (.invokestatic 57, 3) := by decide +kernel
theorem dX11_bar_9 : decode cX11_bar 9 = .ok (.ifCond .ne 9, 3) := by decide +kernel
theorem dX11_bar_12 : decode cX11_bar 12 = .ok (.aload_n 0, 1) := by decide +kernel
theorem dX11_bar_13 : decode cX11_bar 13 = .ok (.iconst 1, 1) := by decide +kernel
theorem dX11_bar_14 : decode cX11_bar 14 = .ok (.invokevirtual 73, 3) := by decide +kernel
theorem dX11_bar_17 : decode cX11_bar 17 = .ok (.ireturn, 1) := by decide +kernel
theorem dX11_bar_18 : decode cX11_bar 18 = .ok (.aload_n 0, 1) := by decide +kernel
theorem dX11_bar_19 : decode cX11_bar 19 = .ok (.getfield 9, 3) := by decide +kernel
theorem dX11_bar_22 : decode cX11_bar 22 = .ok (.iconst 0, 1) := by decide +kernel
theorem dX11_bar_23 : decode cX11_bar 23 = .ok (.iaload, 1) := by decide +kernel
theorem dX11_bar_24 : decode cX11_bar 24 = .ok (.bipush 6, 2) := by decide +kernel
theorem dX11_bar_26 : decode cX11_bar 26 = .ok (.if_icmp .ne 9, 3) := by decide +kernel
theorem dX11_bar_29 : decode cX11_bar 29 = .ok (.aload_n 0, 1) := by decide +kernel
theorem dX11_bar_30 : decode cX11_bar 30 = .ok (.iconst 4, 1) := by decide +kernel
theorem dX11_bar_31 : decode cX11_bar 31 = .ok (.invokevirtual 73, 3) := by decide +kernel
theorem dX11_bar_34 : decode cX11_bar 34 = .ok (.ireturn, 1) := by decide +kernel
theorem dX11_bar_35 : decode cX11_bar 35 = .ok (.aload_n 0, 1) := by decide +kernel
theorem dX11_bar_36 : decode cX11_bar 36 = .ok (.getfield 9, 3) := by decide +kernel
theorem dX11_bar_39 : decode cX11_bar 39 = .ok (.bipush 12, 2) := by decide +kernel
theorem dX11_bar_41 : decode cX11_bar 41 = .ok (.aload_n 0, 1) := by decide +kernel
theorem dX11_bar_42 : decode cX11_bar 42 = .ok (.getfield 9, 3) := by decide +kernel
theorem dX11_bar_45 : decode cX11_bar 45 = .ok (.iconst 0, 1) := by decide +kernel
theorem dX11_bar_46 : decode cX11_bar 46 = .ok (.iaload, 1) := by decide +kernel
theorem dX11_bar_47 : decode cX11_bar 47 = .ok (.iadd, 1) := by decide +kernel
theorem dX11_bar_48 : decode cX11_bar 48 = .ok (.iload_n 1, 1) := by decide +kernel
theorem dX11_bar_49 : decode cX11_bar 49 = .ok (.iastore, 1) := by decide +kernel
theorem dX11_bar_50 : decode cX11_bar 50 = .ok (.aload_n 0, 1) := by decide +kernel
theorem dX11_bar_51 : decode cX11_bar 51 = .ok (.getfield 9, 3) := by decide +kernel
theorem dX11_bar_54 : decode cX11_bar 54 = .ok (.iconst 0, 1) := by decide +kernel
theorem dX11_bar_55 : decode cX11_bar 55 = .ok (.dup2, 1) := by decide +kernel
theorem dX11_bar_56 : decode cX11_bar 56 = .ok (.iaload, 1) := by decide +kernel
theorem dX11_bar_57 : decode cX11_bar 57 = .ok (.iconst 1, 1) := by decide +kernel
theorem dX11_bar_58 : decode cX11_bar 58 = .ok (.iadd, 1) := by decide +kernel
theorem dX11_bar_59 : decode cX11_bar 59 = .ok (.iastore, 1) := by decide +kernel
theorem dX11_bar_60 : decode cX11_bar 60 = .ok (.aload_n 0, 1) := by decide +kernel
theorem dX11_bar_61 : decode cX11_bar 61 = .ok (.getfield 9, 3) := by decide +kernel
theorem dX11_bar_64 : decode cX11_bar 64 = .ok (.iconst 0, 1) := by decide +kernel
theorem dX11_bar_65 : decode cX11_bar 65 = .ok (.iaload, 1) := by decide +kernel
theorem dX11_bar_66 : decode cX11_bar 66 = .ok (.iconst 1, 1) := by decide +kernel
theorem dX11_bar_67 : decode cX11_bar 67 = .ok (.isub, 1) := by decide +kernel
theorem dX11_bar_68 : decode cX11_bar 68 = .ok (.ireturn, 1) := by decide +kernel
theorem dX11_mayRing_0 : decode cX11_mayRing 0 = .ok (.iload_n 0, 1) := by decide +kernel
theorem dX11_mayRing_1 : decode cX11_mayRing 1 = .ok (.i2l, 1) := by decide +kernel
theorem dX11_mayRing_2 : decode cX11_mayRing 2 = .ok (.lconst 0, 1) := by decide +kernel
theorem dX11_mayRing_3 : decode cX11_mayRing 3 = .ok (.ldc2_w 77, 3) := by decide +kernel
theorem dX11_mayRing_6 : decode cX11_mayRing 6 = .ok (.invokestatic 57, 3) := by decide +kernel
theorem dX11_mayRing_9 : decode cX11_mayRing 9 = .ok (.ifCond .eq 19, 3) := by decide +kernel
theorem dX11_mayRing_12 : decode cX11_mayRing 12 = .ok (.iload_n 1, 1) := by decide +kernel
theorem dX11_mayRing_13 : decode cX11_mayRing 13 = .ok (.i2l, 1) := by decide +kernel
theorem dX11_mayRing_14 : decode cX11_mayRing 14 = .ok (.lconst 1, 1) := by decide +kernel
theorem dX11_mayRing_15 : decode cX11_mayRing 15 = .ok (.ldc2_w 61, 3) := by decide +kernel
theorem dX11_mayRing_18 : decode cX11_mayRing 18 = .ok (.invokestatic 57, 3) := by decide +kernel
theorem dX11_mayRing_21 : decode cX11_mayRing 21 = .ok (.ifCond .eq 7, 3) := by decide +kernel
theorem dX11_mayRing_24 : decode cX11_mayRing 24 = .ok (.iconst 1, 1) := by decide +kernel
theorem dX11_mayRing_25 : decode cX11_mayRing 25 = .ok (.goto 4, 3) := by decide +kernel
theorem dX11_mayRing_28 : decode cX11_mayRing 28 = .ok (.iconst 0, 1) := by decide +kernel
theorem dX11_mayRing_29 : decode cX11_mayRing 29 = .ok (.ireturn, 1) := by decide +kernel
theorem dX11_rings_0 : decode cX11_rings 0 = .ok (.bipush 18, 2) := by decide +kernel
theorem dX11_rings_2 : decode cX11_rings 2 = .ok (.iconst 3, 1) := by decide +kernel
theorem dX11_rings_3 : decode cX11_rings 3 = .ok (.aload_n 0, 1) := by decide +kernel
theorem dX11_rings_4 : decode cX11_rings 4 = .ok (.getfield 9, 3) := by decide +kernel
theorem dX11_rings_7 : decode cX11_rings 7 = .ok (.iconst 1, 1) := by decide +kernel
theorem dX11_rings_8 : decode cX11_rings 8 = .ok (.iaload, 1) := by decide +kernel
theorem dX11_rings_9 : decode cX11_rings 9 = .ok (.imul, 1) := by decide +kernel
theorem dX11_rings_10 : decode cX11_rings 10 = .ok (.iadd, 1) := by decide +kernel
theorem dX11_rings_11 : decode cX11_rings 11 = .ok (.istore 4, 2) := by decide +kernel
theorem dX11_rings_13 : decode cX11_rings 13 = .ok (.aload_n 0, 1) := by decide +kernel
theorem dX11_rings_14 : decode cX11_rings 14 = .ok (.getfield 9, 3) := by decide +kernel
theorem dX11_rings_17 : decode cX11_rings 17 = .ok (.iload 4, 2) := by decide +kernel
theorem dX11_rings_19 : decode cX11_rings 19 = .ok (.iload_n 1, 1) := by decide +kernel
theorem dX11_rings_20 : decode cX11_rings 20 = .ok (.iastore, 1) := by decide +kernel
theorem dX11_rings_21 : decode cX11_rings 21 = .ok (.aload_n 0, 1) := by decide +kernel
theorem dX11_rings_22 : decode cX11_rings 22 = .ok (.getfield 9, 3) := by decide +kernel
theorem dX11_rings_25 : decode cX11_rings 25 = .ok (.iload 4, 2) := by decide +kernel
theorem dX11_rings_27 : decode cX11_rings 27 = .ok (.iconst 1, 1) := by decide +kernel
theorem dX11_rings_28 : decode cX11_rings 28 = .ok (.iadd, 1) := by decide +kernel
theorem dX11_rings_29 : decode cX11_rings 29 = .ok (.iload_n 2, 1) := by decide +kernel
theorem dX11_rings_30 : decode cX11_rings 30 = .ok (.iastore, 1) := by decide +kernel
theorem dX11_rings_31 : decode cX11_rings 31 = .ok (.aload_n 0, 1) := by decide +kernel
theorem dX11_rings_32 : decode cX11_rings 32 = .ok (.getfield 9, 3) := by decide +kernel
theorem dX11_rings_35 : decode cX11_rings 35 = .ok (.iload 4, 2) := by decide +kernel
theorem dX11_rings_37 : decode cX11_rings 37 = .ok (.iconst 2, 1) := by decide +kernel
theorem dX11_rings_38 : decode cX11_rings 38 = .ok (.iadd, 1) := by decide +kernel
theorem dX11_rings_39 : decode cX11_rings 39 = .ok (.iload_n 3, 1) := by decide +kernel
theorem dX11_rings_40 : decode cX11_rings 40 = .ok (.iastore, 1) := by decide +kernel
theorem dX11_rings_41 : decode cX11_rings 41 = .ok (.aload_n 0, 1) := by decide +kernel
theorem dX11_rings_42 : decode cX11_rings 42 = .ok (.getfield 9, 3) := by decide +kernel
theorem dX11_rings_45 : decode cX11_rings 45 = .ok (.iconst 1, 1) := by decide +kernel
theorem dX11_rings_46 : decode cX11_rings 46 = .ok (.dup2, 1) := by decide +kernel
theorem dX11_rings_47 : decode cX11_rings 47 = .ok (.iaload, 1) := by decide +kernel
theorem dX11_rings_48 : decode cX11_rings 48 = .ok (.iconst 1, 1) := by decide +kernel
theorem dX11_rings_49 : decode cX11_rings 49 = .ok (.iadd, 1) := by decide +kernel
theorem dX11_rings_50 : decode cX11_rings 50 = .ok (.iastore, 1) := by decide +kernel
theorem dX11_rings_51 : decode cX11_rings 51 = .ok (.return_, 1) := by decide +kernel
theorem dX11_ring__0 : decode cX11_ring_ 0 = .ok (.aload_n 0, 1) := by decide +kernel
theorem dX11_ring__1 : decode cX11_ring_ 1 = .ok (.iload_n 1, 1) := by decide +kernel
theorem dX11_ring__2 : decode cX11_ring_ 2 = .ok (.invokevirtual 65, 3) := by decide +kernel
theorem dX11_ring__5 : decode cX11_ring_ 5 = .ok (.ifCond .eq 11, 3) := by decide +kernel
theorem dX11_ring__8 : decode cX11_ring_ 8 = .ok (.iload_n 2, 1) := by decide +kernel
theorem dX11_ring__9 : decode cX11_ring_ 9 = .ok (.iload_n 3, 1) := by decide +kernel
theorem dX11_ring__10 : decode cX11_ring_ 10 = .ok (.invokestatic 79, 3) := by decide +kernel
theorem dX11_ring__13 : decode cX11_ring_ 13 = .ok (.ifCond .ne 9, 3) := by decide +kernel
theorem dX11_ring__16 : decode cX11_ring_ 16 = .ok (.aload_n 0, 1) := by decide +kernel
theorem dX11_ring__17 : decode cX11_ring_ 17 = .ok (.iconst 1, 1) := by decide +kernel
theorem dX11_ring__18 : decode cX11_ring_ 18 = .ok (.invokevirtual 73, 3) := by decide +kernel
theorem dX11_ring__21 : decode cX11_ring_ 21 = .ok (.ireturn, 1) := by decide +kernel
theorem dX11_ring__22 : decode cX11_ring_ 22 = .ok (.aload_n 0, 1) := by decide +kernel
theorem dX11_ring__23 : decode cX11_ring_ 23 = .ok (.getfield 9, 3) := by decide +kernel
theorem dX11_ring__26 : decode cX11_ring_ 26 = .ok (.iconst 1, 1) := by decide +kernel
theorem dX11_ring__27 : decode cX11_ring_ 27 = .ok (.iaload, 1) := by decide +kernel
theorem dX11_ring__28 : decode cX11_ring_ 28 = .ok (.bipush 96, 2) := by decide +kernel
theorem dX11_ring__30 : decode cX11_ring_ 30 = .ok (.if_icmp .ne 9, 3) := by decide +kernel
theorem dX11_ring__33 : decode cX11_ring_ 33 = .ok (.aload_n 0, 1) := by decide +kernel
theorem dX11_ring__34 : decode cX11_ring_ 34 = .ok (.iconst 4, 1) := by decide +kernel
theorem dX11_ring__35 : decode cX11_ring_ 35 = .ok (.invokevirtual 73, 3) := by decide +kernel
theorem dX11_ring__38 : decode cX11_ring_ 38 = .ok (.ireturn, 1) := by decide +kernel
theorem dX11_ring__39 : decode cX11_ring_ 39 = .ok (.aload_n 0, 1) := by decide +kernel
theorem dX11_ring__40 : decode cX11_ring_ 40 = .ok (.iload_n 1, 1) := by decide +kernel
theorem dX11_ring__41 : decode cX11_ring_ 41 = .ok (.iload_n 2, 1) := by decide +kernel
theorem dX11_ring__42 : decode cX11_ring_ 42 = .ok (.iload_n 3, 1) := by decide +kernel
theorem dX11_ring__43 : decode cX11_ring_ 43 = .ok (.invokevirtual 83, 3) := by decide +kernel
theorem dX11_ring__46 : decode cX11_ring_ 46 = .ok (.aload_n 0, 1) := by decide +kernel
theorem dX11_ring__47 : decode cX11_ring_ 47 = .ok (.getfield 9, 3) := by decide +kernel
theorem dX11_ring__50 : decode cX11_ring_ 50 = .ok (.iconst 1, 1) := by decide +kernel
theorem dX11_ring__51 : decode cX11_ring_ 51 = .ok (.iaload, 1) := by decide +kernel
theorem dX11_ring__52 : decode cX11_ring_ 52 = .ok (.iconst 1, 1) := by decide +kernel
theorem dX11_ring__53 : decode cX11_ring_ 53 = .ok (.isub, 1) := by decide +kernel
theorem dX11_ring__54 : decode cX11_ring_ 54 = .ok (.ireturn, 1) := by decide +kernel
theorem dX11_shownOf_0 : decode cX11_shownOf 0 = .ok (.aload_n 0, 1) := by decide +kernel
theorem dX11_shownOf_1 : decode cX11_shownOf 1 = .ok (.iload_n 1, 1) := by decide +kernel
theorem dX11_shownOf_2 : decode cX11_shownOf 2 = .ok (.iconst 1, 1) := by decide +kernel
theorem dX11_shownOf_3 : decode cX11_shownOf 3 = .ok (.invokevirtual 87, 3) := by decide +kernel
theorem dX11_shownOf_6 : decode cX11_shownOf 6 = .ok (.aload_n 0, 1) := by decide +kernel
theorem dX11_shownOf_7 : decode cX11_shownOf 7 = .ok (.aload_n 0, 1) := by decide +kernel
theorem dX11_shownOf_8 : decode cX11_shownOf 8 = .ok (.iload_n 1, 1) := by decide +kernel
theorem dX11_shownOf_9 : decode cX11_shownOf 9 = .ok (.iconst 0, 1) := by decide +kernel
theorem dX11_shownOf_10 : decode cX11_shownOf 10 = .ok (.invokevirtual 87, 3) := by decide +kernel
theorem dX11_shownOf_13 : decode cX11_shownOf 13 = .ok (.invokevirtual 91, 3) := by decide +kernel
theorem dX11_shownOf_16 : decode cX11_shownOf 16 = .ok (.iadd, 1) := by decide +kernel
theorem dX11_shownOf_17 : decode cX11_shownOf 17 = .ok (.ireturn, 1) := by decide +kernel
theorem dX11_isAhead_0 : decode cX11_isAhead 0 = .ok (.aload_n 0, 1) := by decide +kernel
theorem dX11_isAhead_1 : decode cX11_isAhead 1 = .ok (.iload_n 1, 1) := by decide +kernel
theorem dX11_isAhead_2 : decode cX11_isAhead 2 = .ok (.iconst 1, 1) := by decide +kernel
theorem dX11_isAhead_3 : decode cX11_isAhead 3 = .ok (.invokevirtual 87, 3) := by decide +kernel
theorem dX11_isAhead_6 : decode cX11_isAhead 6 = .ok (.aload_n 0, 1) := by decide +kernel
theorem dX11_isAhead_7 : decode cX11_isAhead 7 = .ok (.iload_n 2, 1) := by decide +kernel
theorem dX11_isAhead_8 : decode cX11_isAhead 8 = .ok (.iconst 1, 1) := by decide +kernel
theorem dX11_isAhead_9 : decode cX11_isAhead 9 = .ok (.invokevirtual 87, 3) := by decide +kernel
theorem dX11_isAhead_12 : decode cX11_isAhead 12 = .ok (.if_icmp .lt 23, 3) := by decide +kernel
theorem dX11_isAhead_15 : decode cX11_isAhead 15 = .ok (.aload_n 0, 1) := by decide +kernel
theorem dX11_isAhead_16 : decode cX11_isAhead 16 = .ok (.iload_n 1, 1) := by decide +kernel
theorem dX11_isAhead_17 : decode cX11_isAhead 17 = .ok (.iconst 1, 1) := by decide +kernel
theorem dX11_isAhead_18 : decode cX11_isAhead 18 = .ok (.invokevirtual 87, 3) := by decide +kernel
theorem dX11_isAhead_21 : decode cX11_isAhead 21 = .ok (.aload_n 0, 1) := by decide +kernel
theorem dX11_isAhead_22 : decode cX11_isAhead 22 = .ok (.iload_n 2, 1) := by decide +kernel
theorem dX11_isAhead_23 : decode cX11_isAhead 23 = .ok (.iconst 1, 1) := by decide +kernel
theorem dX11_isAhead_24 : decode cX11_isAhead 24 = .ok (.invokevirtual 87, 3) := by decide +kernel
theorem dX11_isAhead_27 : decode cX11_isAhead 27 = .ok (.if_icmp .ne 12, 3) := by decide +kernel
theorem dX11_isAhead_30 : decode cX11_isAhead 30 = .ok (.iload_n 1, 1) := by decide +kernel
theorem dX11_isAhead_31 : decode cX11_isAhead 31 = .ok (.iload_n 2, 1) := by decide +kernel
theorem dX11_isAhead_32 : decode cX11_isAhead 32 = .ok (.if_icmp .ge 7, 3) := by decide +kernel
theorem dX11_isAhead_35 : decode cX11_isAhead 35 = .ok (.iconst 1, 1) := by decide +kernel
theorem dX11_isAhead_36 : decode cX11_isAhead 36 = .ok (.goto 4, 3) := by decide +kernel
theorem dX11_isAhead_39 : decode cX11_isAhead 39 = .ok (.iconst 0, 1) := by decide +kernel
theorem dX11_isAhead_40 : decode cX11_isAhead 40 = .ok (.ireturn, 1) := by decide +kernel
theorem dX11_gapOf_0 : decode cX11_gapOf 0 = .ok (.iconst (-1), 1) := by decide +kernel
theorem dX11_gapOf_1 : decode cX11_gapOf 1 = .ok (.istore_n 2, 1) := by decide +kernel
theorem dX11_gapOf_2 : decode cX11_gapOf 2 = .ok (.iconst 0, 1) := by decide +kernel
theorem dX11_gapOf_3 : decode cX11_gapOf 3 = .ok (.istore_n 3, 1) := by decide +kernel
theorem dX11_gapOf_4 : decode cX11_gapOf 4 = .ok (.iload_n 3, 1) := by decide +kernel
theorem dX11_gapOf_5 : decode cX11_gapOf 5 = .ok (.aload_n 0, 1) := by decide +kernel
theorem dX11_gapOf_6 : decode cX11_gapOf 6 = .ok (.getfield 9, 3) := by decide +kernel
theorem dX11_gapOf_9 : decode cX11_gapOf 9 = .ok (.iconst 1, 1) := by decide +kernel
theorem dX11_gapOf_10 : decode cX11_gapOf 10 = .ok (.iaload, 1) := by decide +kernel
theorem dX11_gapOf_11 : decode cX11_gapOf 11 = .ok (.if_icmp .ge 48, 3) := by decide +kernel
theorem dX11_gapOf_14 : decode cX11_gapOf 14 = .ok (.aload_n 0, 1) := by decide +kernel
theorem dX11_gapOf_15 : decode cX11_gapOf 15 = .ok (.iload_n 3, 1) := by decide +kernel
theorem dX11_gapOf_16 : decode cX11_gapOf 16 = .ok (.iconst 0, 1) := by decide +kernel
theorem dX11_gapOf_17 : decode cX11_gapOf 17 = .ok (.invokevirtual 87, 3) := by decide +kernel
theorem dX11_gapOf_20 : decode cX11_gapOf 20 = .ok (.aload_n 0, 1) := by decide +kernel
theorem dX11_gapOf_21 : decode cX11_gapOf 21 = .ok (.iload_n 1, 1) := by decide +kernel
theorem dX11_gapOf_22 : decode cX11_gapOf 22 = .ok (.iconst 0, 1) := by decide +kernel
theorem dX11_gapOf_23 : decode cX11_gapOf 23 = .ok (.invokevirtual 87, 3) := by decide +kernel
theorem dX11_gapOf_26 : decode cX11_gapOf 26 = .ok (.if_icmp .ne 27, 3) := by decide +kernel
theorem dX11_gapOf_29 : decode cX11_gapOf 29 = .ok (.aload_n 0, 1) := by decide +kernel
theorem dX11_gapOf_30 : decode cX11_gapOf 30 = .ok (.iload_n 3, 1) := by decide +kernel
theorem dX11_gapOf_31 : decode cX11_gapOf 31 = .ok (.iload_n 1, 1) := by decide +kernel
theorem dX11_gapOf_32 : decode cX11_gapOf 32 = .ok (.invokevirtual 94, 3) := by decide +kernel
theorem dX11_gapOf_35 : decode cX11_gapOf 35 = .ok (.ifCond .eq 18, 3) := by decide +kernel
theorem dX11_gapOf_38 : decode cX11_gapOf 38 = .ok (.iload_n 2, 1) := by decide +kernel
theorem dX11_gapOf_39 : decode cX11_gapOf 39 = .ok (.ifCond .lt 12, 3) := by decide +kernel
theorem dX11_gapOf_42 : decode cX11_gapOf 42 = .ok (.aload_n 0, 1) := by decide +kernel
theorem dX11_gapOf_43 : decode cX11_gapOf 43 = .ok (.iload_n 2, 1) := by decide +kernel
theorem dX11_gapOf_44 : decode cX11_gapOf 44 = .ok (.iload_n 3, 1) := by decide +kernel
theorem dX11_gapOf_45 : decode cX11_gapOf 45 = .ok (.invokevirtual 94, 3) := by decide +kernel
theorem dX11_gapOf_48 : decode cX11_gapOf 48 = .ok (.ifCond .eq 5, 3) := by decide +kernel
theorem dX11_gapOf_51 : decode cX11_gapOf 51 = .ok (.iload_n 3, 1) := by decide +kernel
theorem dX11_gapOf_52 : decode cX11_gapOf 52 = .ok (.istore_n 2, 1) := by decide +kernel
theorem dX11_gapOf_53 : decode cX11_gapOf 53 = .ok (.iinc 3 1, 3) := by decide +kernel
theorem dX11_gapOf_56 : decode cX11_gapOf 56 = .ok (.goto (-52), 3) := by decide +kernel
theorem dX11_gapOf_59 : decode cX11_gapOf 59 = .ok (.iload_n 2, 1) := by decide +kernel
theorem dX11_gapOf_60 : decode cX11_gapOf 60 = .ok (.ifCond .ge 9, 3) := by decide +kernel
theorem dX11_gapOf_63 : decode cX11_gapOf 63 = .ok (.sipush 999, 3) := by decide +kernel
theorem dX11_gapOf_66 : decode cX11_gapOf 66 = .ok (.goto 16, 3) := by decide +kernel
theorem dX11_gapOf_69 : decode cX11_gapOf 69 = .ok (.aload_n 0, 1) := by decide +kernel
theorem dX11_gapOf_70 : decode cX11_gapOf 70 = .ok (.iload_n 1, 1) := by decide +kernel
theorem dX11_gapOf_71 : decode cX11_gapOf 71 = .ok (.iconst 1, 1) := by decide +kernel
theorem dX11_gapOf_72 : decode cX11_gapOf 72 = .ok (.invokevirtual 87, 3) := by decide +kernel
theorem dX11_gapOf_75 : decode cX11_gapOf 75 = .ok (.aload_n 0, 1) := by decide +kernel
theorem dX11_gapOf_76 : decode cX11_gapOf 76 = .ok (.iload_n 2, 1) := by decide +kernel
theorem dX11_gapOf_77 : decode cX11_gapOf 77 = .ok (.iconst 1, 1) := by decide +kernel
theorem dX11_gapOf_78 : decode cX11_gapOf 78 = .ok (.invokevirtual 87, 3) := by decide +kernel
theorem dX11_gapOf_81 : decode cX11_gapOf 81 = .ok (.isub, 1) := by decide +kernel
theorem dX11_gapOf_82 : decode cX11_gapOf 82 = .ok (.istore_n 3, 1) := by decide +kernel
theorem dX11_gapOf_83 : decode cX11_gapOf 83 = .ok (.iload_n 3, 1) := by decide +kernel
theorem dX11_gapOf_84 : decode cX11_gapOf 84 = .ok (.sipush 999, 3) := by decide +kernel
theorem dX11_gapOf_87 : decode cX11_gapOf 87 = .ok (.if_icmp .ge 7, 3) := by decide +kernel
theorem dX11_gapOf_90 : decode cX11_gapOf 90 = .ok (.iload_n 3, 1) := by decide +kernel
theorem dX11_gapOf_91 : decode cX11_gapOf 91 = .ok (.goto 6, 3) := by decide +kernel
theorem dX11_gapOf_94 : decode cX11_gapOf 94 = .ok (.sipush 999, 3) := by decide +kernel
theorem dX11_gapOf_97 : decode cX11_gapOf 97 = .ok (.ireturn, 1) := by decide +kernel
theorem dX11_ringOf_0 : decode cX11_ringOf 0 = .ok (.aload_n 0, 1) := by decide +kernel
theorem dX11_ringOf_1 : decode cX11_ringOf 1 = .ok (.iload_n 1, 1) := by decide +kernel
theorem dX11_ringOf_2 : decode cX11_ringOf 2 = .ok (.invokevirtual 97, 3) := by decide +kernel
theorem dX11_ringOf_5 : decode cX11_ringOf 5 = .ok (.ifCond .eq 15, 3) := by decide +kernel
theorem dX11_ringOf_8 : decode cX11_ringOf 8 = .ok (.iload_n 2, 1) := by decide +kernel
theorem dX11_ringOf_9 : decode cX11_ringOf 9 = .ok (.i2l, 1) := by decide +kernel
theorem dX11_ringOf_10 : decode cX11_ringOf 10 = .ok (.lconst 0, 1) := by decide +kernel
theorem dX11_ringOf_11 : decode cX11_ringOf 11 = .ok (.ldc2_w 100, 3) := by decide +kernel
theorem dX11_ringOf_14 : decode cX11_ringOf 14 = .ok (.invokestatic 57, 3) := by decide +kernel
theorem dX11_ringOf_17 : decode cX11_ringOf 17 = .ok (.ifCond .ne 9, 3) := by decide +kernel
theorem dX11_ringOf_20 : decode cX11_ringOf 20 = .ok (.aload_n 0, 1) := by decide +kernel
theorem dX11_ringOf_21 : decode cX11_ringOf 21 = .ok (.iconst 1, 1) := by decide +kernel
theorem dX11_ringOf_22 : decode cX11_ringOf 22 = .ok (.invokevirtual 73, 3) := by decide +kernel
theorem dX11_ringOf_25 : decode cX11_ringOf 25 = .ok (.ireturn, 1) := by decide +kernel
theorem dX11_ringOf_26 : decode cX11_ringOf 26 = .ok (.iload_n 2, 1) := by decide +kernel
theorem dX11_ringOf_27 : decode cX11_ringOf 27 = .ok (.iconst 3, 1) := by decide +kernel
theorem dX11_ringOf_28 : decode cX11_ringOf 28 = .ok (.if_icmp .ge 12, 3) := by decide +kernel
theorem dX11_ringOf_31 : decode cX11_ringOf 31 = .ok (.aload_n 0, 1) := by decide +kernel
theorem dX11_ringOf_32 : decode cX11_ringOf 32 = .ok (.iload_n 1, 1) := by decide +kernel
theorem dX11_ringOf_33 : decode cX11_ringOf 33 = .ok (.iload_n 2, 1) := by decide +kernel
theorem dX11_ringOf_34 : decode cX11_ringOf 34 = .ok (.invokevirtual 87, 3) := by decide +kernel
theorem dX11_ringOf_37 : decode cX11_ringOf 37 = .ok (.goto 21, 3) := by decide +kernel
theorem dX11_ringOf_40 : decode cX11_ringOf 40 = .ok (.iload_n 2, 1) := by decide +kernel
theorem dX11_ringOf_41 : decode cX11_ringOf 41 = .ok (.iconst 3, 1) := by decide +kernel
theorem dX11_ringOf_42 : decode cX11_ringOf 42 = .ok (.if_icmp .ne 11, 3) := by decide +kernel
theorem dX11_ringOf_45 : decode cX11_ringOf 45 = .ok (.aload_n 0, 1) := by decide +kernel
theorem dX11_ringOf_46 : decode cX11_ringOf 46 = .ok (.iload_n 1, 1) := by decide +kernel
theorem dX11_ringOf_47 : decode cX11_ringOf 47 = .ok (.invokevirtual 102, 3) := by decide +kernel
theorem dX11_ringOf_50 : decode cX11_ringOf 50 = .ok (.goto 8, 3) := by decide +kernel
theorem dX11_ringOf_53 : decode cX11_ringOf 53 = .ok (.aload_n 0, 1) := by decide +kernel
theorem dX11_ringOf_54 : decode cX11_ringOf 54 = .ok (.iload_n 1, 1) := by decide +kernel
theorem dX11_ringOf_55 : decode cX11_ringOf 55 = .ok (.invokevirtual 105, 3) := by decide +kernel
theorem dX11_ringOf_58 : decode cX11_ringOf 58 = .ok (.ireturn, 1) := by decide +kernel
theorem dX11_taped_0 : decode cX11_taped 0 = .ok (.iconst 0, 1) := by decide +kernel
theorem dX11_taped_1 : decode cX11_taped 1 = .ok (.istore_n 3, 1) := by decide +kernel
theorem dX11_taped_2 : decode cX11_taped 2 = .ok (.iload_n 3, 1) := by decide +kernel
theorem dX11_taped_3 : decode cX11_taped 3 = .ok (.aload_n 0, 1) := by decide +kernel
theorem dX11_taped_4 : decode cX11_taped 4 = .ok (.getfield 9, 3) := by decide +kernel
theorem dX11_taped_7 : decode cX11_taped 7 = .ok (.iconst 1, 1) := by decide +kernel
theorem dX11_taped_8 : decode cX11_taped 8 = .ok (.iaload, 1) := by decide +kernel
theorem dX11_taped_9 : decode cX11_taped 9 = .ok (.if_icmp .ge 84, 3) := by decide +kernel
theorem dX11_taped_12 : decode cX11_taped 12 = .ok (.aload_n 0, 1) := by decide +kernel
theorem dX11_taped_13 : decode cX11_taped 13 = .ok (.iload_n 3, 1) := by decide +kernel
theorem dX11_taped_14 : decode cX11_taped 14 = .ok (.iconst 0, 1) := by decide +kernel
theorem dX11_taped_15 : decode cX11_taped 15 = .ok (.invokevirtual 87, 3) := by decide +kernel
theorem dX11_taped_18 : decode cX11_taped 18 = .ok (.iload_n 1, 1) := by decide +kernel
theorem dX11_taped_19 : decode cX11_taped 19 = .ok (.if_icmp .eq 6, 3) := by decide +kernel
theorem dX11_taped_22 : decode cX11_taped 22 = .ok (.goto 65, 3) := by decide +kernel
theorem dX11_taped_25 : decode cX11_taped 25 = .ok (.iconst 0, 1) := by decide +kernel
theorem dX11_taped_26 : decode cX11_taped 26 = .ok (.istore 4, 2) := by decide +kernel
theorem dX11_taped_28 : decode cX11_taped 28 = .ok (.iconst 0, 1) := by decide +kernel
theorem dX11_taped_29 : decode cX11_taped 29 = .ok (.istore 5, 2) := by decide +kernel
theorem dX11_taped_31 : decode cX11_taped 31 = .ok (.iload 5, 2) := by decide +kernel
theorem dX11_taped_33 : decode cX11_taped 33 = .ok (.aload_n 0, 1) := by decide +kernel
theorem dX11_taped_34 : decode cX11_taped 34 = .ok (.getfield 9, 3) := by decide +kernel
theorem dX11_taped_37 : decode cX11_taped 37 = .ok (.iconst 1, 1) := by decide +kernel
theorem dX11_taped_38 : decode cX11_taped 38 = .ok (.iaload, 1) := by decide +kernel
theorem dX11_taped_39 : decode cX11_taped 39 = .ok (.if_icmp .ge 40, 3) := by decide +kernel
theorem dX11_taped_42 : decode cX11_taped 42 = .ok (.iload 4, 2) := by decide +kernel
theorem dX11_taped_44 : decode cX11_taped 44 = .ok (.aload_n 0, 1) := by decide +kernel
theorem dX11_taped_45 : decode cX11_taped 45 = .ok (.iload 5, 2) := by decide +kernel
theorem dX11_taped_47 : decode cX11_taped 47 = .ok (.iconst 0, 1) := by decide +kernel
theorem dX11_taped_48 : decode cX11_taped 48 = .ok (.invokevirtual 87, 3) := by decide +kernel
theorem dX11_taped_51 : decode cX11_taped 51 = .ok (.iload_n 1, 1) := by decide +kernel
theorem dX11_taped_52 : decode cX11_taped 52 = .ok (.if_icmp .ne 17, 3) := by decide +kernel
theorem dX11_taped_55 : decode cX11_taped 55 = .ok (.aload_n 0, 1) := by decide +kernel
theorem dX11_taped_56 : decode cX11_taped 56 = .ok (.iload 5, 2) := by decide +kernel
theorem dX11_taped_58 : decode cX11_taped 58 = .ok (.iload_n 3, 1) := by decide +kernel
theorem dX11_taped_59 : decode cX11_taped 59 = .ok (.invokevirtual 94, 3) := by decide +kernel
theorem dX11_taped_62 : decode cX11_taped 62 = .ok (.ifCond .eq 7, 3) := by decide +kernel
theorem dX11_taped_65 : decode cX11_taped 65 = .ok (.iconst 1, 1) := by decide +kernel
theorem dX11_taped_66 : decode cX11_taped 66 = .ok (.goto 4, 3) := by decide +kernel
theorem dX11_taped_69 : decode cX11_taped 69 = .ok (.iconst 0, 1) := by decide +kernel
theorem dX11_taped_70 : decode cX11_taped 70 = .ok (.iadd, 1) := by decide +kernel
theorem dX11_taped_71 : decode cX11_taped 71 = .ok (.istore 4, 2) := by decide +kernel
theorem dX11_taped_73 : decode cX11_taped 73 = .ok (.iinc 5 1, 3) := by decide +kernel
theorem dX11_taped_76 : decode cX11_taped 76 = .ok (.goto (-45), 3) := by decide +kernel
theorem dX11_taped_79 : decode cX11_taped 79 = .ok (.iload 4, 2) := by decide +kernel
theorem dX11_taped_81 : decode cX11_taped 81 = .ok (.iload_n 2, 1) := by decide +kernel
theorem dX11_taped_82 : decode cX11_taped 82 = .ok (.if_icmp .ne 5, 3) := by decide +kernel
theorem dX11_taped_85 : decode cX11_taped 85 = .ok (.iload_n 3, 1) := by decide +kernel
theorem dX11_taped_86 : decode cX11_taped 86 = .ok (.ireturn, 1) := by decide +kernel
theorem dX11_taped_87 : decode cX11_taped 87 = .ok (.iinc 3 1, 3) := by decide +kernel
theorem dX11_taped_90 : decode cX11_taped 90 = .ok (.goto (-88), 3) := by decide +kernel
theorem dX11_taped_93 : decode cX11_taped 93 = .ok (.iconst (-1), 1) := by decide +kernel
theorem dX11_taped_94 : decode cX11_taped 94 = .ok (.ireturn, 1) := by decide +kernel
theorem dX11_onTape_0 : decode cX11_onTape 0 = .ok (.aload_n 0, 1) := by decide +kernel
theorem dX11_onTape_1 : decode cX11_onTape 1 = .ok (.iload_n 1, 1) := by decide +kernel
theorem dX11_onTape_2 : decode cX11_onTape 2 = .ok (.invokevirtual 65, 3) := by decide +kernel
theorem dX11_onTape_5 : decode cX11_onTape 5 = .ok (.ifCond .eq 7, 3) := by decide +kernel
theorem dX11_onTape_8 : decode cX11_onTape 8 = .ok (.iload_n 2, 1) := by decide +kernel
theorem dX11_onTape_9 : decode cX11_onTape 9 = .ok (.ifCond .ge 9, 3) := by decide +kernel
theorem dX11_onTape_12 : decode cX11_onTape 12 = .ok (.aload_n 0, 1) := by decide +kernel
theorem dX11_onTape_13 : decode cX11_onTape 13 = .ok (.iconst 1, 1) := by decide +kernel
theorem dX11_onTape_14 : decode cX11_onTape 14 = .ok (.invokevirtual 73, 3) := by decide +kernel
theorem dX11_onTape_17 : decode cX11_onTape 17 = .ok (.ireturn, 1) := by decide +kernel
theorem dX11_onTape_18 : decode cX11_onTape 18 = .ok (.aload_n 0, 1) := by decide +kernel
theorem dX11_onTape_19 : decode cX11_onTape 19 = .ok (.iload_n 1, 1) := by decide +kernel
theorem dX11_onTape_20 : decode cX11_onTape 20 = .ok (.iload_n 2, 1) := by decide +kernel
theorem dX11_onTape_21 : decode cX11_onTape 21 = .ok (.invokevirtual 108, 3) := by decide +kernel
theorem dX11_onTape_24 : decode cX11_onTape 24 = .ok (.istore_n 3, 1) := by decide +kernel
theorem dX11_onTape_25 : decode cX11_onTape 25 = .ok (.iload_n 3, 1) := by decide +kernel
theorem dX11_onTape_26 : decode cX11_onTape 26 = .ok (.ifCond .ge 11, 3) := by decide +kernel
theorem dX11_onTape_29 : decode cX11_onTape 29 = .ok (.aload_n 0, 1) := by decide +kernel
theorem dX11_onTape_30 : decode cX11_onTape 30 = .ok (.iconst 2, 1) := by decide +kernel
theorem dX11_onTape_31 : decode cX11_onTape 31 = .ok (.invokevirtual 73, 3) := by decide +kernel
theorem dX11_onTape_34 : decode cX11_onTape 34 = .ok (.goto 4, 3) := by decide +kernel
theorem dX11_onTape_37 : decode cX11_onTape 37 = .ok (.iload_n 3, 1) := by decide +kernel
theorem dX11_onTape_38 : decode cX11_onTape 38 = .ok (.ireturn, 1) := by decide +kernel
theorem dX11_readAll_0 : decode cX11_readAll 0 = .ok (.iconst 0, 1) := by decide +kernel
theorem dX11_readAll_1 : decode cX11_readAll 1 = .ok (.istore_n 1, 1) := by decide +kernel
theorem dX11_readAll_2 : decode cX11_readAll 2 = .ok (.iload_n 1, 1) := by decide +kernel
theorem dX11_readAll_3 : decode cX11_readAll 3 = .ok (.aload_n 0, 1) := by decide +kernel
theorem dX11_readAll_4 : decode cX11_readAll 4 = .ok (.getfield 9, 3) := by decide +kernel
theorem dX11_readAll_7 : decode cX11_readAll 7 = .ok (.iconst 1, 1) := by decide +kernel
theorem dX11_readAll_8 : decode cX11_readAll 8 = .ok (.iaload, 1) := by decide +kernel
theorem dX11_readAll_9 : decode cX11_readAll 9 = .ok (.if_icmp .ge 130, 3) := by decide +kernel
theorem dX11_readAll_12 : decode cX11_readAll 12 = .ok (.aload_n 0, 1) := by decide +kernel
theorem dX11_readAll_13 : decode cX11_readAll 13 = .ok (.iload_n 1, 1) := by decide +kernel
theorem dX11_readAll_14 : decode cX11_readAll 14 = .ok (.iconst 0, 1) := by decide +kernel
theorem dX11_readAll_15 : decode cX11_readAll 15 = .ok (.invokevirtual 87, 3) := by decide +kernel
theorem dX11_readAll_18 : decode cX11_readAll 18 = .ok (.istore_n 2, 1) := by decide +kernel
theorem dX11_readAll_19 : decode cX11_readAll 19 = .ok (.aload_n 0, 1) := by decide +kernel
theorem dX11_readAll_20 : decode cX11_readAll 20 = .ok (.getfield 19, 3) := by decide +kernel
theorem dX11_readAll_23 : decode cX11_readAll 23 = .ok (.iload_n 1, 1) := by decide +kernel
theorem dX11_readAll_24 : decode cX11_readAll 24 = .ok (.aload_n 0, 1) := by decide +kernel
theorem dX11_readAll_25 : decode cX11_readAll 25 = .ok (.iload_n 1, 1) := by decide +kernel
theorem dX11_readAll_26 : decode cX11_readAll 26 = .ok (.invokevirtual 102, 3) := by decide +kernel
theorem dX11_readAll_29 : decode cX11_readAll 29 = .ok (.iastore, 1) := by decide +kernel
theorem dX11_readAll_30 : decode cX11_readAll 30 = .ok (.aload_n 0, 1) := by decide +kernel
theorem dX11_readAll_31 : decode cX11_readAll 31 = .ok (.getfield 9, 3) := by decide +kernel
theorem dX11_readAll_34 : decode cX11_readAll 34 = .ok (.bipush 12, 2) := by decide +kernel
theorem dX11_readAll_36 : decode cX11_readAll 36 = .ok (.iload_n 2, 1) := by decide +kernel
theorem dX11_readAll_37 : decode cX11_readAll 37 = .ok (.iadd, 1) := by decide +kernel
theorem dX11_readAll_38 : decode cX11_readAll 38 = .ok (.iaload, 1) := by decide +kernel
theorem dX11_readAll_39 : decode cX11_readAll 39 = .ok (.istore_n 3, 1) := by decide +kernel
theorem dX11_readAll_40 : decode cX11_readAll 40 = .ok (.aload_n 0, 1) := by decide +kernel
theorem dX11_readAll_41 : decode cX11_readAll 41 = .ok (.getfield 22, 3) := by decide +kernel
theorem dX11_readAll_44 : decode cX11_readAll 44 = .ok (.iload_n 1, 1) := by decide +kernel
theorem dX11_readAll_45 : decode cX11_readAll 45 = .ok (.iconst 1, 1) := by decide +kernel
theorem dX11_readAll_46 : decode cX11_readAll 46 = .ok (.bastore, 1) := by decide +kernel
theorem dX11_readAll_47 : decode cX11_readAll 47 = .ok (.aload_n 0, 1) := by decide +kernel
theorem dX11_readAll_48 : decode cX11_readAll 48 = .ok (.getfield 9, 3) := by decide +kernel
theorem dX11_readAll_51 : decode cX11_readAll 51 = .ok (.sipush 482, 3) := by decide +kernel
theorem dX11_readAll_54 : decode cX11_readAll 54 = .ok (.bipush 52, 2) := by decide +kernel
theorem dX11_readAll_56 : decode cX11_readAll 56 = .ok (.iload_n 3, 1) := by decide +kernel
theorem dX11_readAll_57 : decode cX11_readAll 57 = .ok (.imul, 1) := by decide +kernel
theorem dX11_readAll_58 : decode cX11_readAll 58 = .ok (.iadd, 1) := by decide +kernel
theorem dX11_readAll_59 : decode cX11_readAll 59 = .ok (.iaload, 1) := by decide +kernel
theorem dX11_readAll_60 : decode cX11_readAll 60 = .ok (.ifCond .ne 6, 3) := by decide +kernel
theorem dX11_readAll_63 : decode cX11_readAll 63 = .ok (.goto 70, 3) := by decide +kernel
theorem dX11_readAll_66 : decode cX11_readAll 66 = .ok (.aload_n 0, 1) := by decide +kernel
theorem dX11_readAll_67 : decode cX11_readAll 67 = .ok (.getfield 38, 3) := by decide +kernel
theorem dX11_readAll_70 : decode cX11_readAll 70 = .ok (.iconst 0, 1) := by decide +kernel
theorem dX11_readAll_71 : decode cX11_readAll 71 = .ok (.aload_n 0, 1) := by decide +kernel
theorem dX11_readAll_72 : decode cX11_readAll 72 = .ok (.iload_n 1, 1) := by decide +kernel
theorem dX11_readAll_73 : decode cX11_readAll 73 = .ok (.iconst 2, 1) := by decide +kernel
theorem dX11_readAll_74 : decode cX11_readAll 74 = .ok (.invokevirtual 87, 3) := by decide +kernel
theorem dX11_readAll_77 : decode cX11_readAll 77 = .ok (.iastore, 1) := by decide +kernel
theorem dX11_readAll_78 : decode cX11_readAll 78 = .ok (.aload_n 0, 1) := by decide +kernel
theorem dX11_readAll_79 : decode cX11_readAll 79 = .ok (.getfield 38, 3) := by decide +kernel
theorem dX11_readAll_82 : decode cX11_readAll 82 = .ok (.iconst 1, 1) := by decide +kernel
theorem dX11_readAll_83 : decode cX11_readAll 83 = .ok (.aload_n 0, 1) := by decide +kernel
theorem dX11_readAll_84 : decode cX11_readAll 84 = .ok (.iload_n 1, 1) := by decide +kernel
theorem dX11_readAll_85 : decode cX11_readAll 85 = .ok (.invokevirtual 105, 3) := by decide +kernel
theorem dX11_readAll_88 : decode cX11_readAll 88 = .ok (.iastore, 1) := by decide +kernel
theorem dX11_readAll_89 : decode cX11_readAll 89 = .ok (.aload_n 0, 1) := by decide +kernel
theorem dX11_readAll_90 : decode cX11_readAll 90 = .ok (.getfield 38, 3) := by decide +kernel
theorem dX11_readAll_93 : decode cX11_readAll 93 = .ok (.iconst 2, 1) := by decide +kernel
theorem dX11_readAll_94 : decode cX11_readAll 94 = .ok (.aload_n 0, 1) := by decide +kernel
theorem dX11_readAll_95 : decode cX11_readAll 95 = .ok (.getfield 19, 3) := by decide +kernel
theorem dX11_readAll_98 : decode cX11_readAll 98 = .ok (.iload_n 1, 1) := by decide +kernel
theorem dX11_readAll_99 : decode cX11_readAll 99 = .ok (.iaload, 1) := by decide +kernel
theorem dX11_readAll_100 : decode cX11_readAll 100 = .ok (.sipush 240, 3) := by decide +kernel
theorem dX11_readAll_103 : decode cX11_readAll 103 = .ok (.invokestatic 111, 3) := by decide +kernel
theorem dX11_readAll_106 : decode cX11_readAll 106 = .ok (.iastore, 1) := by decide +kernel
theorem dX11_readAll_107 : decode cX11_readAll 107 = .ok (.aload_n 0, 1) := by decide +kernel
theorem dX11_readAll_108 : decode cX11_readAll 108 = .ok (.getfield 38, 3) := by decide +kernel
theorem dX11_readAll_111 : decode cX11_readAll 111 = .ok (.iconst 3, 1) := by decide +kernel
theorem dX11_readAll_112 : decode cX11_readAll 112 = .ok (.iload_n 2, 1) := by decide +kernel
theorem dX11_readAll_113 : decode cX11_readAll 113 = .ok (.iastore, 1) := by decide +kernel
theorem dX11_readAll_114 : decode cX11_readAll 114 = .ok (.aload_n 0, 1) := by decide +kernel
theorem dX11_readAll_115 : decode cX11_readAll 115 = .ok (.getfield 22, 3) := by decide +kernel
theorem dX11_readAll_118 : decode cX11_readAll 118 = .ok (.iload_n 1, 1) := by decide +kernel
theorem dX11_readAll_119 : decode cX11_readAll 119 = .ok (.aload_n 0, 1) := by decide +kernel
theorem dX11_readAll_120 : decode cX11_readAll 120 = .ok (.iload_n 3, 1) := by decide +kernel
theorem dX11_readAll_121 : decode cX11_readAll 121 = .ok (.invokevirtual 114, 3) := by decide +kernel
theorem dX11_readAll_124 : decode cX11_readAll 124 = .ok (.ifCond .eq 7, 3) := by decide +kernel
theorem dX11_readAll_127 : decode cX11_readAll 127 = .ok (.iconst 1, 1) := by decide +kernel
theorem dX11_readAll_128 : decode cX11_readAll 128 = .ok (.goto 4, 3) := by decide +kernel
theorem dX11_readAll_131 : decode cX11_readAll 131 = .ok (.iconst 0, 1) := by decide +kernel
theorem dX11_readAll_132 : decode cX11_readAll 132 = .ok (.bastore, 1) := by decide +kernel
theorem dX11_readAll_133 : decode cX11_readAll 133 = .ok (.iinc 1 1, 3) := by decide +kernel
theorem dX11_readAll_136 : decode cX11_readAll 136 = .ok (.goto (-134), 3) := by decide +kernel
theorem dX11_readAll_139 : decode cX11_readAll 139 = .ok (.return_, 1) := by decide +kernel
theorem dX11_isCounted_0 : decode cX11_isCounted 0 = .ok (.aload_n 0, 1) := by decide +kernel
theorem dX11_isCounted_1 : decode cX11_isCounted 1 = .ok (.iload_n 1, 1) := by decide +kernel
theorem dX11_isCounted_2 : decode cX11_isCounted 2 = .ok (.iconst 0, 1) := by decide +kernel
theorem dX11_isCounted_3 : decode cX11_isCounted 3 = .ok (.invokevirtual 87, 3) := by decide +kernel
theorem dX11_isCounted_6 : decode cX11_isCounted 6 = .ok (.iload_n 2, 1) := by decide +kernel
theorem dX11_isCounted_7 : decode cX11_isCounted 7 = .ok (.if_icmp .ne 26, 3) := by decide +kernel
theorem dX11_isCounted_10 : decode cX11_isCounted 10 = .ok (.aload_n 0, 1) := by decide +kernel
theorem dX11_isCounted_11 : decode cX11_isCounted 11 = .ok (.iload_n 1, 1) := by decide +kernel
theorem dX11_isCounted_12 : decode cX11_isCounted 12 = .ok (.iconst 2, 1) := by decide +kernel
theorem dX11_isCounted_13 : decode cX11_isCounted 13 = .ok (.invokevirtual 87, 3) := by decide +kernel
theorem dX11_isCounted_16 : decode cX11_isCounted 16 = .ok (.iload_n 3, 1) := by decide +kernel
theorem dX11_isCounted_17 : decode cX11_isCounted 17 = .ok (.if_icmp .le 16, 3) := by decide +kernel
theorem dX11_isCounted_20 : decode cX11_isCounted 20 = .ok (.aload_n 0, 1) := by decide +kernel
theorem dX11_isCounted_21 : decode cX11_isCounted 21 = .ok (.getfield 22, 3) := by decide +kernel
theorem dX11_isCounted_24 : decode cX11_isCounted 24 = .ok (.iload_n 1, 1) := by decide +kernel
theorem dX11_isCounted_25 : decode cX11_isCounted 25 = .ok (.baload, 1) := by decide +kernel
theorem dX11_isCounted_26 : decode cX11_isCounted 26 = .ok (.ifCond .eq 7, 3) := by decide +kernel
theorem dX11_isCounted_29 : decode cX11_isCounted 29 = .ok (.iconst 1, 1) := by decide +kernel
theorem dX11_isCounted_30 : decode cX11_isCounted 30 = .ok (.goto 4, 3) := by decide +kernel
theorem dX11_isCounted_33 : decode cX11_isCounted 33 = .ok (.iconst 0, 1) := by decide +kernel
theorem dX11_isCounted_34 : decode cX11_isCounted 34 = .ok (.ireturn, 1) := by decide +kernel
theorem dX11_counts_0 : decode cX11_counts 0 = .ok (.aload_n 0, 1) := by decide +kernel
theorem dX11_counts_1 : decode cX11_counts 1 = .ok (.iload_n 1, 1) := by decide +kernel
theorem dX11_counts_2 : decode cX11_counts 2 = .ok (.invokevirtual 97, 3) := by decide +kernel
theorem dX11_counts_5 : decode cX11_counts 5 = .ok (.ifCond .eq 10, 3) := by decide +kernel
theorem dX11_counts_8 : decode cX11_counts 8 = .ok (.iload_n 2, 1) := by decide +kernel
theorem dX11_counts_9 : decode cX11_counts 9 = .ok (.invokestatic 117, 3) := by decide +kernel
theorem dX11_counts_12 : decode cX11_counts 12 = .ok (.ifCond .ne 9, 3) := by decide +kernel
theorem dX11_counts_15 : decode cX11_counts 15 = .ok (.aload_n 0, 1) := by decide +kernel
theorem dX11_counts_16 : decode cX11_counts 16 = .ok (.iconst 1, 1) := by decide +kernel
theorem dX11_counts_17 : decode cX11_counts 17 = .ok (.invokevirtual 73, 3) := by decide +kernel
theorem dX11_counts_20 : decode cX11_counts 20 = .ok (.ireturn, 1) := by decide +kernel
theorem dX11_counts_21 : decode cX11_counts 21 = .ok (.aload_n 0, 1) := by decide +kernel
theorem dX11_counts_22 : decode cX11_counts 22 = .ok (.invokevirtual 120, 3) := by decide +kernel
theorem dX11_counts_25 : decode cX11_counts 25 = .ok (.aload_n 0, 1) := by decide +kernel
theorem dX11_counts_26 : decode cX11_counts 26 = .ok (.iload_n 1, 1) := by decide +kernel
theorem dX11_counts_27 : decode cX11_counts 27 = .ok (.aload_n 0, 1) := by decide +kernel
theorem dX11_counts_28 : decode cX11_counts 28 = .ok (.iload_n 1, 1) := by decide +kernel
theorem dX11_counts_29 : decode cX11_counts 29 = .ok (.iconst 0, 1) := by decide +kernel
theorem dX11_counts_30 : decode cX11_counts 30 = .ok (.invokevirtual 87, 3) := by decide +kernel
theorem dX11_counts_33 : decode cX11_counts 33 = .ok (.iload_n 2, 1) := by decide +kernel
theorem dX11_counts_34 : decode cX11_counts 34 = .ok (.invokevirtual 123, 3) := by decide +kernel
theorem dX11_counts_37 : decode cX11_counts 37 = .ok (.ifCond .eq 7, 3) := by decide +kernel
theorem dX11_counts_40 : decode cX11_counts 40 = .ok (.iconst 1, 1) := by decide +kernel
theorem dX11_counts_41 : decode cX11_counts 41 = .ok (.goto 4, 3) := by decide +kernel
theorem dX11_counts_44 : decode cX11_counts 44 = .ok (.iconst 0, 1) := by decide +kernel
theorem dX11_counts_45 : decode cX11_counts 45 = .ok (.ireturn, 1) := by decide +kernel
theorem dX11_isMet_0 : decode cX11_isMet 0 = .ok (.iconst 0, 1) := by decide +kernel
theorem dX11_isMet_1 : decode cX11_isMet 1 = .ok (.istore 6, 2) := by decide +kernel
theorem dX11_isMet_3 : decode cX11_isMet 3 = .ok (.iload 6, 2) := by decide +kernel
theorem dX11_isMet_5 : decode cX11_isMet 5 = .ok (.aload_n 0, 1) := by decide +kernel
theorem dX11_isMet_6 : decode cX11_isMet 6 = .ok (.getfield 9, 3) := by decide +kernel
theorem dX11_isMet_9 : decode cX11_isMet 9 = .ok (.iconst 1, 1) := by decide +kernel
theorem dX11_isMet_10 : decode cX11_isMet 10 = .ok (.iaload, 1) := by decide +kernel
theorem dX11_isMet_11 : decode cX11_isMet 11 = .ok (.if_icmp .ge 53, 3) := by decide +kernel
theorem dX11_isMet_14 : decode cX11_isMet 14 = .ok (.aload_n 0, 1) := by decide +kernel
theorem dX11_isMet_15 : decode cX11_isMet 15 = .ok (.iload 6, 2) := by decide +kernel
theorem dX11_isMet_17 : decode cX11_isMet 17 = .ok (.iload_n 2, 1) := by decide +kernel
theorem dX11_isMet_18 : decode cX11_isMet 18 = .ok (.iload_n 3, 1) := by decide +kernel
theorem dX11_isMet_19 : decode cX11_isMet 19 = .ok (.invokevirtual 123, 3) := by decide +kernel
theorem dX11_isMet_22 : decode cX11_isMet 22 = .ok (.ifCond .eq 36, 3) := by decide +kernel
theorem dX11_isMet_25 : decode cX11_isMet 25 = .ok (.aload_n 0, 1) := by decide +kernel
theorem dX11_isMet_26 : decode cX11_isMet 26 = .ok (.getfield 19, 3) := by decide +kernel
theorem dX11_isMet_29 : decode cX11_isMet 29 = .ok (.iload_n 1, 1) := by decide +kernel
theorem dX11_isMet_30 : decode cX11_isMet 30 = .ok (.iaload, 1) := by decide +kernel
theorem dX11_isMet_31 : decode cX11_isMet 31 = .ok (.aload_n 0, 1) := by decide +kernel
theorem dX11_isMet_32 : decode cX11_isMet 32 = .ok (.getfield 19, 3) := by decide +kernel
theorem dX11_isMet_35 : decode cX11_isMet 35 = .ok (.iload 6, 2) := by decide +kernel
theorem dX11_isMet_37 : decode cX11_isMet 37 = .ok (.iaload, 1) := by decide +kernel
theorem dX11_isMet_38 : decode cX11_isMet 38 = .ok (.isub, 1) := by decide +kernel
theorem dX11_isMet_39 : decode cX11_isMet 39 = .ok (.iload 5, 2) := by decide +kernel
theorem dX11_isMet_41 : decode cX11_isMet 41 = .ok (.isub, 1) := by decide +kernel
theorem dX11_isMet_42 : decode cX11_isMet 42 = .ok (.i2l, 1) := by decide +kernel
theorem dX11_isMet_43 : decode cX11_isMet 43 = .ok (.iload 4, 2) := by decide +kernel
theorem dX11_isMet_45 : decode cX11_isMet 45 = .ok (.ineg, 1) := by decide +kernel
theorem dX11_isMet_46 : decode cX11_isMet 46 = .ok (.i2l, 1) := by decide +kernel
theorem dX11_isMet_47 : decode cX11_isMet 47 = .ok (.iload 4, 2) := by decide +kernel
theorem dX11_isMet_49 : decode cX11_isMet 49 = .ok (.i2l, 1) := by decide +kernel
theorem dX11_isMet_50 : decode cX11_isMet 50 = .ok (.invokestatic 57, 3) := by decide +kernel
theorem dX11_isMet_53 : decode cX11_isMet 53 = .ok (.ifCond .eq 5, 3) := by decide +kernel
theorem dX11_isMet_56 : decode cX11_isMet 56 = .ok (.iconst 1, 1) := by decide +kernel
theorem dX11_isMet_57 : decode cX11_isMet 57 = .ok (.ireturn, 1) := by decide +kernel
theorem dX11_isMet_58 : decode cX11_isMet 58 = .ok (.iinc 6 1, 3) := by decide +kernel
theorem dX11_isMet_61 : decode cX11_isMet 61 = .ok (.goto (-58), 3) := by decide +kernel
theorem dX11_isMet_64 : decode cX11_isMet 64 = .ok (.iconst 0, 1) := by decide +kernel
theorem dX11_isMet_65 : decode cX11_isMet 65 = .ok (.ireturn, 1) := by decide +kernel
theorem dX11_met_0 : decode cX11_met 0 = .ok (.iconst 0, 1) := by decide +kernel
theorem dX11_met_1 : decode cX11_met 1 = .ok (.istore 5, 2) := by decide +kernel
theorem dX11_met_3 : decode cX11_met 3 = .ok (.iconst 0, 1) := by decide +kernel
theorem dX11_met_4 : decode cX11_met 4 = .ok (.istore 6, 2) := by decide +kernel
theorem dX11_met_6 : decode cX11_met 6 = .ok (.iload 6, 2) := by decide +kernel
theorem dX11_met_8 : decode cX11_met 8 = .ok (.aload_n 0, 1) := by decide +kernel
theorem dX11_met_9 : decode cX11_met 9 = .ok (.getfield 9, 3) := by decide +kernel
theorem dX11_met_12 : decode cX11_met 12 = .ok (.iconst 1, 1) := by decide +kernel
theorem dX11_met_13 : decode cX11_met 13 = .ok (.iaload, 1) := by decide +kernel
theorem dX11_met_14 : decode cX11_met 14 = .ok (.if_icmp .ge 50, 3) := by decide +kernel
theorem dX11_met_17 : decode cX11_met 17 = .ok (.iload 5, 2) := by decide +kernel
theorem dX11_met_19 : decode cX11_met 19 = .ok (.aload_n 0, 1) := by decide +kernel
theorem dX11_met_20 : decode cX11_met 20 = .ok (.iload 6, 2) := by decide +kernel
theorem dX11_met_22 : decode cX11_met 22 = .ok (.iload_n 1, 1) := by decide +kernel
theorem dX11_met_23 : decode cX11_met 23 = .ok (.bipush 10, 2) := by decide +kernel
theorem dX11_met_25 : decode cX11_met 25 = .ok (.idiv, 1) := by decide +kernel
theorem dX11_met_26 : decode cX11_met 26 = .ok (.iload_n 2, 1) := by decide +kernel
theorem dX11_met_27 : decode cX11_met 27 = .ok (.invokevirtual 123, 3) := by decide +kernel
theorem dX11_met_30 : decode cX11_met 30 = .ok (.ifCond .eq 24, 3) := by decide +kernel
theorem dX11_met_33 : decode cX11_met 33 = .ok (.aload_n 0, 1) := by decide +kernel
theorem dX11_met_34 : decode cX11_met 34 = .ok (.iload 6, 2) := by decide +kernel
theorem dX11_met_36 : decode cX11_met 36 = .ok (.iload_n 1, 1) := by decide +kernel
theorem dX11_met_37 : decode cX11_met 37 = .ok (.bipush 10, 2) := by decide +kernel
theorem dX11_met_39 : decode cX11_met 39 = .ok (.irem, 1) := by decide +kernel
theorem dX11_met_40 : decode cX11_met 40 = .ok (.iload_n 2, 1) := by decide +kernel
theorem dX11_met_41 : decode cX11_met 41 = .ok (.iload_n 3, 1) := by decide +kernel
theorem dX11_met_42 : decode cX11_met 42 = .ok (.iload 4, 2) := by decide +kernel
theorem dX11_met_44 : decode cX11_met 44 = .ok (.invokevirtual 127, 3) := by decide +kernel
theorem dX11_met_47 : decode cX11_met 47 = .ok (.ifCond .eq 7, 3) := by decide +kernel
theorem dX11_met_50 : decode cX11_met 50 = .ok (.iconst 1, 1) := by decide +kernel
theorem dX11_met_51 : decode cX11_met 51 = .ok (.goto 4, 3) := by decide +kernel
theorem dX11_met_54 : decode cX11_met 54 = .ok (.iconst 0, 1) := by decide +kernel
theorem dX11_met_55 : decode cX11_met 55 = .ok (.iadd, 1) := by decide +kernel
theorem dX11_met_56 : decode cX11_met 56 = .ok (.istore 5, 2) := by decide +kernel
theorem dX11_met_58 : decode cX11_met 58 = .ok (.iinc 6 1, 3) := by decide +kernel
theorem dX11_met_61 : decode cX11_met 61 = .ok (.goto (-55), 3) := by decide +kernel
theorem dX11_met_64 : decode cX11_met 64 = .ok (.iload 5, 2) := by decide +kernel
theorem dX11_met_66 : decode cX11_met 66 = .ok (.ireturn, 1) := by decide +kernel
theorem dX11_meets_0 : decode cX11_meets 0 = .ok (.aload_n 0, 1) := by decide +kernel
theorem dX11_meets_1 : decode cX11_meets 1 = .ok (.iload_n 1, 1) := by decide +kernel
theorem dX11_meets_2 : decode cX11_meets 2 = .ok (.invokevirtual 131, 3) := by decide +kernel
theorem dX11_meets_5 : decode cX11_meets 5 = .ok (.ifCond .eq 32, 3) := by decide +kernel
theorem dX11_meets_8 : decode cX11_meets 8 = .ok (.iload_n 2, 1) := by decide +kernel
theorem dX11_meets_9 : decode cX11_meets 9 = .ok (.invokestatic 117, 3) := by decide +kernel
theorem dX11_meets_12 : decode cX11_meets 12 = .ok (.ifCond .eq 25, 3) := by decide +kernel
theorem dX11_meets_15 : decode cX11_meets 15 = .ok (.iload_n 3, 1) := by decide +kernel
theorem dX11_meets_16 : decode cX11_meets 16 = .ok (.invokestatic 134, 3) := by decide +kernel
theorem dX11_meets_19 : decode cX11_meets 19 = .ok (.ifCond .eq 18, 3) := by decide +kernel
theorem dX11_meets_22 : decode cX11_meets 22 = .ok (.iload 4, 2) := by decide +kernel
theorem dX11_meets_24 : decode cX11_meets 24 = .ok (.i2l, 1) := by decide +kernel
theorem dX11_meets_25 : decode cX11_meets 25 = .ok (.ldc2_w 137, 3) := by decide +kernel
theorem dX11_meets_28 : decode cX11_meets 28 = .ok (.ldc2_w 77, 3) := by decide +kernel
theorem dX11_meets_31 : decode cX11_meets 31 = .ok (.invokestatic 57, 3) := by decide +kernel
theorem dX11_meets_34 : decode cX11_meets 34 = .ok (.ifCond .ne 9, 3) := by decide +kernel
theorem dX11_meets_37 : decode cX11_meets 37 = .ok (.aload_n 0, 1) := by decide +kernel
theorem dX11_meets_38 : decode cX11_meets 38 = .ok (.iconst 1, 1) := by decide +kernel
theorem dX11_meets_39 : decode cX11_meets 39 = .ok (.invokevirtual 73, 3) := by decide +kernel
theorem dX11_meets_42 : decode cX11_meets 42 = .ok (.ireturn, 1) := by decide +kernel
theorem dX11_meets_43 : decode cX11_meets 43 = .ok (.aload_n 0, 1) := by decide +kernel
theorem dX11_meets_44 : decode cX11_meets 44 = .ok (.invokevirtual 120, 3) := by decide +kernel
theorem dX11_meets_47 : decode cX11_meets 47 = .ok (.aload_n 0, 1) := by decide +kernel
theorem dX11_meets_48 : decode cX11_meets 48 = .ok (.iload_n 1, 1) := by decide +kernel
theorem dX11_meets_49 : decode cX11_meets 49 = .ok (.iload_n 2, 1) := by decide +kernel
theorem dX11_meets_50 : decode cX11_meets 50 = .ok (.iload_n 3, 1) := by decide +kernel
theorem dX11_meets_51 : decode cX11_meets 51 = .ok (.iload 4, 2) := by decide +kernel
theorem dX11_meets_53 : decode cX11_meets 53 = .ok (.invokevirtual 139, 3) := by decide +kernel
theorem dX11_meets_56 : decode cX11_meets 56 = .ok (.ireturn, 1) := by decide +kernel
theorem dX11_isSheet_0 : decode cX11_isSheet 0 = .ok (.iload_n 0, 1) := by decide +kernel
theorem dX11_isSheet_1 : decode cX11_isSheet 1 = .ok (.i2l, 1) := by decide +kernel
theorem dX11_isSheet_2 : decode cX11_isSheet 2 = .ok (.lconst 0, 1) := by decide +kernel
theorem dX11_isSheet_3 : decode cX11_isSheet 3 = .ok (.ldc2_w 143, 3) := by decide +kernel
theorem dX11_isSheet_6 : decode cX11_isSheet 6 = .ok (.invokestatic 57, 3) := by decide +kernel
theorem dX11_isSheet_9 : decode cX11_isSheet 9 = .ok (.ireturn, 1) := by decide +kernel
theorem dX11_rows_0 : decode cX11_rows 0 = .ok (.aload_n 0, 1) := by decide +kernel
theorem dX11_rows_1 : decode cX11_rows 1 = .ok (.iload_n 1, 1) := by decide +kernel
theorem dX11_rows_2 : decode cX11_rows 2 = .ok (.invokevirtual 65, 3) := by decide +kernel
theorem dX11_rows_5 : decode cX11_rows 5 = .ok (.ifCond .eq 10, 3) := by decide +kernel
theorem dX11_rows_8 : decode cX11_rows 8 = .ok (.iload_n 2, 1) := by decide +kernel
theorem dX11_rows_9 : decode cX11_rows 9 = .ok (.invokestatic 145, 3) := by decide +kernel
theorem dX11_rows_12 : decode cX11_rows 12 = .ok (.ifCond .ne 9, 3) := by decide +kernel
theorem dX11_rows_15 : decode cX11_rows 15 = .ok (.aload_n 0, 1) := by decide +kernel
theorem dX11_rows_16 : decode cX11_rows 16 = .ok (.iconst 1, 1) := by decide +kernel
theorem dX11_rows_17 : decode cX11_rows 17 = .ok (.invokevirtual 73, 3) := by decide +kernel
theorem dX11_rows_20 : decode cX11_rows 20 = .ok (.ireturn, 1) := by decide +kernel
theorem dX11_rows_21 : decode cX11_rows 21 = .ok (.aload_n 0, 1) := by decide +kernel
theorem dX11_rows_22 : decode cX11_rows 22 = .ok (.getfield 26, 3) := by decide +kernel
theorem dX11_rows_25 : decode cX11_rows 25 = .ok (.iload_n 2, 1) := by decide +kernel
theorem dX11_rows_26 : decode cX11_rows 26 = .ok (.iaload, 1) := by decide +kernel
theorem dX11_rows_27 : decode cX11_rows 27 = .ok (.ifCond .ne 9, 3) := by decide +kernel
theorem dX11_rows_30 : decode cX11_rows 30 = .ok (.aload_n 0, 1) := by decide +kernel
theorem dX11_rows_31 : decode cX11_rows 31 = .ok (.iconst 2, 1) := by decide +kernel
theorem dX11_rows_32 : decode cX11_rows 32 = .ok (.invokevirtual 73, 3) := by decide +kernel
theorem dX11_rows_35 : decode cX11_rows 35 = .ok (.ireturn, 1) := by decide +kernel
theorem dX11_rows_36 : decode cX11_rows 36 = .ok (.iconst 0, 1) := by decide +kernel
theorem dX11_rows_37 : decode cX11_rows 37 = .ok (.istore_n 3, 1) := by decide +kernel
theorem dX11_rows_38 : decode cX11_rows 38 = .ok (.iconst 0, 1) := by decide +kernel
theorem dX11_rows_39 : decode cX11_rows 39 = .ok (.istore 4, 2) := by decide +kernel
theorem dX11_rows_41 : decode cX11_rows 41 = .ok (.iload 4, 2) := by decide +kernel
theorem dX11_rows_43 : decode cX11_rows 43 = .ok (.iconst 1, 1) := by decide +kernel
theorem dX11_rows_44 : decode cX11_rows 44 = .ok (.iadd, 1) := by decide +kernel
theorem dX11_rows_45 : decode cX11_rows 45 = .ok (.aload_n 0, 1) := by decide +kernel
theorem dX11_rows_46 : decode cX11_rows 46 = .ok (.getfield 29, 3) := by decide +kernel
theorem dX11_rows_49 : decode cX11_rows 49 = .ok (.iload_n 2, 1) := by decide +kernel
theorem dX11_rows_50 : decode cX11_rows 50 = .ok (.iaload, 1) := by decide +kernel
theorem dX11_rows_51 : decode cX11_rows 51 = .ok (.if_icmp .ge 74, 3) := by decide +kernel
theorem dX11_rows_54 : decode cX11_rows 54 = .ok (.aload_n 0, 1) := by decide +kernel
theorem dX11_rows_55 : decode cX11_rows 55 = .ok (.getfield 32, 3) := by decide +kernel
theorem dX11_rows_58 : decode cX11_rows 58 = .ok (.bipush 40, 2) := by decide +kernel
theorem dX11_rows_60 : decode cX11_rows 60 = .ok (.iload_n 2, 1) := by decide +kernel
theorem dX11_rows_61 : decode cX11_rows 61 = .ok (.imul, 1) := by decide +kernel
theorem dX11_rows_62 : decode cX11_rows 62 = .ok (.iload 4, 2) := by decide +kernel
theorem dX11_rows_64 : decode cX11_rows 64 = .ok (.iadd, 1) := by decide +kernel
theorem dX11_rows_65 : decode cX11_rows 65 = .ok (.iaload, 1) := by decide +kernel
theorem dX11_rows_66 : decode cX11_rows 66 = .ok (.istore 5, 2) := by decide +kernel
theorem dX11_rows_68 : decode cX11_rows 68 = .ok (.aload_n 0, 1) := by decide +kernel
theorem dX11_rows_69 : decode cX11_rows 69 = .ok (.getfield 32, 3) := by decide +kernel
theorem dX11_rows_72 : decode cX11_rows 72 = .ok (.bipush 40, 2) := by decide +kernel
theorem dX11_rows_74 : decode cX11_rows 74 = .ok (.iload_n 2, 1) := by decide +kernel
theorem dX11_rows_75 : decode cX11_rows 75 = .ok (.imul, 1) := by decide +kernel
theorem dX11_rows_76 : decode cX11_rows 76 = .ok (.iload 4, 2) := by decide +kernel
theorem dX11_rows_78 : decode cX11_rows 78 = .ok (.iadd, 1) := by decide +kernel
theorem dX11_rows_79 : decode cX11_rows 79 = .ok (.iconst 1, 1) := by decide +kernel
theorem dX11_rows_80 : decode cX11_rows 80 = .ok (.iadd, 1) := by decide +kernel
theorem dX11_rows_81 : decode cX11_rows 81 = .ok (.iaload, 1) := by decide +kernel
theorem dX11_rows_82 : decode cX11_rows 82 = .ok (.istore 6, 2) := by decide +kernel
theorem dX11_rows_84 : decode cX11_rows 84 = .ok (.iload 5, 2) := by decide +kernel
theorem dX11_rows_86 : decode cX11_rows 86 = .ok (.iload 6, 2) := by decide +kernel
theorem dX11_rows_88 : decode cX11_rows 88 = .ok (.invokestatic 79, 3) := by decide +kernel
theorem dX11_rows_91 : decode cX11_rows 91 = .ok (.ifCond .eq 14, 3) := by decide +kernel
theorem dX11_rows_94 : decode cX11_rows 94 = .ok (.aload_n 0, 1) := by decide +kernel
theorem dX11_rows_95 : decode cX11_rows 95 = .ok (.getfield 9, 3) := by decide +kernel
theorem dX11_rows_98 : decode cX11_rows 98 = .ok (.iconst 1, 1) := by decide +kernel
theorem dX11_rows_99 : decode cX11_rows 99 = .ok (.iaload, 1) := by decide +kernel
theorem dX11_rows_100 : decode cX11_rows 100 = .ok (.bipush 96, 2) := by decide +kernel
theorem dX11_rows_102 : decode cX11_rows 102 = .ok (.if_icmp .ne 5, 3) := by decide +kernel
theorem dX11_rows_105 : decode cX11_rows 105 = .ok (.iload_n 3, 1) := by decide +kernel
theorem dX11_rows_106 : decode cX11_rows 106 = .ok (.ireturn, 1) := by decide +kernel
theorem dX11_rows_107 : decode cX11_rows 107 = .ok (.aload_n 0, 1) := by decide +kernel
theorem dX11_rows_108 : decode cX11_rows 108 = .ok (.iload_n 1, 1) := by decide +kernel
theorem dX11_rows_109 : decode cX11_rows 109 = .ok (.iload 5, 2) := by decide +kernel
theorem dX11_rows_111 : decode cX11_rows 111 = .ok (.iload 6, 2) := by decide +kernel
theorem dX11_rows_113 : decode cX11_rows 113 = .ok (.invokevirtual 83, 3) := by decide +kernel
theorem dX11_rows_116 : decode cX11_rows 116 = .ok (.iinc 3 1, 3) := by decide +kernel
theorem dX11_rows_119 : decode cX11_rows 119 = .ok (.iinc 4 2, 3) := by decide +kernel
theorem dX11_rows_122 : decode cX11_rows 122 = .ok (.goto (-81), 3) := by decide +kernel
theorem dX11_rows_125 : decode cX11_rows 125 = .ok (.iload_n 3, 1) := by decide +kernel
theorem dX11_rows_126 : decode cX11_rows 126 = .ok (.ireturn, 1) := by decide +kernel
theorem dX11_feed_0 : decode cX11_feed 0 = .ok (.iload_n 3, 1) := by decide +kernel
theorem dX11_feed_1 : decode cX11_feed 1 = .ok (.i2l, 1) := by decide +kernel
theorem dX11_feed_2 : decode cX11_feed 2 = .ok (.lconst 1, 1) := by decide +kernel
theorem dX11_feed_3 : decode cX11_feed 3 = .ok (.ldc2_w 148, 3) := by decide +kernel
theorem dX11_feed_6 : decode cX11_feed 6 = .ok (.invokestatic 57, 3) := by decide +kernel
theorem dX11_feed_9 : decode cX11_feed 9 = .ok (.ifCond .ne 9, 3) := by decide +kernel
theorem dX11_feed_12 : decode cX11_feed 12 = .ok (.aload_n 0, 1) := by decide +kernel
theorem dX11_feed_13 : decode cX11_feed 13 = .ok (.iconst 1, 1) := by decide +kernel
theorem dX11_feed_14 : decode cX11_feed 14 = .ok (.invokevirtual 73, 3) := by decide +kernel
theorem dX11_feed_17 : decode cX11_feed 17 = .ok (.ireturn, 1) := by decide +kernel
theorem dX11_feed_18 : decode cX11_feed 18 = .ok (.aload_n 0, 1) := by decide +kernel
theorem dX11_feed_19 : decode cX11_feed 19 = .ok (.getfield 9, 3) := by decide +kernel
theorem dX11_feed_22 : decode cX11_feed 22 = .ok (.bipush 6, 2) := by decide +kernel
theorem dX11_feed_24 : decode cX11_feed 24 = .ok (.iaload, 1) := by decide +kernel
theorem dX11_feed_25 : decode cX11_feed 25 = .ok (.iload_n 3, 1) := by decide +kernel
theorem dX11_feed_26 : decode cX11_feed 26 = .ok (.iadd, 1) := by decide +kernel
theorem dX11_feed_27 : decode cX11_feed 27 = .ok (.bipush 50, 2) := by decide +kernel
theorem dX11_feed_29 : decode cX11_feed 29 = .ok (.if_icmp .le 9, 3) := by decide +kernel
theorem dX11_feed_32 : decode cX11_feed 32 = .ok (.aload_n 0, 1) := by decide +kernel
theorem dX11_feed_33 : decode cX11_feed 33 = .ok (.iconst 4, 1) := by decide +kernel
theorem dX11_feed_34 : decode cX11_feed 34 = .ok (.invokevirtual 73, 3) := by decide +kernel
theorem dX11_feed_37 : decode cX11_feed 37 = .ok (.ireturn, 1) := by decide +kernel
theorem dX11_feed_38 : decode cX11_feed 38 = .ok (.iconst 0, 1) := by decide +kernel
theorem dX11_feed_39 : decode cX11_feed 39 = .ok (.istore 4, 2) := by decide +kernel
theorem dX11_feed_41 : decode cX11_feed 41 = .ok (.iload 4, 2) := by decide +kernel
theorem dX11_feed_43 : decode cX11_feed 43 = .ok (.iload_n 3, 1) := by decide +kernel
theorem dX11_feed_44 : decode cX11_feed 44 = .ok (.if_icmp .ge 48, 3) := by decide +kernel
theorem dX11_feed_47 : decode cX11_feed 47 = .ok (.aload_n 0, 1) := by decide +kernel
theorem dX11_feed_48 : decode cX11_feed 48 = .ok (.getfield 9, 3) := by decide +kernel
theorem dX11_feed_51 : decode cX11_feed 51 = .ok (.sipush 412, 3) := by decide +kernel
theorem dX11_feed_54 : decode cX11_feed 54 = .ok (.aload_n 0, 1) := by decide +kernel
theorem dX11_feed_55 : decode cX11_feed 55 = .ok (.getfield 9, 3) := by decide +kernel
theorem dX11_feed_58 : decode cX11_feed 58 = .ok (.bipush 6, 2) := by decide +kernel
theorem dX11_feed_60 : decode cX11_feed 60 = .ok (.iaload, 1) := by decide +kernel
theorem dX11_feed_61 : decode cX11_feed 61 = .ok (.iadd, 1) := by decide +kernel
theorem dX11_feed_62 : decode cX11_feed 62 = .ok (.lload_n 1, 1) := by decide +kernel
theorem dX11_feed_63 : decode cX11_feed 63 = .ok (.bipush 8, 2) := by decide +kernel
theorem dX11_feed_65 : decode cX11_feed 65 = .ok (.iload 4, 2) := by decide +kernel
theorem dX11_feed_67 : decode cX11_feed 67 = .ok (.imul, 1) := by decide +kernel
theorem dX11_feed_68 : decode cX11_feed 68 = .ok (.lshr, 1) := by decide +kernel
theorem dX11_feed_69 : decode cX11_feed 69 = .ok (.ldc2_w 150, 3) := by decide +kernel
theorem dX11_feed_72 : decode cX11_feed 72 = .ok (.land, 1) := by decide +kernel
theorem dX11_feed_73 : decode cX11_feed 73 = .ok (.l2i, 1) := by decide +kernel
theorem dX11_feed_74 : decode cX11_feed 74 = .ok (.iastore, 1) := by decide +kernel
theorem dX11_feed_75 : decode cX11_feed 75 = .ok (.aload_n 0, 1) := by decide +kernel
theorem dX11_feed_76 : decode cX11_feed 76 = .ok (.getfield 9, 3) := by decide +kernel
theorem dX11_feed_79 : decode cX11_feed 79 = .ok (.bipush 6, 2) := by decide +kernel
theorem dX11_feed_81 : decode cX11_feed 81 = .ok (.dup2, 1) := by decide +kernel
theorem dX11_feed_82 : decode cX11_feed 82 = .ok (.iaload, 1) := by decide +kernel
theorem dX11_feed_83 : decode cX11_feed 83 = .ok (.iconst 1, 1) := by decide +kernel
theorem dX11_feed_84 : decode cX11_feed 84 = .ok (.iadd, 1) := by decide +kernel
theorem dX11_feed_85 : decode cX11_feed 85 = .ok (.iastore, 1) := by decide +kernel
theorem dX11_feed_86 : decode cX11_feed 86 = .ok (.iinc 4 1, 3) := by decide +kernel
theorem dX11_feed_89 : decode cX11_feed 89 = .ok (.goto (-48), 3) := by decide +kernel
theorem dX11_feed_92 : decode cX11_feed 92 = .ok (.aload_n 0, 1) := by decide +kernel
theorem dX11_feed_93 : decode cX11_feed 93 = .ok (.getfield 9, 3) := by decide +kernel
theorem dX11_feed_96 : decode cX11_feed 96 = .ok (.bipush 6, 2) := by decide +kernel
theorem dX11_feed_98 : decode cX11_feed 98 = .ok (.iaload, 1) := by decide +kernel
theorem dX11_feed_99 : decode cX11_feed 99 = .ok (.ireturn, 1) := by decide +kernel
theorem dX11_here_0 : decode cX11_here 0 = .ok (.aload_n 0, 1) := by decide +kernel
theorem dX11_here_1 : decode cX11_here 1 = .ok (.getfield 152, 3) := by decide +kernel
theorem dX11_here_4 : decode cX11_here 4 = .ok (.ifCond .ne 33, 3) := by decide +kernel
theorem dX11_here_7 : decode cX11_here 7 = .ok (.aload_n 0, 1) := by decide +kernel
theorem dX11_here_8 : decode cX11_here 8 = .ok (.getfield 156, 3) := by decide +kernel
theorem dX11_here_11 : decode cX11_here 11 = .ok (.aload_n 0, 1) := by decide +kernel
theorem dX11_here_12 : decode cX11_here 12 = .ok (.getfield 9, 3) := by decide +kernel
theorem dX11_here_15 : decode cX11_here 15 = .ok (.bipush 6, 2) := by decide +kernel
theorem dX11_here_17 : decode cX11_here 17 = .ok (.iaload, 1) := by decide +kernel
theorem dX11_here_18 : decode cX11_here 18 = .ok (.if_icmp .ge 19, 3) := by decide +kernel
theorem dX11_here_21 : decode cX11_here 21 = .ok (.aload_n 0, 1) := by decide +kernel
theorem dX11_here_22 : decode cX11_here 22 = .ok (.getfield 9, 3) := by decide +kernel
theorem dX11_here_25 : decode cX11_here 25 = .ok (.sipush 412, 3) := by decide +kernel
theorem dX11_here_28 : decode cX11_here 28 = .ok (.aload_n 0, 1) := by decide +kernel
theorem dX11_here_29 : decode cX11_here 29 = .ok (.getfield 156, 3) := by decide +kernel
theorem dX11_here_32 : decode cX11_here 32 = .ok (.iadd, 1) := by decide +kernel
theorem dX11_here_33 : decode cX11_here 33 = .ok (.iaload, 1) := by decide +kernel
theorem dX11_here_34 : decode cX11_here 34 = .ok (.goto 4, 3) := by decide +kernel
theorem dX11_here_37 : decode cX11_here 37 = .ok (.iconst (-1), 1) := by decide +kernel
theorem dX11_here_38 : decode cX11_here 38 = .ok (.ireturn, 1) := by decide +kernel
theorem dX11_isHere_0 : decode cX11_isHere 0 = .ok (.aload_n 0, 1) := by decide +kernel
theorem dX11_isHere_1 : decode cX11_isHere 1 = .ok (.invokevirtual 160, 3) := by decide +kernel
theorem dX11_isHere_4 : decode cX11_isHere 4 = .ok (.iload_n 1, 1) := by decide +kernel
theorem dX11_isHere_5 : decode cX11_isHere 5 = .ok (.if_icmp .eq 5, 3) := by decide +kernel
theorem dX11_isHere_8 : decode cX11_isHere 8 = .ok (.iconst 0, 1) := by decide +kernel
theorem dX11_isHere_9 : decode cX11_isHere 9 = .ok (.ireturn, 1) := by decide +kernel
theorem dX11_isHere_10 : decode cX11_isHere 10 = .ok (.aload_n 0, 1) := by decide +kernel
theorem dX11_isHere_11 : decode cX11_isHere 11 = .ok (.dup, 1) := by decide +kernel
theorem dX11_isHere_12 : decode cX11_isHere 12 = .ok (.getfield 156, 3) := by decide +kernel
theorem dX11_isHere_15 : decode cX11_isHere 15 = .ok (.iconst 1, 1) := by decide +kernel
theorem dX11_isHere_16 : decode cX11_isHere 16 = .ok (.iadd, 1) := by decide +kernel
theorem dX11_isHere_17 : decode cX11_isHere 17 = .ok (.putfield 156, 3) := by decide +kernel
theorem dX11_isHere_20 : decode cX11_isHere 20 = .ok (.iconst 1, 1) := by decide +kernel
theorem dX11_isHere_21 : decode cX11_isHere 21 = .ok (.ireturn, 1) := by decide +kernel
theorem dX11_puts_0 : decode cX11_puts 0 = .ok (.aload_n 0, 1) := by decide +kernel
theorem dX11_puts_1 : decode cX11_puts 1 = .ok (.getfield 152, 3) := by decide +kernel
theorem dX11_puts_4 : decode cX11_puts 4 = .ok (.ifCond .eq 4, 3) := by decide +kernel
theorem dX11_puts_7 : decode cX11_puts 7 = .ok (.return_, 1) := by decide +kernel
theorem dX11_puts_8 : decode cX11_puts 8 = .ok (.aload_n 0, 1) := by decide +kernel
theorem dX11_puts_9 : decode cX11_puts 9 = .ok (.getfield 35, 3) := by decide +kernel
theorem dX11_puts_12 : decode cX11_puts 12 = .ok (.aload_n 0, 1) := by decide +kernel
theorem dX11_puts_13 : decode cX11_puts 13 = .ok (.getfield 164, 3) := by decide +kernel
theorem dX11_puts_16 : decode cX11_puts 16 = .ok (.iload_n 1, 1) := by decide +kernel
theorem dX11_puts_17 : decode cX11_puts 17 = .ok (.iastore, 1) := by decide +kernel
theorem dX11_puts_18 : decode cX11_puts 18 = .ok (.aload_n 0, 1) := by decide +kernel
theorem dX11_puts_19 : decode cX11_puts 19 = .ok (.dup, 1) := by decide +kernel
theorem dX11_puts_20 : decode cX11_puts 20 = .ok (.getfield 164, 3) := by decide +kernel
theorem dX11_puts_23 : decode cX11_puts 23 = .ok (.iconst 1, 1) := by decide +kernel
theorem dX11_puts_24 : decode cX11_puts 24 = .ok (.iadd, 1) := by decide +kernel
theorem dX11_puts_25 : decode cX11_puts 25 = .ok (.putfield 164, 3) := by decide +kernel
theorem dX11_puts_28 : decode cX11_puts 28 = .ok (.return_, 1) := by decide +kernel
theorem dX11_nameOf_0 : decode cX11_nameOf 0 = .ok (.iload_n 0, 1) := by decide +kernel
theorem dX11_nameOf_1 : decode cX11_nameOf 1 = .ok (.iconst 2, 1) := by decide +kernel
theorem dX11_nameOf_2 : decode cX11_nameOf 2 = .ok (.if_icmp .le 25, 3) := by decide +kernel
theorem dX11_nameOf_5 : decode cX11_nameOf 5 = .ok (.iload_n 1, 1) := by decide +kernel
theorem dX11_nameOf_6 : decode cX11_nameOf 6 = .ok (.bipush 110, 2) := by decide +kernel
theorem dX11_nameOf_8 : decode cX11_nameOf 8 = .ok (.if_icmp .ne 7, 3) := by decide +kernel
theorem dX11_nameOf_11 : decode cX11_nameOf 11 = .ok (.iconst 0, 1) := by decide +kernel
theorem dX11_nameOf_12 : decode cX11_nameOf 12 = .ok (.goto 14, 3) := by decide +kernel
theorem dX11_nameOf_15 : decode cX11_nameOf 15 = .ok (.iload_n 1, 1) := by decide +kernel
theorem dX11_nameOf_16 : decode cX11_nameOf 16 = .ok (.bipush 121, 2) := by decide +kernel
theorem dX11_nameOf_18 : decode cX11_nameOf 18 = .ok (.if_icmp .ne 7, 3) := by decide +kernel
theorem dX11_nameOf_21 : decode cX11_nameOf 21 = .ok (.iconst 1, 1) := by decide +kernel
theorem dX11_nameOf_22 : decode cX11_nameOf 22 = .ok (.goto 4, 3) := by decide +kernel
theorem dX11_nameOf_25 : decode cX11_nameOf 25 = .ok (.iconst (-1), 1) := by decide +kernel
theorem dX11_nameOf_26 : decode cX11_nameOf 26 = .ok (.ireturn, 1) := by decide +kernel
theorem dX11_nameOf_27 : decode cX11_nameOf 27 = .ok (.iload_n 1, 1) := by decide +kernel
theorem dX11_nameOf_28 : decode cX11_nameOf 28 = .ok (.bipush 104, 2) := by decide +kernel
theorem dX11_nameOf_30 : decode cX11_nameOf 30 = .ok (.if_icmp .ne 7, 3) := by decide +kernel
theorem dX11_nameOf_33 : decode cX11_nameOf 33 = .ok (.iconst 0, 1) := by decide +kernel
theorem dX11_nameOf_34 : decode cX11_nameOf 34 = .ok (.goto 34, 3) := by decide +kernel
theorem dX11_nameOf_37 : decode cX11_nameOf 37 = .ok (.iload_n 1, 1) := by decide +kernel
theorem dX11_nameOf_38 : decode cX11_nameOf 38 = .ok (.bipush 103, 2) := by decide +kernel
theorem dX11_nameOf_40 : decode cX11_nameOf 40 = .ok (.if_icmp .ne 7, 3) := by decide +kernel
theorem dX11_nameOf_43 : decode cX11_nameOf 43 = .ok (.iconst 1, 1) := by decide +kernel
theorem dX11_nameOf_44 : decode cX11_nameOf 44 = .ok (.goto 24, 3) := by decide +kernel
theorem dX11_nameOf_47 : decode cX11_nameOf 47 = .ok (.iload_n 1, 1) := by decide +kernel
theorem dX11_nameOf_48 : decode cX11_nameOf 48 = .ok (.bipush 116, 2) := by decide +kernel
theorem dX11_nameOf_50 : decode cX11_nameOf 50 = .ok (.if_icmp .ne 7, 3) := by decide +kernel
theorem dX11_nameOf_53 : decode cX11_nameOf 53 = .ok (.iconst 2, 1) := by decide +kernel
theorem dX11_nameOf_54 : decode cX11_nameOf 54 = .ok (.goto 14, 3) := by decide +kernel
theorem dX11_nameOf_57 : decode cX11_nameOf 57 = .ok (.iload_n 1, 1) := by decide +kernel
theorem dX11_nameOf_58 : decode cX11_nameOf 58 = .ok (.bipush 98, 2) := by decide +kernel
theorem dX11_nameOf_60 : decode cX11_nameOf 60 = .ok (.if_icmp .ne 7, 3) := by decide +kernel
theorem dX11_nameOf_63 : decode cX11_nameOf 63 = .ok (.iconst 3, 1) := by decide +kernel
theorem dX11_nameOf_64 : decode cX11_nameOf 64 = .ok (.goto 4, 3) := by decide +kernel
theorem dX11_nameOf_67 : decode cX11_nameOf 67 = .ok (.iconst (-1), 1) := by decide +kernel
theorem dX11_nameOf_68 : decode cX11_nameOf 68 = .ok (.ireturn, 1) := by decide +kernel
theorem dX11_either_0 : decode cX11_either 0 = .ok (.aload_n 0, 1) := by decide +kernel
theorem dX11_either_1 : decode cX11_either 1 = .ok (.invokevirtual 167, 3) := by decide +kernel
theorem dX11_either_4 : decode cX11_either 4 = .ok (.aload_n 0, 1) := by decide +kernel
theorem dX11_either_5 : decode cX11_either 5 = .ok (.bipush 124, 2) := by decide +kernel
theorem dX11_either_7 : decode cX11_either 7 = .ok (.invokevirtual 170, 3) := by decide +kernel
theorem dX11_either_10 : decode cX11_either 10 = .ok (.ifCond .eq 17, 3) := by decide +kernel
theorem dX11_either_13 : decode cX11_either 13 = .ok (.aload_n 0, 1) := by decide +kernel
theorem dX11_either_14 : decode cX11_either 14 = .ok (.invokevirtual 167, 3) := by decide +kernel
theorem dX11_either_17 : decode cX11_either 17 = .ok (.aload_n 0, 1) := by decide +kernel
theorem dX11_either_18 : decode cX11_either 18 = .ok (.sipush 20124, 3) := by decide +kernel
theorem dX11_either_21 : decode cX11_either 21 = .ok (.invokevirtual 173, 3) := by decide +kernel
theorem dX11_either_24 : decode cX11_either 24 = .ok (.goto (-20), 3) := by decide +kernel
theorem dX11_either_27 : decode cX11_either 27 = .ok (.return_, 1) := by decide +kernel
theorem dX11_both_0 : decode cX11_both 0 = .ok (.aload_n 0, 1) := by decide +kernel
theorem dX11_both_1 : decode cX11_both 1 = .ok (.invokevirtual 177, 3) := by decide +kernel
theorem dX11_both_4 : decode cX11_both 4 = .ok (.aload_n 0, 1) := by decide +kernel
theorem dX11_both_5 : decode cX11_both 5 = .ok (.bipush 38, 2) := by decide +kernel
theorem dX11_both_7 : decode cX11_both 7 = .ok (.invokevirtual 170, 3) := by decide +kernel
theorem dX11_both_10 : decode cX11_both 10 = .ok (.ifCond .eq 17, 3) := by decide +kernel
theorem dX11_both_13 : decode cX11_both 13 = .ok (.aload_n 0, 1) := by decide +kernel
theorem dX11_both_14 : decode cX11_both 14 = .ok (.invokevirtual 177, 3) := by decide +kernel
theorem dX11_both_17 : decode cX11_both 17 = .ok (.aload_n 0, 1) := by decide +kernel
theorem dX11_both_18 : decode cX11_both 18 = .ok (.sipush 20038, 3) := by decide +kernel
theorem dX11_both_21 : decode cX11_both 21 = .ok (.invokevirtual 173, 3) := by decide +kernel
theorem dX11_both_24 : decode cX11_both 24 = .ok (.goto (-20), 3) := by decide +kernel
theorem dX11_both_27 : decode cX11_both 27 = .ok (.return_, 1) := by decide +kernel
theorem dX11_compared_0 : decode cX11_compared 0 = .ok (.aload_n 0, 1) := by decide +kernel
theorem dX11_compared_1 : decode cX11_compared 1 = .ok (.invokevirtual 180, 3) := by decide +kernel
theorem dX11_compared_4 : decode cX11_compared 4 = .ok (.aload_n 0, 1) := by decide +kernel
theorem dX11_compared_5 : decode cX11_compared 5 = .ok (.invokevirtual 160, 3) := by decide +kernel
theorem dX11_compared_8 : decode cX11_compared 8 = .ok (.istore_n 1, 1) := by decide +kernel
theorem dX11_compared_9 : decode cX11_compared 9 = .ok (.iload_n 1, 1) := by decide +kernel
theorem dX11_compared_10 : decode cX11_compared 10 = .ok (.bipush 60, 2) := by decide +kernel
theorem dX11_compared_12 : decode cX11_compared 12 = .ok (.if_icmp .eq 16, 3) := by decide +kernel
theorem dX11_compared_15 : decode cX11_compared 15 = .ok (.iload_n 1, 1) := by decide +kernel
theorem dX11_compared_16 : decode cX11_compared 16 = .ok (.bipush 61, 2) := by decide +kernel
theorem dX11_compared_18 : decode cX11_compared 18 = .ok (.if_icmp .eq 10, 3) := by decide +kernel
theorem dX11_compared_21 : decode cX11_compared 21 = .ok (.iload_n 1, 1) := by decide +kernel
theorem dX11_compared_22 : decode cX11_compared 22 = .ok (.bipush 62, 2) := by decide +kernel
theorem dX11_compared_24 : decode cX11_compared 24 = .ok (.if_icmp .eq 4, 3) := by decide +kernel
theorem dX11_compared_27 : decode cX11_compared 27 = .ok (.return_, 1) := by decide +kernel
theorem dX11_compared_28 : decode cX11_compared 28 = .ok (.aload_n 0, 1) := by decide +kernel
theorem dX11_compared_29 : decode cX11_compared 29 = .ok (.dup, 1) := by decide +kernel
theorem dX11_compared_30 : decode cX11_compared 30 = .ok (.getfield 156, 3) := by decide +kernel
theorem dX11_compared_33 : decode cX11_compared 33 = .ok (.iconst 1, 1) := by decide +kernel
theorem dX11_compared_34 : decode cX11_compared 34 = .ok (.iadd, 1) := by decide +kernel
theorem dX11_compared_35 : decode cX11_compared 35 = .ok (.putfield 156, 3) := by decide +kernel
theorem dX11_compared_38 : decode cX11_compared 38 = .ok (.aload_n 0, 1) := by decide +kernel
theorem dX11_compared_39 : decode cX11_compared 39 = .ok (.invokevirtual 180, 3) := by decide +kernel
theorem dX11_compared_42 : decode cX11_compared 42 = .ok (.aload_n 0, 1) := by decide +kernel
theorem dX11_compared_43 : decode cX11_compared 43 = .ok (.sipush 20000, 3) := by decide +kernel
theorem dX11_compared_46 : decode cX11_compared 46 = .ok (.iload_n 1, 1) := by decide +kernel
theorem dX11_compared_47 : decode cX11_compared 47 = .ok (.iadd, 1) := by decide +kernel
theorem dX11_compared_48 : decode cX11_compared 48 = .ok (.invokevirtual 173, 3) := by decide +kernel
theorem dX11_compared_51 : decode cX11_compared 51 = .ok (.return_, 1) := by decide +kernel
theorem dX11_sum_0 : decode cX11_sum 0 = .ok (.aload_n 0, 1) := by decide +kernel
theorem dX11_sum_1 : decode cX11_sum 1 = .ok (.invokevirtual 183, 3) := by decide +kernel
theorem dX11_sum_4 : decode cX11_sum 4 = .ok (.aload_n 0, 1) := by decide +kernel
theorem dX11_sum_5 : decode cX11_sum 5 = .ok (.invokevirtual 160, 3) := by decide +kernel
theorem dX11_sum_8 : decode cX11_sum 8 = .ok (.istore_n 1, 1) := by decide +kernel
theorem dX11_sum_9 : decode cX11_sum 9 = .ok (.iload_n 1, 1) := by decide +kernel
theorem dX11_sum_10 : decode cX11_sum 10 = .ok (.bipush 43, 2) := by decide +kernel
theorem dX11_sum_12 : decode cX11_sum 12 = .ok (.if_icmp .eq 9, 3) := by decide +kernel
theorem dX11_sum_15 : decode cX11_sum 15 = .ok (.iload_n 1, 1) := by decide +kernel
theorem dX11_sum_16 : decode cX11_sum 16 = .ok (.bipush 45, 2) := by decide +kernel
theorem dX11_sum_18 : decode cX11_sum 18 = .ok (.if_icmp .ne 34, 3) := by decide +kernel
theorem dX11_sum_21 : decode cX11_sum 21 = .ok (.aload_n 0, 1) := by decide +kernel
theorem dX11_sum_22 : decode cX11_sum 22 = .ok (.dup, 1) := by decide +kernel
theorem dX11_sum_23 : decode cX11_sum 23 = .ok (.getfield 156, 3) := by decide +kernel
theorem dX11_sum_26 : decode cX11_sum 26 = .ok (.iconst 1, 1) := by decide +kernel
theorem dX11_sum_27 : decode cX11_sum 27 = .ok (.iadd, 1) := by decide +kernel
theorem dX11_sum_28 : decode cX11_sum 28 = .ok (.putfield 156, 3) := by decide +kernel
theorem dX11_sum_31 : decode cX11_sum 31 = .ok (.aload_n 0, 1) := by decide +kernel
theorem dX11_sum_32 : decode cX11_sum 32 = .ok (.invokevirtual 183, 3) := by decide +kernel
theorem dX11_sum_35 : decode cX11_sum 35 = .ok (.aload_n 0, 1) := by decide +kernel
theorem dX11_sum_36 : decode cX11_sum 36 = .ok (.sipush 20000, 3) := by decide +kernel
theorem dX11_sum_39 : decode cX11_sum 39 = .ok (.iload_n 1, 1) := by decide +kernel
theorem dX11_sum_40 : decode cX11_sum 40 = .ok (.iadd, 1) := by decide +kernel
theorem dX11_sum_41 : decode cX11_sum 41 = .ok (.invokevirtual 173, 3) := by decide +kernel
theorem dX11_sum_44 : decode cX11_sum 44 = .ok (.aload_n 0, 1) := by decide +kernel
theorem dX11_sum_45 : decode cX11_sum 45 = .ok (.invokevirtual 160, 3) := by decide +kernel
theorem dX11_sum_48 : decode cX11_sum 48 = .ok (.istore_n 1, 1) := by decide +kernel
theorem dX11_sum_49 : decode cX11_sum 49 = .ok (.goto (-40), 3) := by decide +kernel
theorem dX11_sum_52 : decode cX11_sum 52 = .ok (.return_, 1) := by decide +kernel
theorem dX11_product_0 : decode cX11_product 0 = .ok (.aload_n 0, 1) := by decide +kernel
theorem dX11_product_1 : decode cX11_product 1 = .ok (.invokevirtual 186, 3) := by decide +kernel
theorem dX11_product_4 : decode cX11_product 4 = .ok (.aload_n 0, 1) := by decide +kernel
theorem dX11_product_5 : decode cX11_product 5 = .ok (.invokevirtual 160, 3) := by decide +kernel
theorem dX11_product_8 : decode cX11_product 8 = .ok (.istore_n 1, 1) := by decide +kernel
theorem dX11_product_9 : decode cX11_product 9 = .ok (.iload_n 1, 1) := by decide +kernel
theorem dX11_product_10 : decode cX11_product 10 = .ok (.bipush 42, 2) := by decide +kernel
theorem dX11_product_12 : decode cX11_product 12 = .ok (.if_icmp .eq 15, 3) := by decide +kernel
theorem dX11_product_15 : decode cX11_product 15 = .ok (.iload_n 1, 1) := by decide +kernel
theorem dX11_product_16 : decode cX11_product 16 = .ok (.bipush 47, 2) := by decide +kernel
theorem dX11_product_18 : decode cX11_product 18 = .ok (.if_icmp .eq 9, 3) := by decide +kernel
theorem dX11_product_21 : decode cX11_product 21 = .ok (.iload_n 1, 1) := by decide +kernel
theorem dX11_product_22 : decode cX11_product 22 = .ok (.bipush 37, 2) := by decide +kernel
theorem dX11_product_24 : decode cX11_product 24 = .ok (.if_icmp .ne 34, 3) := by decide +kernel
theorem dX11_product_27 : decode cX11_product 27 = .ok (.aload_n 0, 1) := by decide +kernel
theorem dX11_product_28 : decode cX11_product 28 = .ok (.dup, 1) := by decide +kernel
theorem dX11_product_29 : decode cX11_product 29 = .ok (.getfield 156, 3) := by decide +kernel
theorem dX11_product_32 : decode cX11_product 32 = .ok (.iconst 1, 1) := by decide +kernel
theorem dX11_product_33 : decode cX11_product 33 = .ok (.iadd, 1) := by decide +kernel
theorem dX11_product_34 : decode cX11_product 34 = .ok (.putfield 156, 3) := by decide +kernel
theorem dX11_product_37 : decode cX11_product 37 = .ok (.aload_n 0, 1) := by decide +kernel
theorem dX11_product_38 : decode cX11_product 38 = .ok (.invokevirtual 186, 3) := by decide +kernel
theorem dX11_product_41 : decode cX11_product 41 = .ok (.aload_n 0, 1) := by decide +kernel
theorem dX11_product_42 : decode cX11_product 42 = .ok (.sipush 20000, 3) := by decide +kernel
theorem dX11_product_45 : decode cX11_product 45 = .ok (.iload_n 1, 1) := by decide +kernel
theorem dX11_product_46 : decode cX11_product 46 = .ok (.iadd, 1) := by decide +kernel
theorem dX11_product_47 : decode cX11_product 47 = .ok (.invokevirtual 173, 3) := by decide +kernel
theorem dX11_product_50 : decode cX11_product 50 = .ok (.aload_n 0, 1) := by decide +kernel
theorem dX11_product_51 : decode cX11_product 51 = .ok (.invokevirtual 160, 3) := by decide +kernel
theorem dX11_product_54 : decode cX11_product 54 = .ok (.istore_n 1, 1) := by decide +kernel
theorem dX11_product_55 : decode cX11_product 55 = .ok (.goto (-46), 3) := by decide +kernel
theorem dX11_product_58 : decode cX11_product 58 = .ok (.return_, 1) := by decide +kernel
theorem dX11_one_0 : decode cX11_one 0 = .ok (.aload_n 0, 1) := by decide +kernel
theorem dX11_one_1 : decode cX11_one 1 = .ok (.invokevirtual 160, 3) := by decide +kernel
theorem dX11_one_4 : decode cX11_one 4 = .ok (.istore_n 1, 1) := by decide +kernel
theorem dX11_one_5 : decode cX11_one 5 = .ok (.iload_n 1, 1) := by decide +kernel
theorem dX11_one_6 : decode cX11_one 6 = .ok (.i2l, 1) := by decide +kernel
theorem dX11_one_7 : decode cX11_one 7 = .ok (.ldc2_w 189, 3) := by decide +kernel
theorem dX11_one_10 : decode cX11_one 10 = .ok (.ldc2_w 191, 3) := by decide +kernel
theorem dX11_one_13 : decode cX11_one 13 = .ok (.invokestatic 57, 3) := by decide +kernel
theorem dX11_one_16 : decode cX11_one 16 = .ok (.ifCond .eq 66, 3) := by decide +kernel
theorem dX11_one_19 : decode cX11_one 19 = .ok (.iconst 0, 1) := by decide +kernel
theorem dX11_one_20 : decode cX11_one 20 = .ok (.istore_n 2, 1) := by decide +kernel
theorem dX11_one_21 : decode cX11_one 21 = .ok (.iconst 0, 1) := by decide +kernel
theorem dX11_one_22 : decode cX11_one 22 = .ok (.istore_n 3, 1) := by decide +kernel
theorem dX11_one_23 : decode cX11_one 23 = .ok (.iload_n 3, 1) := by decide +kernel
theorem dX11_one_24 : decode cX11_one 24 = .ok (.iconst 4, 1) := by decide +kernel
theorem dX11_one_25 : decode cX11_one 25 = .ok (.if_icmp .ge 49, 3) := by decide +kernel
theorem dX11_one_28 : decode cX11_one 28 = .ok (.aload_n 0, 1) := by decide +kernel
theorem dX11_one_29 : decode cX11_one 29 = .ok (.invokevirtual 160, 3) := by decide +kernel
theorem dX11_one_32 : decode cX11_one 32 = .ok (.i2l, 1) := by decide +kernel
theorem dX11_one_33 : decode cX11_one 33 = .ok (.ldc2_w 189, 3) := by decide +kernel
theorem dX11_one_36 : decode cX11_one 36 = .ok (.ldc2_w 191, 3) := by decide +kernel
theorem dX11_one_39 : decode cX11_one 39 = .ok (.invokestatic 57, 3) := by decide +kernel
theorem dX11_one_42 : decode cX11_one 42 = .ok (.ifCond .eq 32, 3) := by decide +kernel
theorem dX11_one_45 : decode cX11_one 45 = .ok (.bipush 10, 2) := by decide +kernel
theorem dX11_one_47 : decode cX11_one 47 = .ok (.iload_n 2, 1) := by decide +kernel
theorem dX11_one_48 : decode cX11_one 48 = .ok (.imul, 1) := by decide +kernel
theorem dX11_one_49 : decode cX11_one 49 = .ok (.aload_n 0, 1) := by decide +kernel
theorem dX11_one_50 : decode cX11_one 50 = .ok (.invokevirtual 160, 3) := by decide +kernel
theorem dX11_one_53 : decode cX11_one 53 = .ok (.iadd, 1) := by decide +kernel
theorem dX11_one_54 : decode cX11_one 54 = .ok (.bipush 48, 2) := by decide +kernel
theorem dX11_one_56 : decode cX11_one 56 = .ok (.isub, 1) := by decide +kernel
theorem dX11_one_57 : decode cX11_one 57 = .ok (.istore_n 2, 1) := by decide +kernel
theorem dX11_one_58 : decode cX11_one 58 = .ok (.aload_n 0, 1) := by decide +kernel
theorem dX11_one_59 : decode cX11_one 59 = .ok (.dup, 1) := by decide +kernel
theorem dX11_one_60 : decode cX11_one 60 = .ok (.getfield 156, 3) := by decide +kernel
theorem dX11_one_63 : decode cX11_one 63 = .ok (.iconst 1, 1) := by decide +kernel
theorem dX11_one_64 : decode cX11_one 64 = .ok (.iadd, 1) := by decide +kernel
theorem dX11_one_65 : decode cX11_one 65 = .ok (.putfield 156, 3) := by decide +kernel
theorem dX11_one_68 : decode cX11_one 68 = .ok (.iinc 3 1, 3) := by decide +kernel
theorem dX11_one_71 : decode cX11_one 71 = .ok (.goto (-48), 3) := by decide +kernel
theorem dX11_one_74 : decode cX11_one 74 = .ok (.aload_n 0, 1) := by decide +kernel
theorem dX11_one_75 : decode cX11_one 75 = .ok (.iload_n 2, 1) := by decide +kernel
theorem dX11_one_76 : decode cX11_one 76 = .ok (.invokevirtual 173, 3) := by decide +kernel
theorem dX11_one_79 : decode cX11_one 79 = .ok (.goto 143, 3) := by decide +kernel
theorem dX11_one_82 : decode cX11_one 82 = .ok (.aload_n 0, 1) := by decide +kernel
theorem dX11_one_83 : decode cX11_one 83 = .ok (.getfield 193, 3) := by decide +kernel
theorem dX11_one_86 : decode cX11_one 86 = .ok (.iload_n 1, 1) := by decide +kernel
theorem dX11_one_87 : decode cX11_one 87 = .ok (.invokestatic 196, 3) := by decide +kernel
theorem dX11_one_90 : decode cX11_one 90 = .ok (.ifCond .lt 32, 3) := by decide +kernel
theorem dX11_one_93 : decode cX11_one 93 = .ok (.aload_n 0, 1) := by decide +kernel
theorem dX11_one_94 : decode cX11_one 94 = .ok (.dup, 1) := by decide +kernel
theorem dX11_one_95 : decode cX11_one 95 = .ok (.getfield 156, 3) := by decide +kernel
theorem dX11_one_98 : decode cX11_one 98 = .ok (.iconst 1, 1) := by decide +kernel
theorem dX11_one_99 : decode cX11_one 99 = .ok (.iadd, 1) := by decide +kernel
theorem dX11_one_100 : decode cX11_one 100 = .ok (.putfield 156, 3) := by decide +kernel
theorem dX11_one_103 : decode cX11_one 103 = .ok (.aload_n 0, 1) := by decide +kernel
theorem dX11_one_104 : decode cX11_one 104 = .ok (.sipush 10000, 3) := by decide +kernel
theorem dX11_one_107 : decode cX11_one 107 = .ok (.aload_n 0, 1) := by decide +kernel
theorem dX11_one_108 : decode cX11_one 108 = .ok (.getfield 193, 3) := by decide +kernel
theorem dX11_one_111 : decode cX11_one 111 = .ok (.iload_n 1, 1) := by decide +kernel
theorem dX11_one_112 : decode cX11_one 112 = .ok (.invokestatic 196, 3) := by decide +kernel
theorem dX11_one_115 : decode cX11_one 115 = .ok (.iadd, 1) := by decide +kernel
theorem dX11_one_116 : decode cX11_one 116 = .ok (.invokevirtual 173, 3) := by decide +kernel
theorem dX11_one_119 : decode cX11_one 119 = .ok (.goto 103, 3) := by decide +kernel
theorem dX11_one_122 : decode cX11_one 122 = .ok (.iload_n 1, 1) := by decide +kernel
theorem dX11_one_123 : decode cX11_one 123 = .ok (.bipush 33, 2) := by decide +kernel
theorem dX11_one_125 : decode cX11_one 125 = .ok (.if_icmp .eq 9, 3) := by decide +kernel
theorem dX11_one_128 : decode cX11_one 128 = .ok (.iload_n 1, 1) := by decide +kernel
theorem dX11_one_129 : decode cX11_one 129 = .ok (.bipush 40, 2) := by decide +kernel
theorem dX11_one_131 : decode cX11_one 131 = .ok (.if_icmp .ne 86, 3) := by decide +kernel
theorem dX11_one_134 : decode cX11_one 134 = .ok (.aload_n 0, 1) := by decide +kernel
theorem dX11_one_135 : decode cX11_one 135 = .ok (.getfield 199, 3) := by decide +kernel
theorem dX11_one_138 : decode cX11_one 138 = .ok (.iconst 5, 1) := by decide +kernel
theorem dX11_one_139 : decode cX11_one 139 = .ok (.if_icmp .ge 78, 3) := by decide +kernel
theorem dX11_one_142 : decode cX11_one 142 = .ok (.aload_n 0, 1) := by decide +kernel
theorem dX11_one_143 : decode cX11_one 143 = .ok (.dup, 1) := by decide +kernel
theorem dX11_one_144 : decode cX11_one 144 = .ok (.getfield 156, 3) := by decide +kernel
theorem dX11_one_147 : decode cX11_one 147 = .ok (.iconst 1, 1) := by decide +kernel
theorem dX11_one_148 : decode cX11_one 148 = .ok (.iadd, 1) := by decide +kernel
theorem dX11_one_149 : decode cX11_one 149 = .ok (.putfield 156, 3) := by decide +kernel
theorem dX11_one_152 : decode cX11_one 152 = .ok (.aload_n 0, 1) := by decide +kernel
theorem dX11_one_153 : decode cX11_one 153 = .ok (.dup, 1) := by decide +kernel
theorem dX11_one_154 : decode cX11_one 154 = .ok (.getfield 199, 3) := by decide +kernel
theorem dX11_one_157 : decode cX11_one 157 = .ok (.iconst 1, 1) := by decide +kernel
theorem dX11_one_158 : decode cX11_one 158 = .ok (.iadd, 1) := by decide +kernel
theorem dX11_one_159 : decode cX11_one 159 = .ok (.putfield 199, 3) := by decide +kernel
theorem dX11_one_162 : decode cX11_one 162 = .ok (.iload_n 1, 1) := by decide +kernel
theorem dX11_one_163 : decode cX11_one 163 = .ok (.bipush 33, 2) := by decide +kernel
theorem dX11_one_165 : decode cX11_one 165 = .ok (.if_icmp .ne 17, 3) := by decide +kernel
theorem dX11_one_168 : decode cX11_one 168 = .ok (.aload_n 0, 1) := by decide +kernel
theorem dX11_one_169 : decode cX11_one 169 = .ok (.invokevirtual 186, 3) := by decide +kernel
theorem dX11_one_172 : decode cX11_one 172 = .ok (.aload_n 0, 1) := by decide +kernel
theorem dX11_one_173 : decode cX11_one 173 = .ok (.sipush 20033, 3) := by decide +kernel
theorem dX11_one_176 : decode cX11_one 176 = .ok (.invokevirtual 173, 3) := by decide +kernel
theorem dX11_one_179 : decode cX11_one 179 = .ok (.goto 25, 3) := by decide +kernel
theorem dX11_one_182 : decode cX11_one 182 = .ok (.aload_n 0, 1) := by decide +kernel
theorem dX11_one_183 : decode cX11_one 183 = .ok (.invokevirtual 202, 3) := by decide +kernel
theorem dX11_one_186 : decode cX11_one 186 = .ok (.aload_n 0, 1) := by decide +kernel
theorem dX11_one_187 : decode cX11_one 187 = .ok (.aload_n 0, 1) := by decide +kernel
theorem dX11_one_188 : decode cX11_one 188 = .ok (.bipush 41, 2) := by decide +kernel
theorem dX11_one_190 : decode cX11_one 190 = .ok (.invokevirtual 170, 3) := by decide +kernel
theorem dX11_one_193 : decode cX11_one 193 = .ok (.ifCond .ne 7, 3) := by decide +kernel
theorem dX11_one_196 : decode cX11_one 196 = .ok (.iconst 1, 1) := by decide +kernel
theorem dX11_one_197 : decode cX11_one 197 = .ok (.goto 4, 3) := by decide +kernel
theorem dX11_one_200 : decode cX11_one 200 = .ok (.iconst 0, 1) := by decide +kernel
theorem dX11_one_201 : decode cX11_one 201 = .ok (.putfield 152, 3) := by decide +kernel
theorem dX11_one_204 : decode cX11_one 204 = .ok (.aload_n 0, 1) := by decide +kernel
theorem dX11_one_205 : decode cX11_one 205 = .ok (.dup, 1) := by decide +kernel
theorem dX11_one_206 : decode cX11_one 206 = .ok (.getfield 199, 3) := by decide +kernel
theorem dX11_one_209 : decode cX11_one 209 = .ok (.iconst 1, 1) := by decide +kernel
theorem dX11_one_210 : decode cX11_one 210 = .ok (.isub, 1) := by decide +kernel
theorem dX11_one_211 : decode cX11_one 211 = .ok (.putfield 199, 3) := by decide +kernel
theorem dX11_one_214 : decode cX11_one 214 = .ok (.goto 8, 3) := by decide +kernel
theorem dX11_one_217 : decode cX11_one 217 = .ok (.aload_n 0, 1) := by decide +kernel
theorem dX11_one_218 : decode cX11_one 218 = .ok (.iconst 1, 1) := by decide +kernel
theorem dX11_one_219 : decode cX11_one 219 = .ok (.putfield 152, 3) := by decide +kernel
theorem dX11_one_222 : decode cX11_one 222 = .ok (.return_, 1) := by decide +kernel
theorem dX11_text_0 : decode cX11_text 0 = .ok (.iload_n 1, 1) := by decide +kernel
theorem dX11_text_1 : decode cX11_text 1 = .ok (.i2l, 1) := by decide +kernel
theorem dX11_text_2 : decode cX11_text 2 = .ok (.lconst 0, 1) := by decide +kernel
theorem dX11_text_3 : decode cX11_text 3 = .ok (.ldc2_w 148, 3) := by decide +kernel
theorem dX11_text_6 : decode cX11_text 6 = .ok (.invokestatic 57, 3) := by decide +kernel
theorem dX11_text_9 : decode cX11_text 9 = .ok (.ifCond .ne 9, 3) := by decide +kernel
theorem dX11_text_12 : decode cX11_text 12 = .ok (.aload_n 0, 1) := by decide +kernel
theorem dX11_text_13 : decode cX11_text 13 = .ok (.iconst 1, 1) := by decide +kernel
theorem dX11_text_14 : decode cX11_text 14 = .ok (.invokevirtual 73, 3) := by decide +kernel
theorem dX11_text_17 : decode cX11_text 17 = .ok (.ireturn, 1) := by decide +kernel
theorem dX11_text_18 : decode cX11_text 18 = .ok (.aload_n 0, 1) := by decide +kernel
theorem dX11_text_19 : decode cX11_text 19 = .ok (.iconst 0, 1) := by decide +kernel
theorem dX11_text_20 : decode cX11_text 20 = .ok (.putfield 164, 3) := by decide +kernel
theorem dX11_text_23 : decode cX11_text 23 = .ok (.aload_n 0, 1) := by decide +kernel
theorem dX11_text_24 : decode cX11_text 24 = .ok (.iconst 0, 1) := by decide +kernel
theorem dX11_text_25 : decode cX11_text 25 = .ok (.putfield 156, 3) := by decide +kernel
theorem dX11_text_28 : decode cX11_text 28 = .ok (.aload_n 0, 1) := by decide +kernel
theorem dX11_text_29 : decode cX11_text 29 = .ok (.iconst 0, 1) := by decide +kernel
theorem dX11_text_30 : decode cX11_text 30 = .ok (.putfield 199, 3) := by decide +kernel
theorem dX11_text_33 : decode cX11_text 33 = .ok (.aload_n 0, 1) := by decide +kernel
theorem dX11_text_34 : decode cX11_text 34 = .ok (.iload_n 1, 1) := by decide +kernel
theorem dX11_text_35 : decode cX11_text 35 = .ok (.putfield 193, 3) := by decide +kernel
theorem dX11_text_38 : decode cX11_text 38 = .ok (.aload_n 0, 1) := by decide +kernel
theorem dX11_text_39 : decode cX11_text 39 = .ok (.iconst 0, 1) := by decide +kernel
theorem dX11_text_40 : decode cX11_text 40 = .ok (.putfield 152, 3) := by decide +kernel
theorem dX11_text_43 : decode cX11_text 43 = .ok (.aload_n 0, 1) := by decide +kernel
theorem dX11_text_44 : decode cX11_text 44 = .ok (.invokevirtual 202, 3) := by decide +kernel
theorem dX11_text_47 : decode cX11_text 47 = .ok (.aload_n 0, 1) := by decide +kernel
theorem dX11_text_48 : decode cX11_text 48 = .ok (.getfield 152, 3) := by decide +kernel
theorem dX11_text_51 : decode cX11_text 51 = .ok (.ifCond .ne 21, 3) := by decide +kernel
theorem dX11_text_54 : decode cX11_text 54 = .ok (.aload_n 0, 1) := by decide +kernel
theorem dX11_text_55 : decode cX11_text 55 = .ok (.getfield 156, 3) := by decide +kernel
theorem dX11_text_58 : decode cX11_text 58 = .ok (.aload_n 0, 1) := by decide +kernel
theorem dX11_text_59 : decode cX11_text 59 = .ok (.getfield 9, 3) := by decide +kernel
theorem dX11_text_62 : decode cX11_text 62 = .ok (.bipush 6, 2) := by decide +kernel
theorem dX11_text_64 : decode cX11_text 64 = .ok (.iaload, 1) := by decide +kernel
theorem dX11_text_65 : decode cX11_text 65 = .ok (.if_icmp .ne 7, 3) := by decide +kernel
theorem dX11_text_68 : decode cX11_text 68 = .ok (.iconst 1, 1) := by decide +kernel
theorem dX11_text_69 : decode cX11_text 69 = .ok (.goto 4, 3) := by decide +kernel
theorem dX11_text_72 : decode cX11_text 72 = .ok (.iconst 0, 1) := by decide +kernel
theorem dX11_text_73 : decode cX11_text 73 = .ok (.istore_n 2, 1) := by decide +kernel
theorem dX11_text_74 : decode cX11_text 74 = .ok (.aload_n 0, 1) := by decide +kernel
theorem dX11_text_75 : decode cX11_text 75 = .ok (.getfield 9, 3) := by decide +kernel
theorem dX11_text_78 : decode cX11_text 78 = .ok (.bipush 6, 2) := by decide +kernel
theorem dX11_text_80 : decode cX11_text 80 = .ok (.iconst 0, 1) := by decide +kernel
theorem dX11_text_81 : decode cX11_text 81 = .ok (.iastore, 1) := by decide +kernel
theorem dX11_text_82 : decode cX11_text 82 = .ok (.iload_n 2, 1) := by decide +kernel
theorem dX11_text_83 : decode cX11_text 83 = .ok (.ifCond .ne 11, 3) := by decide +kernel
theorem dX11_text_86 : decode cX11_text 86 = .ok (.bipush (-10), 2) := by decide +kernel
theorem dX11_text_88 : decode cX11_text 88 = .ok (.aload_n 0, 1) := by decide +kernel
theorem dX11_text_89 : decode cX11_text 89 = .ok (.getfield 156, 3) := by decide +kernel
theorem dX11_text_92 : decode cX11_text 92 = .ok (.isub, 1) := by decide +kernel
theorem dX11_text_93 : decode cX11_text 93 = .ok (.ireturn, 1) := by decide +kernel
theorem dX11_text_94 : decode cX11_text 94 = .ok (.sipush 482, 3) := by decide +kernel
theorem dX11_text_97 : decode cX11_text 97 = .ok (.bipush 52, 2) := by decide +kernel
theorem dX11_text_99 : decode cX11_text 99 = .ok (.iload_n 1, 1) := by decide +kernel
theorem dX11_text_100 : decode cX11_text 100 = .ok (.imul, 1) := by decide +kernel
theorem dX11_text_101 : decode cX11_text 101 = .ok (.iadd, 1) := by decide +kernel
theorem dX11_text_102 : decode cX11_text 102 = .ok (.istore_n 3, 1) := by decide +kernel
theorem dX11_text_103 : decode cX11_text 103 = .ok (.aload_n 0, 1) := by decide +kernel
theorem dX11_text_104 : decode cX11_text 104 = .ok (.getfield 9, 3) := by decide +kernel
theorem dX11_text_107 : decode cX11_text 107 = .ok (.iload_n 3, 1) := by decide +kernel
theorem dX11_text_108 : decode cX11_text 108 = .ok (.iconst 1, 1) := by decide +kernel
theorem dX11_text_109 : decode cX11_text 109 = .ok (.iastore, 1) := by decide +kernel
theorem dX11_text_110 : decode cX11_text 110 = .ok (.aload_n 0, 1) := by decide +kernel
theorem dX11_text_111 : decode cX11_text 111 = .ok (.getfield 9, 3) := by decide +kernel
theorem dX11_text_114 : decode cX11_text 114 = .ok (.iload_n 3, 1) := by decide +kernel
theorem dX11_text_115 : decode cX11_text 115 = .ok (.iconst 1, 1) := by decide +kernel
theorem dX11_text_116 : decode cX11_text 116 = .ok (.iadd, 1) := by decide +kernel
theorem dX11_text_117 : decode cX11_text 117 = .ok (.aload_n 0, 1) := by decide +kernel
theorem dX11_text_118 : decode cX11_text 118 = .ok (.getfield 164, 3) := by decide +kernel
theorem dX11_text_121 : decode cX11_text 121 = .ok (.iastore, 1) := by decide +kernel
theorem dX11_text_122 : decode cX11_text 122 = .ok (.iconst 0, 1) := by decide +kernel
theorem dX11_text_123 : decode cX11_text 123 = .ok (.istore 4, 2) := by decide +kernel
theorem dX11_text_125 : decode cX11_text 125 = .ok (.iload 4, 2) := by decide +kernel
theorem dX11_text_127 : decode cX11_text 127 = .ok (.aload_n 0, 1) := by decide +kernel
theorem dX11_text_128 : decode cX11_text 128 = .ok (.getfield 164, 3) := by decide +kernel
theorem dX11_text_131 : decode cX11_text 131 = .ok (.if_icmp .ge 27, 3) := by decide +kernel
theorem dX11_text_134 : decode cX11_text 134 = .ok (.aload_n 0, 1) := by decide +kernel
theorem dX11_text_135 : decode cX11_text 135 = .ok (.getfield 9, 3) := by decide +kernel
theorem dX11_text_138 : decode cX11_text 138 = .ok (.iload_n 3, 1) := by decide +kernel
theorem dX11_text_139 : decode cX11_text 139 = .ok (.iconst 2, 1) := by decide +kernel
theorem dX11_text_140 : decode cX11_text 140 = .ok (.iadd, 1) := by decide +kernel
theorem dX11_text_141 : decode cX11_text 141 = .ok (.iload 4, 2) := by decide +kernel
theorem dX11_text_143 : decode cX11_text 143 = .ok (.iadd, 1) := by decide +kernel
theorem dX11_text_144 : decode cX11_text 144 = .ok (.aload_n 0, 1) := by decide +kernel
theorem dX11_text_145 : decode cX11_text 145 = .ok (.getfield 35, 3) := by decide +kernel
theorem dX11_text_148 : decode cX11_text 148 = .ok (.iload 4, 2) := by decide +kernel
theorem dX11_text_150 : decode cX11_text 150 = .ok (.iaload, 1) := by decide +kernel
theorem dX11_text_151 : decode cX11_text 151 = .ok (.iastore, 1) := by decide +kernel
theorem dX11_text_152 : decode cX11_text 152 = .ok (.iinc 4 1, 3) := by decide +kernel
theorem dX11_text_155 : decode cX11_text 155 = .ok (.goto (-30), 3) := by decide +kernel
theorem dX11_text_158 : decode cX11_text 158 = .ok (.iconst 1, 1) := by decide +kernel
theorem dX11_text_159 : decode cX11_text 159 = .ok (.ireturn, 1) := by decide +kernel
theorem dX11_worked_0 : decode cX11_worked 0 = .ok (.iload_n 0, 1) := by decide +kernel
theorem dX11_worked_1 : decode cX11_worked 1 = .ok (.lookupswitch 168 #[(38, 97), (42, 152), (43, 144), (45, 148), (47, 156), (60, 111), (61, 122), (62, 133), (124, 83)], 83) := by decide +kernel
theorem dX11_worked_84 : decode cX11_worked 84 = .ok (.iload_n 1, 1) := by decide +kernel
theorem dX11_worked_85 : decode cX11_worked 85 = .ok (.ifCond .ne 7, 3) := by decide +kernel
theorem dX11_worked_88 : decode cX11_worked 88 = .ok (.iload_n 2, 1) := by decide +kernel
theorem dX11_worked_89 : decode cX11_worked 89 = .ok (.ifCond .eq 7, 3) := by decide +kernel
theorem dX11_worked_92 : decode cX11_worked 92 = .ok (.iconst 1, 1) := by decide +kernel
theorem dX11_worked_93 : decode cX11_worked 93 = .ok (.goto 4, 3) := by decide +kernel
theorem dX11_worked_96 : decode cX11_worked 96 = .ok (.iconst 0, 1) := by decide +kernel
theorem dX11_worked_97 : decode cX11_worked 97 = .ok (.ireturn, 1) := by decide +kernel
theorem dX11_worked_98 : decode cX11_worked 98 = .ok (.iload_n 1, 1) := by decide +kernel
theorem dX11_worked_99 : decode cX11_worked 99 = .ok (.ifCond .eq 11, 3) := by decide +kernel
theorem dX11_worked_102 : decode cX11_worked 102 = .ok (.iload_n 2, 1) := by decide +kernel
theorem dX11_worked_103 : decode cX11_worked 103 = .ok (.ifCond .eq 7, 3) := by decide +kernel
theorem dX11_worked_106 : decode cX11_worked 106 = .ok (.iconst 1, 1) := by decide +kernel
theorem dX11_worked_107 : decode cX11_worked 107 = .ok (.goto 4, 3) := by decide +kernel
theorem dX11_worked_110 : decode cX11_worked 110 = .ok (.iconst 0, 1) := by decide +kernel
theorem dX11_worked_111 : decode cX11_worked 111 = .ok (.ireturn, 1) := by decide +kernel
theorem dX11_worked_112 : decode cX11_worked 112 = .ok (.iload_n 1, 1) := by decide +kernel
theorem dX11_worked_113 : decode cX11_worked 113 = .ok (.iload_n 2, 1) := by decide +kernel
theorem dX11_worked_114 : decode cX11_worked 114 = .ok (.if_icmp .ge 7, 3) := by decide +kernel
theorem dX11_worked_117 : decode cX11_worked 117 = .ok (.iconst 1, 1) := by decide +kernel
theorem dX11_worked_118 : decode cX11_worked 118 = .ok (.goto 4, 3) := by decide +kernel
theorem dX11_worked_121 : decode cX11_worked 121 = .ok (.iconst 0, 1) := by decide +kernel
theorem dX11_worked_122 : decode cX11_worked 122 = .ok (.ireturn, 1) := by decide +kernel
theorem dX11_worked_123 : decode cX11_worked 123 = .ok (.iload_n 1, 1) := by decide +kernel
theorem dX11_worked_124 : decode cX11_worked 124 = .ok (.iload_n 2, 1) := by decide +kernel
theorem dX11_worked_125 : decode cX11_worked 125 = .ok (.if_icmp .ne 7, 3) := by decide +kernel
theorem dX11_worked_128 : decode cX11_worked 128 = .ok (.iconst 1, 1) := by decide +kernel
theorem dX11_worked_129 : decode cX11_worked 129 = .ok (.goto 4, 3) := by decide +kernel
theorem dX11_worked_132 : decode cX11_worked 132 = .ok (.iconst 0, 1) := by decide +kernel
theorem dX11_worked_133 : decode cX11_worked 133 = .ok (.ireturn, 1) := by decide +kernel
theorem dX11_worked_134 : decode cX11_worked 134 = .ok (.iload_n 1, 1) := by decide +kernel
theorem dX11_worked_135 : decode cX11_worked 135 = .ok (.iload_n 2, 1) := by decide +kernel
theorem dX11_worked_136 : decode cX11_worked 136 = .ok (.if_icmp .le 7, 3) := by decide +kernel
theorem dX11_worked_139 : decode cX11_worked 139 = .ok (.iconst 1, 1) := by decide +kernel
theorem dX11_worked_140 : decode cX11_worked 140 = .ok (.goto 4, 3) := by decide +kernel
theorem dX11_worked_143 : decode cX11_worked 143 = .ok (.iconst 0, 1) := by decide +kernel
theorem dX11_worked_144 : decode cX11_worked 144 = .ok (.ireturn, 1) := by decide +kernel
theorem dX11_worked_145 : decode cX11_worked 145 = .ok (.iload_n 1, 1) := by decide +kernel
theorem dX11_worked_146 : decode cX11_worked 146 = .ok (.iload_n 2, 1) := by decide +kernel
theorem dX11_worked_147 : decode cX11_worked 147 = .ok (.iadd, 1) := by decide +kernel
theorem dX11_worked_148 : decode cX11_worked 148 = .ok (.ireturn, 1) := by decide +kernel
theorem dX11_worked_149 : decode cX11_worked 149 = .ok (.iload_n 1, 1) := by decide +kernel
theorem dX11_worked_150 : decode cX11_worked 150 = .ok (.iload_n 2, 1) := by decide +kernel
theorem dX11_worked_151 : decode cX11_worked 151 = .ok (.isub, 1) := by decide +kernel
theorem dX11_worked_152 : decode cX11_worked 152 = .ok (.ireturn, 1) := by decide +kernel
theorem dX11_worked_153 : decode cX11_worked 153 = .ok (.iload_n 1, 1) := by decide +kernel
theorem dX11_worked_154 : decode cX11_worked 154 = .ok (.iload_n 2, 1) := by decide +kernel
theorem dX11_worked_155 : decode cX11_worked 155 = .ok (.imul, 1) := by decide +kernel
theorem dX11_worked_156 : decode cX11_worked 156 = .ok (.ireturn, 1) := by decide +kernel
theorem dX11_worked_157 : decode cX11_worked 157 = .ok (.iload_n 2, 1) := by decide +kernel
theorem dX11_worked_158 : decode cX11_worked 158 = .ok (.ifCond .ne 7, 3) := by decide +kernel
theorem dX11_worked_161 : decode cX11_worked 161 = .ok (.iconst 0, 1) := by decide +kernel
theorem dX11_worked_162 : decode cX11_worked 162 = .ok (.goto 6, 3) := by decide +kernel
theorem dX11_worked_165 : decode cX11_worked 165 = .ok (.iload_n 1, 1) := by decide +kernel
theorem dX11_worked_166 : decode cX11_worked 166 = .ok (.iload_n 2, 1) := by decide +kernel
theorem dX11_worked_167 : decode cX11_worked 167 = .ok (.idiv, 1) := by decide +kernel
theorem dX11_worked_168 : decode cX11_worked 168 = .ok (.ireturn, 1) := by decide +kernel
theorem dX11_worked_169 : decode cX11_worked 169 = .ok (.iload_n 2, 1) := by decide +kernel
theorem dX11_worked_170 : decode cX11_worked 170 = .ok (.ifCond .ne 7, 3) := by decide +kernel
theorem dX11_worked_173 : decode cX11_worked 173 = .ok (.iconst 0, 1) := by decide +kernel
theorem dX11_worked_174 : decode cX11_worked 174 = .ok (.goto 6, 3) := by decide +kernel
theorem dX11_worked_177 : decode cX11_worked 177 = .ok (.iload_n 1, 1) := by decide +kernel
theorem dX11_worked_178 : decode cX11_worked 178 = .ok (.iload_n 2, 1) := by decide +kernel
theorem dX11_worked_179 : decode cX11_worked 179 = .ok (.irem, 1) := by decide +kernel
theorem dX11_worked_180 : decode cX11_worked 180 = .ok (.ireturn, 1) := by decide +kernel
theorem dX11_says_0 : decode cX11_says 0 = .ok (.sipush 482, 3) := by decide +kernel
theorem dX11_says_3 : decode cX11_says 3 = .ok (.bipush 52, 2) := by decide +kernel
theorem dX11_says_5 : decode cX11_says 5 = .ok (.iload_n 1, 1) := by decide +kernel
theorem dX11_says_6 : decode cX11_says 6 = .ok (.imul, 1) := by decide +kernel
theorem dX11_says_7 : decode cX11_says 7 = .ok (.iadd, 1) := by decide +kernel
theorem dX11_says_8 : decode cX11_says 8 = .ok (.istore_n 2, 1) := by decide +kernel
theorem dX11_says_9 : decode cX11_says 9 = .ok (.iconst 0, 1) := by decide +kernel
theorem dX11_says_10 : decode cX11_says 10 = .ok (.istore_n 3, 1) := by decide +kernel
theorem dX11_says_11 : decode cX11_says 11 = .ok (.iconst 0, 1) := by decide +kernel
theorem dX11_says_12 : decode cX11_says 12 = .ok (.istore 4, 2) := by decide +kernel
theorem dX11_says_14 : decode cX11_says 14 = .ok (.iload 4, 2) := by decide +kernel
theorem dX11_says_16 : decode cX11_says 16 = .ok (.aload_n 0, 1) := by decide +kernel
theorem dX11_says_17 : decode cX11_says 17 = .ok (.getfield 9, 3) := by decide +kernel
theorem dX11_says_20 : decode cX11_says 20 = .ok (.iload_n 2, 1) := by decide +kernel
theorem dX11_says_21 : decode cX11_says 21 = .ok (.iconst 1, 1) := by decide +kernel
theorem dX11_says_22 : decode cX11_says 22 = .ok (.iadd, 1) := by decide +kernel
theorem dX11_says_23 : decode cX11_says 23 = .ok (.iaload, 1) := by decide +kernel
theorem dX11_says_24 : decode cX11_says 24 = .ok (.if_icmp .ge 135, 3) := by decide +kernel
theorem dX11_says_27 : decode cX11_says 27 = .ok (.aload_n 0, 1) := by decide +kernel
theorem dX11_says_28 : decode cX11_says 28 = .ok (.getfield 9, 3) := by decide +kernel
theorem dX11_says_31 : decode cX11_says 31 = .ok (.iload_n 2, 1) := by decide +kernel
theorem dX11_says_32 : decode cX11_says 32 = .ok (.iconst 2, 1) := by decide +kernel
theorem dX11_says_33 : decode cX11_says 33 = .ok (.iadd, 1) := by decide +kernel
theorem dX11_says_34 : decode cX11_says 34 = .ok (.iload 4, 2) := by decide +kernel
theorem dX11_says_36 : decode cX11_says 36 = .ok (.iadd, 1) := by decide +kernel
theorem dX11_says_37 : decode cX11_says 37 = .ok (.iaload, 1) := by decide +kernel
theorem dX11_says_38 : decode cX11_says 38 = .ok (.istore 5, 2) := by decide +kernel
theorem dX11_says_40 : decode cX11_says 40 = .ok (.iload 5, 2) := by decide +kernel
theorem dX11_says_42 : decode cX11_says 42 = .ok (.sipush 20000, 3) := by decide +kernel
theorem dX11_says_45 : decode cX11_says 45 = .ok (.if_icmp .ge 39, 3) := by decide +kernel
theorem dX11_says_48 : decode cX11_says 48 = .ok (.aload_n 0, 1) := by decide +kernel
theorem dX11_says_49 : decode cX11_says 49 = .ok (.getfield 41, 3) := by decide +kernel
theorem dX11_says_52 : decode cX11_says 52 = .ok (.iload_n 3, 1) := by decide +kernel
theorem dX11_says_53 : decode cX11_says 53 = .ok (.iload 5, 2) := by decide +kernel
theorem dX11_says_55 : decode cX11_says 55 = .ok (.sipush 10000, 3) := by decide +kernel
theorem dX11_says_58 : decode cX11_says 58 = .ok (.if_icmp .ge 8, 3) := by decide +kernel
theorem dX11_says_61 : decode cX11_says 61 = .ok (.iload 5, 2) := by decide +kernel
theorem dX11_says_63 : decode cX11_says 63 = .ok (.goto 14, 3) := by decide +kernel
theorem dX11_says_66 : decode cX11_says 66 = .ok (.aload_n 0, 1) := by decide +kernel
theorem dX11_says_67 : decode cX11_says 67 = .ok (.getfield 38, 3) := by decide +kernel
theorem dX11_says_70 : decode cX11_says 70 = .ok (.iload 5, 2) := by decide +kernel
theorem dX11_says_72 : decode cX11_says 72 = .ok (.sipush 10000, 3) := by decide +kernel
theorem dX11_says_75 : decode cX11_says 75 = .ok (.isub, 1) := by decide +kernel
theorem dX11_says_76 : decode cX11_says 76 = .ok (.iaload, 1) := by decide +kernel
theorem dX11_says_77 : decode cX11_says 77 = .ok (.iastore, 1) := by decide +kernel
theorem dX11_says_78 : decode cX11_says 78 = .ok (.iinc 3 1, 3) := by decide +kernel
theorem dX11_says_81 : decode cX11_says 81 = .ok (.goto 72, 3) := by decide +kernel
theorem dX11_says_84 : decode cX11_says 84 = .ok (.iload 5, 2) := by decide +kernel
theorem dX11_says_86 : decode cX11_says 86 = .ok (.sipush 20033, 3) := by decide +kernel
theorem dX11_says_89 : decode cX11_says 89 = .ok (.if_icmp .ne 30, 3) := by decide +kernel
theorem dX11_says_92 : decode cX11_says 92 = .ok (.aload_n 0, 1) := by decide +kernel
theorem dX11_says_93 : decode cX11_says 93 = .ok (.getfield 41, 3) := by decide +kernel
theorem dX11_says_96 : decode cX11_says 96 = .ok (.iload_n 3, 1) := by decide +kernel
theorem dX11_says_97 : decode cX11_says 97 = .ok (.iconst 1, 1) := by decide +kernel
theorem dX11_says_98 : decode cX11_says 98 = .ok (.isub, 1) := by decide +kernel
theorem dX11_says_99 : decode cX11_says 99 = .ok (.aload_n 0, 1) := by decide +kernel
theorem dX11_says_100 : decode cX11_says 100 = .ok (.getfield 41, 3) := by decide +kernel
theorem dX11_says_103 : decode cX11_says 103 = .ok (.iload_n 3, 1) := by decide +kernel
theorem dX11_says_104 : decode cX11_says 104 = .ok (.iconst 1, 1) := by decide +kernel
theorem dX11_says_105 : decode cX11_says 105 = .ok (.isub, 1) := by decide +kernel
theorem dX11_says_106 : decode cX11_says 106 = .ok (.iaload, 1) := by decide +kernel
theorem dX11_says_107 : decode cX11_says 107 = .ok (.ifCond .ne 7, 3) := by decide +kernel
theorem dX11_says_110 : decode cX11_says 110 = .ok (.iconst 1, 1) := by decide +kernel
theorem dX11_says_111 : decode cX11_says 111 = .ok (.goto 4, 3) := by decide +kernel
theorem dX11_says_114 : decode cX11_says 114 = .ok (.iconst 0, 1) := by decide +kernel
theorem dX11_says_115 : decode cX11_says 115 = .ok (.iastore, 1) := by decide +kernel
theorem dX11_says_116 : decode cX11_says 116 = .ok (.goto 37, 3) := by decide +kernel
theorem dX11_says_119 : decode cX11_says 119 = .ok (.iinc 3 (-1), 3) := by decide +kernel
theorem dX11_says_122 : decode cX11_says 122 = .ok (.aload_n 0, 1) := by decide +kernel
theorem dX11_says_123 : decode cX11_says 123 = .ok (.getfield 41, 3) := by decide +kernel
theorem dX11_says_126 : decode cX11_says 126 = .ok (.iload_n 3, 1) := by decide +kernel
theorem dX11_says_127 : decode cX11_says 127 = .ok (.iconst 1, 1) := by decide +kernel
theorem dX11_says_128 : decode cX11_says 128 = .ok (.isub, 1) := by decide +kernel
theorem dX11_says_129 : decode cX11_says 129 = .ok (.iload 5, 2) := by decide +kernel
theorem dX11_says_131 : decode cX11_says 131 = .ok (.sipush 20000, 3) := by decide +kernel
theorem dX11_says_134 : decode cX11_says 134 = .ok (.isub, 1) := by decide +kernel
theorem dX11_says_135 : decode cX11_says 135 = .ok (.aload_n 0, 1) := by decide +kernel
theorem dX11_says_136 : decode cX11_says 136 = .ok (.getfield 41, 3) := by decide +kernel
theorem dX11_says_139 : decode cX11_says 139 = .ok (.iload_n 3, 1) := by decide +kernel
theorem dX11_says_140 : decode cX11_says 140 = .ok (.iconst 1, 1) := by decide +kernel
theorem dX11_says_141 : decode cX11_says 141 = .ok (.isub, 1) := by decide +kernel
theorem dX11_says_142 : decode cX11_says 142 = .ok (.iaload, 1) := by decide +kernel
theorem dX11_says_143 : decode cX11_says 143 = .ok (.aload_n 0, 1) := by decide +kernel
theorem dX11_says_144 : decode cX11_says 144 = .ok (.getfield 41, 3) := by decide +kernel
theorem dX11_says_147 : decode cX11_says 147 = .ok (.iload_n 3, 1) := by decide +kernel
theorem dX11_says_148 : decode cX11_says 148 = .ok (.iaload, 1) := by decide +kernel
theorem dX11_says_149 : decode cX11_says 149 = .ok (.invokestatic 205, 3) := by decide +kernel
theorem dX11_says_152 : decode cX11_says 152 = .ok (.iastore, 1) := by decide +kernel
theorem dX11_says_153 : decode cX11_says 153 = .ok (.iinc 4 1, 3) := by decide +kernel
theorem dX11_says_156 : decode cX11_says 156 = .ok (.goto (-142), 3) := by decide +kernel
theorem dX11_says_159 : decode cX11_says 159 = .ok (.aload_n 0, 1) := by decide +kernel
theorem dX11_says_160 : decode cX11_says 160 = .ok (.getfield 41, 3) := by decide +kernel
theorem dX11_says_163 : decode cX11_says 163 = .ok (.iconst 0, 1) := by decide +kernel
theorem dX11_says_164 : decode cX11_says 164 = .ok (.iaload, 1) := by decide +kernel
theorem dX11_says_165 : decode cX11_says 165 = .ok (.ireturn, 1) := by decide +kernel
theorem dX11_lawOf_0 : decode cX11_lawOf 0 = .ok (.iconst 3, 1) := by decide +kernel
theorem dX11_lawOf_1 : decode cX11_lawOf 1 = .ok (.iload_n 1, 1) := by decide +kernel
theorem dX11_lawOf_2 : decode cX11_lawOf 2 = .ok (.iadd, 1) := by decide +kernel
theorem dX11_lawOf_3 : decode cX11_lawOf 3 = .ok (.istore 4, 2) := by decide +kernel
theorem dX11_lawOf_5 : decode cX11_lawOf 5 = .ok (.aload_n 0, 1) := by decide +kernel
theorem dX11_lawOf_6 : decode cX11_lawOf 6 = .ok (.getfield 9, 3) := by decide +kernel
theorem dX11_lawOf_9 : decode cX11_lawOf 9 = .ok (.sipush 482, 3) := by decide +kernel
theorem dX11_lawOf_12 : decode cX11_lawOf 12 = .ok (.bipush 52, 2) := by decide +kernel
theorem dX11_lawOf_14 : decode cX11_lawOf 14 = .ok (.iload 4, 2) := by decide +kernel
theorem dX11_lawOf_16 : decode cX11_lawOf 16 = .ok (.imul, 1) := by decide +kernel
theorem dX11_lawOf_17 : decode cX11_lawOf 17 = .ok (.iadd, 1) := by decide +kernel
theorem dX11_lawOf_18 : decode cX11_lawOf 18 = .ok (.iaload, 1) := by decide +kernel
theorem dX11_lawOf_19 : decode cX11_lawOf 19 = .ok (.ifCond .ne 5, 3) := by decide +kernel
theorem dX11_lawOf_22 : decode cX11_lawOf 22 = .ok (.iconst 1, 1) := by decide +kernel
theorem dX11_lawOf_23 : decode cX11_lawOf 23 = .ok (.ireturn, 1) := by decide +kernel
theorem dX11_lawOf_24 : decode cX11_lawOf 24 = .ok (.aload_n 0, 1) := by decide +kernel
theorem dX11_lawOf_25 : decode cX11_lawOf 25 = .ok (.getfield 38, 3) := by decide +kernel
theorem dX11_lawOf_28 : decode cX11_lawOf 28 = .ok (.iconst 0, 1) := by decide +kernel
theorem dX11_lawOf_29 : decode cX11_lawOf 29 = .ok (.iload_n 2, 1) := by decide +kernel
theorem dX11_lawOf_30 : decode cX11_lawOf 30 = .ok (.iastore, 1) := by decide +kernel
theorem dX11_lawOf_31 : decode cX11_lawOf 31 = .ok (.aload_n 0, 1) := by decide +kernel
theorem dX11_lawOf_32 : decode cX11_lawOf 32 = .ok (.getfield 38, 3) := by decide +kernel
theorem dX11_lawOf_35 : decode cX11_lawOf 35 = .ok (.iconst 1, 1) := by decide +kernel
theorem dX11_lawOf_36 : decode cX11_lawOf 36 = .ok (.iload_n 3, 1) := by decide +kernel
theorem dX11_lawOf_37 : decode cX11_lawOf 37 = .ok (.iastore, 1) := by decide +kernel
theorem dX11_lawOf_38 : decode cX11_lawOf 38 = .ok (.aload_n 0, 1) := by decide +kernel
theorem dX11_lawOf_39 : decode cX11_lawOf 39 = .ok (.iload 4, 2) := by decide +kernel
theorem dX11_lawOf_41 : decode cX11_lawOf 41 = .ok (.invokevirtual 114, 3) := by decide +kernel
theorem dX11_lawOf_44 : decode cX11_lawOf 44 = .ok (.istore 5, 2) := by decide +kernel
theorem dX11_lawOf_46 : decode cX11_lawOf 46 = .ok (.iload 5, 2) := by decide +kernel
theorem dX11_lawOf_48 : decode cX11_lawOf 48 = .ok (.ifCond .ge 7, 3) := by decide +kernel
theorem dX11_lawOf_51 : decode cX11_lawOf 51 = .ok (.iconst 0, 1) := by decide +kernel
theorem dX11_lawOf_52 : decode cX11_lawOf 52 = .ok (.goto 17, 3) := by decide +kernel
theorem dX11_lawOf_55 : decode cX11_lawOf 55 = .ok (.iload 5, 2) := by decide +kernel
theorem dX11_lawOf_57 : decode cX11_lawOf 57 = .ok (.bipush 9, 2) := by decide +kernel
theorem dX11_lawOf_59 : decode cX11_lawOf 59 = .ok (.if_icmp .le 8, 3) := by decide +kernel
theorem dX11_lawOf_62 : decode cX11_lawOf 62 = .ok (.bipush 9, 2) := by decide +kernel
theorem dX11_lawOf_64 : decode cX11_lawOf 64 = .ok (.goto 5, 3) := by decide +kernel
theorem dX11_lawOf_67 : decode cX11_lawOf 67 = .ok (.iload 5, 2) := by decide +kernel
theorem dX11_lawOf_69 : decode cX11_lawOf 69 = .ok (.ireturn, 1) := by decide +kernel
theorem dX11_isLaw_0 : decode cX11_isLaw 0 = .ok (.iload_n 0, 1) := by decide +kernel
theorem dX11_isLaw_1 : decode cX11_isLaw 1 = .ok (.i2l, 1) := by decide +kernel
theorem dX11_isLaw_2 : decode cX11_isLaw 2 = .ok (.lconst 0, 1) := by decide +kernel
theorem dX11_isLaw_3 : decode cX11_isLaw 3 = .ok (.ldc2_w 209, 3) := by decide +kernel
theorem dX11_isLaw_6 : decode cX11_isLaw 6 = .ok (.invokestatic 57, 3) := by decide +kernel
theorem dX11_isLaw_9 : decode cX11_isLaw 9 = .ok (.ireturn, 1) := by decide +kernel
theorem dX11_law_0 : decode cX11_law 0 = .ok (.iload_n 1, 1) := by decide +kernel
theorem dX11_law_1 : decode cX11_law 1 = .ok (.invokestatic 211, 3) := by decide +kernel
theorem dX11_law_4 : decode cX11_law 4 = .ok (.ifCond .eq 13, 3) := by decide +kernel
theorem dX11_law_7 : decode cX11_law 7 = .ok (.aload_n 0, 1) := by decide +kernel
theorem dX11_law_8 : decode cX11_law 8 = .ok (.iload_n 1, 1) := by decide +kernel
theorem dX11_law_9 : decode cX11_law 9 = .ok (.iload_n 2, 1) := by decide +kernel
theorem dX11_law_10 : decode cX11_law 10 = .ok (.iload_n 3, 1) := by decide +kernel
theorem dX11_law_11 : decode cX11_law 11 = .ok (.invokevirtual 214, 3) := by decide +kernel
theorem dX11_law_14 : decode cX11_law 14 = .ok (.goto 8, 3) := by decide +kernel
theorem dX11_law_17 : decode cX11_law 17 = .ok (.aload_n 0, 1) := by decide +kernel
theorem dX11_law_18 : decode cX11_law 18 = .ok (.iconst 1, 1) := by decide +kernel
theorem dX11_law_19 : decode cX11_law 19 = .ok (.invokevirtual 73, 3) := by decide +kernel
theorem dX11_law_22 : decode cX11_law 22 = .ok (.ireturn, 1) := by decide +kernel
theorem dX11_of_0 : decode cX11_of 0 = .ok (.aload_n 0, 1) := by decide +kernel
theorem dX11_of_1 : decode cX11_of 1 = .ok (.getfield 9, 3) := by decide +kernel
theorem dX11_of_4 : decode cX11_of 4 = .ok (.sipush 306, 3) := by decide +kernel
theorem dX11_of_7 : decode cX11_of 7 = .ok (.iconst 5, 1) := by decide +kernel
theorem dX11_of_8 : decode cX11_of 8 = .ok (.iload_n 1, 1) := by decide +kernel
theorem dX11_of_9 : decode cX11_of 9 = .ok (.imul, 1) := by decide +kernel
theorem dX11_of_10 : decode cX11_of 10 = .ok (.iadd, 1) := by decide +kernel
theorem dX11_of_11 : decode cX11_of 11 = .ok (.iload_n 2, 1) := by decide +kernel
theorem dX11_of_12 : decode cX11_of 12 = .ok (.iadd, 1) := by decide +kernel
theorem dX11_of_13 : decode cX11_of 13 = .ok (.iaload, 1) := by decide +kernel
theorem dX11_of_14 : decode cX11_of 14 = .ok (.ireturn, 1) := by decide +kernel
theorem dX11_counting_0 : decode cX11_counting 0 = .ok (.iload_n 1, 1) := by decide +kernel
theorem dX11_counting_1 : decode cX11_counting 1 = .ok (.i2l, 1) := by decide +kernel
theorem dX11_counting_2 : decode cX11_counting 2 = .ok (.lconst 0, 1) := by decide +kernel
theorem dX11_counting_3 : decode cX11_counting 3 = .ok (.ldc2_w 217, 3) := by decide +kernel
theorem dX11_counting_6 : decode cX11_counting 6 = .ok (.invokestatic 57, 3) := by decide +kernel
theorem dX11_counting_9 : decode cX11_counting 9 = .ok (.ifCond .eq 39, 3) := by decide +kernel
theorem dX11_counting_12 : decode cX11_counting 12 = .ok (.aload_n 0, 1) := by decide +kernel
theorem dX11_counting_13 : decode cX11_counting 13 = .ok (.iload_n 2, 1) := by decide +kernel
theorem dX11_counting_14 : decode cX11_counting 14 = .ok (.invokevirtual 131, 3) := by decide +kernel
theorem dX11_counting_17 : decode cX11_counting 17 = .ok (.ifCond .eq 31, 3) := by decide +kernel
theorem dX11_counting_20 : decode cX11_counting 20 = .ok (.iload_n 3, 1) := by decide +kernel
theorem dX11_counting_21 : decode cX11_counting 21 = .ok (.invokestatic 117, 3) := by decide +kernel
theorem dX11_counting_24 : decode cX11_counting 24 = .ok (.ifCond .eq 24, 3) := by decide +kernel
theorem dX11_counting_27 : decode cX11_counting 27 = .ok (.iload 4, 2) := by decide +kernel
theorem dX11_counting_29 : decode cX11_counting 29 = .ok (.invokestatic 134, 3) := by decide +kernel
theorem dX11_counting_32 : decode cX11_counting 32 = .ok (.ifCond .eq 16, 3) := by decide +kernel
theorem dX11_counting_35 : decode cX11_counting 35 = .ok (.iload 5, 2) := by decide +kernel
theorem dX11_counting_37 : decode cX11_counting 37 = .ok (.i2l, 1) := by decide +kernel
theorem dX11_counting_38 : decode cX11_counting 38 = .ok (.lconst 1, 1) := by decide +kernel
theorem dX11_counting_39 : decode cX11_counting 39 = .ok (.ldc2_w 61, 3) := by decide +kernel
theorem dX11_counting_42 : decode cX11_counting 42 = .ok (.invokestatic 57, 3) := by decide +kernel
theorem dX11_counting_45 : decode cX11_counting 45 = .ok (.ifCond .ne 9, 3) := by decide +kernel
theorem dX11_counting_48 : decode cX11_counting 48 = .ok (.aload_n 0, 1) := by decide +kernel
theorem dX11_counting_49 : decode cX11_counting 49 = .ok (.iconst 1, 1) := by decide +kernel
theorem dX11_counting_50 : decode cX11_counting 50 = .ok (.invokevirtual 73, 3) := by decide +kernel
theorem dX11_counting_53 : decode cX11_counting 53 = .ok (.ireturn, 1) := by decide +kernel
theorem dX11_counting_54 : decode cX11_counting 54 = .ok (.aload_n 0, 1) := by decide +kernel
theorem dX11_counting_55 : decode cX11_counting 55 = .ok (.getfield 9, 3) := by decide +kernel
theorem dX11_counting_58 : decode cX11_counting 58 = .ok (.iconst 2, 1) := by decide +kernel
theorem dX11_counting_59 : decode cX11_counting 59 = .ok (.iaload, 1) := by decide +kernel
theorem dX11_counting_60 : decode cX11_counting 60 = .ok (.istore 6, 2) := by decide +kernel
theorem dX11_counting_62 : decode cX11_counting 62 = .ok (.iload 6, 2) := by decide +kernel
theorem dX11_counting_64 : decode cX11_counting 64 = .ok (.bipush 12, 2) := by decide +kernel
theorem dX11_counting_66 : decode cX11_counting 66 = .ok (.if_icmp .ne 9, 3) := by decide +kernel
theorem dX11_counting_69 : decode cX11_counting 69 = .ok (.aload_n 0, 1) := by decide +kernel
theorem dX11_counting_70 : decode cX11_counting 70 = .ok (.iconst 4, 1) := by decide +kernel
theorem dX11_counting_71 : decode cX11_counting 71 = .ok (.invokevirtual 73, 3) := by decide +kernel
theorem dX11_counting_74 : decode cX11_counting 74 = .ok (.ireturn, 1) := by decide +kernel
theorem dX11_counting_75 : decode cX11_counting 75 = .ok (.sipush 306, 3) := by decide +kernel
theorem dX11_counting_78 : decode cX11_counting 78 = .ok (.iconst 5, 1) := by decide +kernel
theorem dX11_counting_79 : decode cX11_counting 79 = .ok (.iload 6, 2) := by decide +kernel
theorem dX11_counting_81 : decode cX11_counting 81 = .ok (.imul, 1) := by decide +kernel
theorem dX11_counting_82 : decode cX11_counting 82 = .ok (.iadd, 1) := by decide +kernel
theorem dX11_counting_83 : decode cX11_counting 83 = .ok (.istore 7, 2) := by decide +kernel
theorem dX11_counting_85 : decode cX11_counting 85 = .ok (.aload_n 0, 1) := by decide +kernel
theorem dX11_counting_86 : decode cX11_counting 86 = .ok (.getfield 9, 3) := by decide +kernel
theorem dX11_counting_89 : decode cX11_counting 89 = .ok (.iload 7, 2) := by decide +kernel
theorem dX11_counting_91 : decode cX11_counting 91 = .ok (.iload_n 1, 1) := by decide +kernel
theorem dX11_counting_92 : decode cX11_counting 92 = .ok (.iastore, 1) := by decide +kernel
theorem dX11_counting_93 : decode cX11_counting 93 = .ok (.aload_n 0, 1) := by decide +kernel
theorem dX11_counting_94 : decode cX11_counting 94 = .ok (.getfield 9, 3) := by decide +kernel
theorem dX11_counting_97 : decode cX11_counting 97 = .ok (.iload 7, 2) := by decide +kernel
theorem dX11_counting_99 : decode cX11_counting 99 = .ok (.iconst 1, 1) := by decide +kernel
theorem dX11_counting_100 : decode cX11_counting 100 = .ok (.iadd, 1) := by decide +kernel
theorem dX11_counting_101 : decode cX11_counting 101 = .ok (.iload_n 2, 1) := by decide +kernel
theorem dX11_counting_102 : decode cX11_counting 102 = .ok (.iastore, 1) := by decide +kernel
theorem dX11_counting_103 : decode cX11_counting 103 = .ok (.aload_n 0, 1) := by decide +kernel
theorem dX11_counting_104 : decode cX11_counting 104 = .ok (.getfield 9, 3) := by decide +kernel
theorem dX11_counting_107 : decode cX11_counting 107 = .ok (.iload 7, 2) := by decide +kernel
theorem dX11_counting_109 : decode cX11_counting 109 = .ok (.iconst 2, 1) := by decide +kernel
theorem dX11_counting_110 : decode cX11_counting 110 = .ok (.iadd, 1) := by decide +kernel
theorem dX11_counting_111 : decode cX11_counting 111 = .ok (.iload_n 3, 1) := by decide +kernel
theorem dX11_counting_112 : decode cX11_counting 112 = .ok (.iastore, 1) := by decide +kernel
theorem dX11_counting_113 : decode cX11_counting 113 = .ok (.aload_n 0, 1) := by decide +kernel
theorem dX11_counting_114 : decode cX11_counting 114 = .ok (.getfield 9, 3) := by decide +kernel
theorem dX11_counting_117 : decode cX11_counting 117 = .ok (.iload 7, 2) := by decide +kernel
theorem dX11_counting_119 : decode cX11_counting 119 = .ok (.iconst 3, 1) := by decide +kernel
theorem dX11_counting_120 : decode cX11_counting 120 = .ok (.iadd, 1) := by decide +kernel
theorem dX11_counting_121 : decode cX11_counting 121 = .ok (.iload 4, 2) := by decide +kernel
theorem dX11_counting_123 : decode cX11_counting 123 = .ok (.iastore, 1) := by decide +kernel
theorem dX11_counting_124 : decode cX11_counting 124 = .ok (.aload_n 0, 1) := by decide +kernel
theorem dX11_counting_125 : decode cX11_counting 125 = .ok (.getfield 9, 3) := by decide +kernel
theorem dX11_counting_128 : decode cX11_counting 128 = .ok (.iload 7, 2) := by decide +kernel
theorem dX11_counting_130 : decode cX11_counting 130 = .ok (.iconst 4, 1) := by decide +kernel
theorem dX11_counting_131 : decode cX11_counting 131 = .ok (.iadd, 1) := by decide +kernel
theorem dX11_counting_132 : decode cX11_counting 132 = .ok (.iload 5, 2) := by decide +kernel
theorem dX11_counting_134 : decode cX11_counting 134 = .ok (.iastore, 1) := by decide +kernel
theorem dX11_counting_135 : decode cX11_counting 135 = .ok (.aload_n 0, 1) := by decide +kernel
theorem dX11_counting_136 : decode cX11_counting 136 = .ok (.getfield 9, 3) := by decide +kernel
theorem dX11_counting_139 : decode cX11_counting 139 = .ok (.iconst 2, 1) := by decide +kernel
theorem dX11_counting_140 : decode cX11_counting 140 = .ok (.dup2, 1) := by decide +kernel
theorem dX11_counting_141 : decode cX11_counting 141 = .ok (.iaload, 1) := by decide +kernel
theorem dX11_counting_142 : decode cX11_counting 142 = .ok (.iconst 1, 1) := by decide +kernel
theorem dX11_counting_143 : decode cX11_counting 143 = .ok (.iadd, 1) := by decide +kernel
theorem dX11_counting_144 : decode cX11_counting 144 = .ok (.iastore, 1) := by decide +kernel
theorem dX11_counting_145 : decode cX11_counting 145 = .ok (.iload 6, 2) := by decide +kernel
theorem dX11_counting_147 : decode cX11_counting 147 = .ok (.ireturn, 1) := by decide +kernel
theorem dX11_isUnder_0 : decode cX11_isUnder 0 = .ok (.iload_n 1, 1) := by decide +kernel
theorem dX11_isUnder_1 : decode cX11_isUnder 1 = .ok (.ifCond .eq 20, 3) := by decide +kernel
theorem dX11_isUnder_4 : decode cX11_isUnder 4 = .ok (.iload_n 0, 1) := by decide +kernel
theorem dX11_isUnder_5 : decode cX11_isUnder 5 = .ok (.iload_n 1, 1) := by decide +kernel
theorem dX11_isUnder_6 : decode cX11_isUnder 6 = .ok (.if_icmp .eq 15, 3) := by decide +kernel
theorem dX11_isUnder_9 : decode cX11_isUnder 9 = .ok (.iload_n 1, 1) := by decide +kernel
theorem dX11_isUnder_10 : decode cX11_isUnder 10 = .ok (.bipush 6, 2) := by decide +kernel
theorem dX11_isUnder_12 : decode cX11_isUnder 12 = .ok (.if_icmp .ne 13, 3) := by decide +kernel
theorem dX11_isUnder_15 : decode cX11_isUnder 15 = .ok (.iload_n 0, 1) := by decide +kernel
theorem dX11_isUnder_16 : decode cX11_isUnder 16 = .ok (.bipush 7, 2) := by decide +kernel
theorem dX11_isUnder_18 : decode cX11_isUnder 18 = .ok (.if_icmp .ne 7, 3) := by decide +kernel
theorem dX11_isUnder_21 : decode cX11_isUnder 21 = .ok (.iconst 1, 1) := by decide +kernel
theorem dX11_isUnder_22 : decode cX11_isUnder 22 = .ok (.goto 4, 3) := by decide +kernel
theorem dX11_isUnder_25 : decode cX11_isUnder 25 = .ok (.iconst 0, 1) := by decide +kernel
theorem dX11_isUnder_26 : decode cX11_isUnder 26 = .ok (.ireturn, 1) := by decide +kernel
theorem dX11_as_0 : decode cX11_as 0 = .ok (.aload_n 0, 1) := by decide +kernel
theorem dX11_as_1 : decode cX11_as 1 = .ok (.iload_n 1, 1) := by decide +kernel
theorem dX11_as_2 : decode cX11_as 2 = .ok (.invokevirtual 219, 3) := by decide +kernel
theorem dX11_as_5 : decode cX11_as 5 = .ok (.ifCond .eq 15, 3) := by decide +kernel
theorem dX11_as_8 : decode cX11_as 8 = .ok (.iload_n 2, 1) := by decide +kernel
theorem dX11_as_9 : decode cX11_as 9 = .ok (.i2l, 1) := by decide +kernel
theorem dX11_as_10 : decode cX11_as 10 = .ok (.lconst 0, 1) := by decide +kernel
theorem dX11_as_11 : decode cX11_as 11 = .ok (.ldc2_w 217, 3) := by decide +kernel
theorem dX11_as_14 : decode cX11_as 14 = .ok (.invokestatic 57, 3) := by decide +kernel
theorem dX11_as_17 : decode cX11_as 17 = .ok (.ifCond .ne 9, 3) := by decide +kernel
theorem dX11_as_20 : decode cX11_as 20 = .ok (.aload_n 0, 1) := by decide +kernel
theorem dX11_as_21 : decode cX11_as 21 = .ok (.iconst 1, 1) := by decide +kernel
theorem dX11_as_22 : decode cX11_as 22 = .ok (.invokevirtual 73, 3) := by decide +kernel
theorem dX11_as_25 : decode cX11_as 25 = .ok (.ireturn, 1) := by decide +kernel
theorem dX11_as_26 : decode cX11_as 26 = .ok (.aload_n 0, 1) := by decide +kernel
theorem dX11_as_27 : decode cX11_as 27 = .ok (.iload_n 1, 1) := by decide +kernel
theorem dX11_as_28 : decode cX11_as 28 = .ok (.iconst 0, 1) := by decide +kernel
theorem dX11_as_29 : decode cX11_as 29 = .ok (.invokevirtual 222, 3) := by decide +kernel
theorem dX11_as_32 : decode cX11_as 32 = .ok (.iload_n 2, 1) := by decide +kernel
theorem dX11_as_33 : decode cX11_as 33 = .ok (.invokestatic 225, 3) := by decide +kernel
theorem dX11_as_36 : decode cX11_as 36 = .ok (.ifCond .eq 12, 3) := by decide +kernel
theorem dX11_as_39 : decode cX11_as 39 = .ok (.aload_n 0, 1) := by decide +kernel
theorem dX11_as_40 : decode cX11_as 40 = .ok (.iload_n 1, 1) := by decide +kernel
theorem dX11_as_41 : decode cX11_as 41 = .ok (.iconst 2, 1) := by decide +kernel
theorem dX11_as_42 : decode cX11_as 42 = .ok (.invokevirtual 222, 3) := by decide +kernel
theorem dX11_as_45 : decode cX11_as 45 = .ok (.goto 8, 3) := by decide +kernel
theorem dX11_as_48 : decode cX11_as 48 = .ok (.aload_n 0, 1) := by decide +kernel
theorem dX11_as_49 : decode cX11_as 49 = .ok (.iconst 5, 1) := by decide +kernel
theorem dX11_as_50 : decode cX11_as 50 = .ok (.invokevirtual 73, 3) := by decide +kernel
theorem dX11_as_53 : decode cX11_as 53 = .ok (.ireturn, 1) := by decide +kernel
theorem dX11_slid_0 : decode cX11_slid 0 = .ok (.aload_n 0, 1) := by decide +kernel
theorem dX11_slid_1 : decode cX11_slid 1 = .ok (.aload_n 0, 1) := by decide +kernel
theorem dX11_slid_2 : decode cX11_slid 2 = .ok (.iload_n 1, 1) := by decide +kernel
theorem dX11_slid_3 : decode cX11_slid 3 = .ok (.iconst 1, 1) := by decide +kernel
theorem dX11_slid_4 : decode cX11_slid 4 = .ok (.invokevirtual 222, 3) := by decide +kernel
theorem dX11_slid_7 : decode cX11_slid 7 = .ok (.iload_n 2, 1) := by decide +kernel
theorem dX11_slid_8 : decode cX11_slid 8 = .ok (.aload_n 0, 1) := by decide +kernel
theorem dX11_slid_9 : decode cX11_slid 9 = .ok (.iload_n 1, 1) := by decide +kernel
theorem dX11_slid_10 : decode cX11_slid 10 = .ok (.iconst 3, 1) := by decide +kernel
theorem dX11_slid_11 : decode cX11_slid 11 = .ok (.invokevirtual 222, 3) := by decide +kernel
theorem dX11_slid_14 : decode cX11_slid 14 = .ok (.iload_n 3, 1) := by decide +kernel
theorem dX11_slid_15 : decode cX11_slid 15 = .ok (.invokevirtual 139, 3) := by decide +kernel
theorem dX11_slid_18 : decode cX11_slid 18 = .ok (.ireturn, 1) := by decide +kernel
theorem dX11_plain_0 : decode cX11_plain 0 = .ok (.aload_n 0, 1) := by decide +kernel
theorem dX11_plain_1 : decode cX11_plain 1 = .ok (.iload_n 1, 1) := by decide +kernel
theorem dX11_plain_2 : decode cX11_plain 2 = .ok (.aload_n 0, 1) := by decide +kernel
theorem dX11_plain_3 : decode cX11_plain 3 = .ok (.iload_n 1, 1) := by decide +kernel
theorem dX11_plain_4 : decode cX11_plain 4 = .ok (.iconst 2, 1) := by decide +kernel
theorem dX11_plain_5 : decode cX11_plain 5 = .ok (.invokevirtual 222, 3) := by decide +kernel
theorem dX11_plain_8 : decode cX11_plain 8 = .ok (.iconst 0, 1) := by decide +kernel
theorem dX11_plain_9 : decode cX11_plain 9 = .ok (.invokevirtual 228, 3) := by decide +kernel
theorem dX11_plain_12 : decode cX11_plain 12 = .ok (.ireturn, 1) := by decide +kernel
theorem dX11_warm_0 : decode cX11_warm 0 = .ok (.iconst 0, 1) := by decide +kernel
theorem dX11_warm_1 : decode cX11_warm 1 = .ok (.istore_n 2, 1) := by decide +kernel
theorem dX11_warm_2 : decode cX11_warm 2 = .ok (.iconst 1, 1) := by decide +kernel
theorem dX11_warm_3 : decode cX11_warm 3 = .ok (.istore_n 3, 1) := by decide +kernel
theorem dX11_warm_4 : decode cX11_warm 4 = .ok (.iload_n 3, 1) := by decide +kernel
theorem dX11_warm_5 : decode cX11_warm 5 = .ok (.bipush 6, 2) := by decide +kernel
theorem dX11_warm_7 : decode cX11_warm 7 = .ok (.if_icmp .ge 31, 3) := by decide +kernel
theorem dX11_warm_10 : decode cX11_warm 10 = .ok (.iload_n 2, 1) := by decide +kernel
theorem dX11_warm_11 : decode cX11_warm 11 = .ok (.aload_n 0, 1) := by decide +kernel
theorem dX11_warm_12 : decode cX11_warm 12 = .ok (.iload_n 1, 1) := by decide +kernel
theorem dX11_warm_13 : decode cX11_warm 13 = .ok (.aload_n 0, 1) := by decide +kernel
theorem dX11_warm_14 : decode cX11_warm 14 = .ok (.iload_n 1, 1) := by decide +kernel
theorem dX11_warm_15 : decode cX11_warm 15 = .ok (.iconst 2, 1) := by decide +kernel
theorem dX11_warm_16 : decode cX11_warm 16 = .ok (.invokevirtual 222, 3) := by decide +kernel
theorem dX11_warm_19 : decode cX11_warm 19 = .ok (.iload_n 3, 1) := by decide +kernel
theorem dX11_warm_20 : decode cX11_warm 20 = .ok (.aload_n 0, 1) := by decide +kernel
theorem dX11_warm_21 : decode cX11_warm 21 = .ok (.iload_n 1, 1) := by decide +kernel
theorem dX11_warm_22 : decode cX11_warm 22 = .ok (.iconst 4, 1) := by decide +kernel
theorem dX11_warm_23 : decode cX11_warm 23 = .ok (.invokevirtual 222, 3) := by decide +kernel
theorem dX11_warm_26 : decode cX11_warm 26 = .ok (.imul, 1) := by decide +kernel
theorem dX11_warm_27 : decode cX11_warm 27 = .ok (.invokevirtual 228, 3) := by decide +kernel
theorem dX11_warm_30 : decode cX11_warm 30 = .ok (.iadd, 1) := by decide +kernel
theorem dX11_warm_31 : decode cX11_warm 31 = .ok (.istore_n 2, 1) := by decide +kernel
theorem dX11_warm_32 : decode cX11_warm 32 = .ok (.iinc 3 1, 3) := by decide +kernel
theorem dX11_warm_35 : decode cX11_warm 35 = .ok (.goto (-31), 3) := by decide +kernel
theorem dX11_warm_38 : decode cX11_warm 38 = .ok (.iload_n 2, 1) := by decide +kernel
theorem dX11_warm_39 : decode cX11_warm 39 = .ok (.iconst 5, 1) := by decide +kernel
theorem dX11_warm_40 : decode cX11_warm 40 = .ok (.idiv, 1) := by decide +kernel
theorem dX11_warm_41 : decode cX11_warm 41 = .ok (.ireturn, 1) := by decide +kernel
theorem dX11_counted_0 : decode cX11_counted 0 = .ok (.iconst 0, 1) := by decide +kernel
theorem dX11_counted_1 : decode cX11_counted 1 = .ok (.istore_n 3, 1) := by decide +kernel
theorem dX11_counted_2 : decode cX11_counted 2 = .ok (.iconst 0, 1) := by decide +kernel
theorem dX11_counted_3 : decode cX11_counted 3 = .ok (.istore 4, 2) := by decide +kernel
theorem dX11_counted_5 : decode cX11_counted 5 = .ok (.iload 4, 2) := by decide +kernel
theorem dX11_counted_7 : decode cX11_counted 7 = .ok (.aload_n 0, 1) := by decide +kernel
theorem dX11_counted_8 : decode cX11_counted 8 = .ok (.getfield 9, 3) := by decide +kernel
theorem dX11_counted_11 : decode cX11_counted 11 = .ok (.iconst 1, 1) := by decide +kernel
theorem dX11_counted_12 : decode cX11_counted 12 = .ok (.iaload, 1) := by decide +kernel
theorem dX11_counted_13 : decode cX11_counted 13 = .ok (.if_icmp .ge 28, 3) := by decide +kernel
theorem dX11_counted_16 : decode cX11_counted 16 = .ok (.iload_n 3, 1) := by decide +kernel
theorem dX11_counted_17 : decode cX11_counted 17 = .ok (.aload_n 0, 1) := by decide +kernel
theorem dX11_counted_18 : decode cX11_counted 18 = .ok (.iload 4, 2) := by decide +kernel
theorem dX11_counted_20 : decode cX11_counted 20 = .ok (.iload_n 1, 1) := by decide +kernel
theorem dX11_counted_21 : decode cX11_counted 21 = .ok (.iload_n 2, 1) := by decide +kernel
theorem dX11_counted_22 : decode cX11_counted 22 = .ok (.invokevirtual 123, 3) := by decide +kernel
theorem dX11_counted_25 : decode cX11_counted 25 = .ok (.ifCond .eq 7, 3) := by decide +kernel
theorem dX11_counted_28 : decode cX11_counted 28 = .ok (.iconst 1, 1) := by decide +kernel
theorem dX11_counted_29 : decode cX11_counted 29 = .ok (.goto 4, 3) := by decide +kernel
theorem dX11_counted_32 : decode cX11_counted 32 = .ok (.iconst 0, 1) := by decide +kernel
theorem dX11_counted_33 : decode cX11_counted 33 = .ok (.iadd, 1) := by decide +kernel
theorem dX11_counted_34 : decode cX11_counted 34 = .ok (.istore_n 3, 1) := by decide +kernel
theorem dX11_counted_35 : decode cX11_counted 35 = .ok (.iinc 4 1, 3) := by decide +kernel
theorem dX11_counted_38 : decode cX11_counted 38 = .ok (.goto (-33), 3) := by decide +kernel
theorem dX11_counted_41 : decode cX11_counted 41 = .ok (.iload_n 3, 1) := by decide +kernel
theorem dX11_counted_42 : decode cX11_counted 42 = .ok (.ireturn, 1) := by decide +kernel
theorem dX11_lined_0 : decode cX11_lined 0 = .ok (.aload_n 0, 1) := by decide +kernel
theorem dX11_lined_1 : decode cX11_lined 1 = .ok (.iload_n 1, 1) := by decide +kernel
theorem dX11_lined_2 : decode cX11_lined 2 = .ok (.aload_n 0, 1) := by decide +kernel
theorem dX11_lined_3 : decode cX11_lined 3 = .ok (.iload_n 1, 1) := by decide +kernel
theorem dX11_lined_4 : decode cX11_lined 4 = .ok (.iconst 2, 1) := by decide +kernel
theorem dX11_lined_5 : decode cX11_lined 5 = .ok (.invokevirtual 222, 3) := by decide +kernel
theorem dX11_lined_8 : decode cX11_lined 8 = .ok (.iconst 0, 1) := by decide +kernel
theorem dX11_lined_9 : decode cX11_lined 9 = .ok (.invokevirtual 228, 3) := by decide +kernel
theorem dX11_lined_12 : decode cX11_lined 12 = .ok (.aload_n 0, 1) := by decide +kernel
theorem dX11_lined_13 : decode cX11_lined 13 = .ok (.iload_n 1, 1) := by decide +kernel
theorem dX11_lined_14 : decode cX11_lined 14 = .ok (.aload_n 0, 1) := by decide +kernel
theorem dX11_lined_15 : decode cX11_lined 15 = .ok (.iload_n 1, 1) := by decide +kernel
theorem dX11_lined_16 : decode cX11_lined 16 = .ok (.iconst 2, 1) := by decide +kernel
theorem dX11_lined_17 : decode cX11_lined 17 = .ok (.invokevirtual 222, 3) := by decide +kernel
theorem dX11_lined_20 : decode cX11_lined 20 = .ok (.aload_n 0, 1) := by decide +kernel
theorem dX11_lined_21 : decode cX11_lined 21 = .ok (.iload_n 1, 1) := by decide +kernel
theorem dX11_lined_22 : decode cX11_lined 22 = .ok (.iconst 4, 1) := by decide +kernel
theorem dX11_lined_23 : decode cX11_lined 23 = .ok (.invokevirtual 222, 3) := by decide +kernel
theorem dX11_lined_26 : decode cX11_lined 26 = .ok (.invokevirtual 228, 3) := by decide +kernel
theorem dX11_lined_29 : decode cX11_lined 29 = .ok (.isub, 1) := by decide +kernel
theorem dX11_lined_30 : decode cX11_lined 30 = .ok (.istore_n 2, 1) := by decide +kernel
theorem dX11_lined_31 : decode cX11_lined 31 = .ok (.aload_n 0, 1) := by decide +kernel
theorem dX11_lined_32 : decode cX11_lined 32 = .ok (.iload_n 1, 1) := by decide +kernel
theorem dX11_lined_33 : decode cX11_lined 33 = .ok (.iconst 2, 1) := by decide +kernel
theorem dX11_lined_34 : decode cX11_lined 34 = .ok (.invokevirtual 222, 3) := by decide +kernel
theorem dX11_lined_37 : decode cX11_lined 37 = .ok (.bipush 50, 2) := by decide +kernel
theorem dX11_lined_39 : decode cX11_lined 39 = .ok (.iadd, 1) := by decide +kernel
theorem dX11_lined_40 : decode cX11_lined 40 = .ok (.istore_n 3, 1) := by decide +kernel
theorem dX11_lined_41 : decode cX11_lined 41 = .ok (.iload_n 3, 1) := by decide +kernel
theorem dX11_lined_42 : decode cX11_lined 42 = .ok (.sipush 1000, 3) := by decide +kernel
theorem dX11_lined_45 : decode cX11_lined 45 = .ok (.if_icmp .ge 44, 3) := by decide +kernel
theorem dX11_lined_48 : decode cX11_lined 48 = .ok (.aload_n 0, 1) := by decide +kernel
theorem dX11_lined_49 : decode cX11_lined 49 = .ok (.iload_n 1, 1) := by decide +kernel
theorem dX11_lined_50 : decode cX11_lined 50 = .ok (.iload_n 3, 1) := by decide +kernel
theorem dX11_lined_51 : decode cX11_lined 51 = .ok (.iconst 0, 1) := by decide +kernel
theorem dX11_lined_52 : decode cX11_lined 52 = .ok (.invokevirtual 228, 3) := by decide +kernel
theorem dX11_lined_55 : decode cX11_lined 55 = .ok (.aload_n 0, 1) := by decide +kernel
theorem dX11_lined_56 : decode cX11_lined 56 = .ok (.iload_n 1, 1) := by decide +kernel
theorem dX11_lined_57 : decode cX11_lined 57 = .ok (.iload_n 3, 1) := by decide +kernel
theorem dX11_lined_58 : decode cX11_lined 58 = .ok (.aload_n 0, 1) := by decide +kernel
theorem dX11_lined_59 : decode cX11_lined 59 = .ok (.iload_n 1, 1) := by decide +kernel
theorem dX11_lined_60 : decode cX11_lined 60 = .ok (.iconst 4, 1) := by decide +kernel
theorem dX11_lined_61 : decode cX11_lined 61 = .ok (.invokevirtual 222, 3) := by decide +kernel
theorem dX11_lined_64 : decode cX11_lined 64 = .ok (.invokevirtual 228, 3) := by decide +kernel
theorem dX11_lined_67 : decode cX11_lined 67 = .ok (.isub, 1) := by decide +kernel
theorem dX11_lined_68 : decode cX11_lined 68 = .ok (.istore 4, 2) := by decide +kernel
theorem dX11_lined_70 : decode cX11_lined 70 = .ok (.iload 4, 2) := by decide +kernel
theorem dX11_lined_72 : decode cX11_lined 72 = .ok (.iload_n 2, 1) := by decide +kernel
theorem dX11_lined_73 : decode cX11_lined 73 = .ok (.if_icmp .le 8, 3) := by decide +kernel
theorem dX11_lined_76 : decode cX11_lined 76 = .ok (.iload 4, 2) := by decide +kernel
theorem dX11_lined_78 : decode cX11_lined 78 = .ok (.goto 4, 3) := by decide +kernel
theorem dX11_lined_81 : decode cX11_lined 81 = .ok (.iload_n 2, 1) := by decide +kernel
theorem dX11_lined_82 : decode cX11_lined 82 = .ok (.istore_n 2, 1) := by decide +kernel
theorem dX11_lined_83 : decode cX11_lined 83 = .ok (.iinc 3 50, 3) := by decide +kernel
theorem dX11_lined_86 : decode cX11_lined 86 = .ok (.goto (-45), 3) := by decide +kernel
theorem dX11_lined_89 : decode cX11_lined 89 = .ok (.iload_n 2, 1) := by decide +kernel
theorem dX11_lined_90 : decode cX11_lined 90 = .ok (.ireturn, 1) := by decide +kernel
theorem dX11_twice_0 : decode cX11_twice 0 = .ok (.aload_n 0, 1) := by decide +kernel
theorem dX11_twice_1 : decode cX11_twice 1 = .ok (.iload_n 1, 1) := by decide +kernel
theorem dX11_twice_2 : decode cX11_twice 2 = .ok (.iconst 1, 1) := by decide +kernel
theorem dX11_twice_3 : decode cX11_twice 3 = .ok (.invokevirtual 222, 3) := by decide +kernel
theorem dX11_twice_6 : decode cX11_twice 6 = .ok (.bipush 10, 2) := by decide +kernel
theorem dX11_twice_8 : decode cX11_twice 8 = .ok (.idiv, 1) := by decide +kernel
theorem dX11_twice_9 : decode cX11_twice 9 = .ok (.istore_n 2, 1) := by decide +kernel
theorem dX11_twice_10 : decode cX11_twice 10 = .ok (.aload_n 0, 1) := by decide +kernel
theorem dX11_twice_11 : decode cX11_twice 11 = .ok (.iload_n 1, 1) := by decide +kernel
theorem dX11_twice_12 : decode cX11_twice 12 = .ok (.iconst 1, 1) := by decide +kernel
theorem dX11_twice_13 : decode cX11_twice 13 = .ok (.invokevirtual 222, 3) := by decide +kernel
theorem dX11_twice_16 : decode cX11_twice 16 = .ok (.bipush 10, 2) := by decide +kernel
theorem dX11_twice_18 : decode cX11_twice 18 = .ok (.irem, 1) := by decide +kernel
theorem dX11_twice_19 : decode cX11_twice 19 = .ok (.istore_n 3, 1) := by decide +kernel
theorem dX11_twice_20 : decode cX11_twice 20 = .ok (.iconst 0, 1) := by decide +kernel
theorem dX11_twice_21 : decode cX11_twice 21 = .ok (.istore 4, 2) := by decide +kernel
theorem dX11_twice_23 : decode cX11_twice 23 = .ok (.iconst 0, 1) := by decide +kernel
theorem dX11_twice_24 : decode cX11_twice 24 = .ok (.istore 5, 2) := by decide +kernel
theorem dX11_twice_26 : decode cX11_twice 26 = .ok (.iload 5, 2) := by decide +kernel
theorem dX11_twice_28 : decode cX11_twice 28 = .ok (.aload_n 0, 1) := by decide +kernel
theorem dX11_twice_29 : decode cX11_twice 29 = .ok (.getfield 9, 3) := by decide +kernel
theorem dX11_twice_32 : decode cX11_twice 32 = .ok (.iconst 1, 1) := by decide +kernel
theorem dX11_twice_33 : decode cX11_twice 33 = .ok (.iaload, 1) := by decide +kernel
theorem dX11_twice_34 : decode cX11_twice 34 = .ok (.if_icmp .ge 120, 3) := by decide +kernel
theorem dX11_twice_37 : decode cX11_twice 37 = .ok (.aload_n 0, 1) := by decide +kernel
theorem dX11_twice_38 : decode cX11_twice 38 = .ok (.iload 5, 2) := by decide +kernel
theorem dX11_twice_40 : decode cX11_twice 40 = .ok (.iload_n 3, 1) := by decide +kernel
theorem dX11_twice_41 : decode cX11_twice 41 = .ok (.aload_n 0, 1) := by decide +kernel
theorem dX11_twice_42 : decode cX11_twice 42 = .ok (.iload_n 1, 1) := by decide +kernel
theorem dX11_twice_43 : decode cX11_twice 43 = .ok (.iconst 2, 1) := by decide +kernel
theorem dX11_twice_44 : decode cX11_twice 44 = .ok (.invokevirtual 222, 3) := by decide +kernel
theorem dX11_twice_47 : decode cX11_twice 47 = .ok (.invokevirtual 123, 3) := by decide +kernel
theorem dX11_twice_50 : decode cX11_twice 50 = .ok (.ifCond .ne 6, 3) := by decide +kernel
theorem dX11_twice_53 : decode cX11_twice 53 = .ok (.goto 95, 3) := by decide +kernel
theorem dX11_twice_56 : decode cX11_twice 56 = .ok (.iconst 0, 1) := by decide +kernel
theorem dX11_twice_57 : decode cX11_twice 57 = .ok (.istore 6, 2) := by decide +kernel
theorem dX11_twice_59 : decode cX11_twice 59 = .ok (.iconst 0, 1) := by decide +kernel
theorem dX11_twice_60 : decode cX11_twice 60 = .ok (.istore 7, 2) := by decide +kernel
theorem dX11_twice_62 : decode cX11_twice 62 = .ok (.iload 7, 2) := by decide +kernel
theorem dX11_twice_64 : decode cX11_twice 64 = .ok (.aload_n 0, 1) := by decide +kernel
theorem dX11_twice_65 : decode cX11_twice 65 = .ok (.getfield 9, 3) := by decide +kernel
theorem dX11_twice_68 : decode cX11_twice 68 = .ok (.iconst 1, 1) := by decide +kernel
theorem dX11_twice_69 : decode cX11_twice 69 = .ok (.iaload, 1) := by decide +kernel
theorem dX11_twice_70 : decode cX11_twice 70 = .ok (.if_icmp .ge 62, 3) := by decide +kernel
theorem dX11_twice_73 : decode cX11_twice 73 = .ok (.iload 6, 2) := by decide +kernel
theorem dX11_twice_75 : decode cX11_twice 75 = .ok (.aload_n 0, 1) := by decide +kernel
theorem dX11_twice_76 : decode cX11_twice 76 = .ok (.iload 7, 2) := by decide +kernel
theorem dX11_twice_78 : decode cX11_twice 78 = .ok (.iload_n 2, 1) := by decide +kernel
theorem dX11_twice_79 : decode cX11_twice 79 = .ok (.aload_n 0, 1) := by decide +kernel
theorem dX11_twice_80 : decode cX11_twice 80 = .ok (.iload_n 1, 1) := by decide +kernel
theorem dX11_twice_81 : decode cX11_twice 81 = .ok (.iconst 2, 1) := by decide +kernel
theorem dX11_twice_82 : decode cX11_twice 82 = .ok (.invokevirtual 222, 3) := by decide +kernel
theorem dX11_twice_85 : decode cX11_twice 85 = .ok (.invokevirtual 123, 3) := by decide +kernel
theorem dX11_twice_88 : decode cX11_twice 88 = .ok (.ifCond .eq 34, 3) := by decide +kernel
theorem dX11_twice_91 : decode cX11_twice 91 = .ok (.aload_n 0, 1) := by decide +kernel
theorem dX11_twice_92 : decode cX11_twice 92 = .ok (.getfield 19, 3) := by decide +kernel
theorem dX11_twice_95 : decode cX11_twice 95 = .ok (.iload 7, 2) := by decide +kernel
theorem dX11_twice_97 : decode cX11_twice 97 = .ok (.iaload, 1) := by decide +kernel
theorem dX11_twice_98 : decode cX11_twice 98 = .ok (.aload_n 0, 1) := by decide +kernel
theorem dX11_twice_99 : decode cX11_twice 99 = .ok (.getfield 19, 3) := by decide +kernel
theorem dX11_twice_102 : decode cX11_twice 102 = .ok (.iload 5, 2) := by decide +kernel
theorem dX11_twice_104 : decode cX11_twice 104 = .ok (.iaload, 1) := by decide +kernel
theorem dX11_twice_105 : decode cX11_twice 105 = .ok (.isub, 1) := by decide +kernel
theorem dX11_twice_106 : decode cX11_twice 106 = .ok (.invokestatic 231, 3) := by decide +kernel
theorem dX11_twice_109 : decode cX11_twice 109 = .ok (.aload_n 0, 1) := by decide +kernel
theorem dX11_twice_110 : decode cX11_twice 110 = .ok (.iload_n 1, 1) := by decide +kernel
theorem dX11_twice_111 : decode cX11_twice 111 = .ok (.iconst 3, 1) := by decide +kernel
theorem dX11_twice_112 : decode cX11_twice 112 = .ok (.invokevirtual 222, 3) := by decide +kernel
theorem dX11_twice_115 : decode cX11_twice 115 = .ok (.if_icmp .gt 7, 3) := by decide +kernel
theorem dX11_twice_118 : decode cX11_twice 118 = .ok (.iconst 1, 1) := by decide +kernel
theorem dX11_twice_119 : decode cX11_twice 119 = .ok (.goto 4, 3) := by decide +kernel
theorem dX11_twice_122 : decode cX11_twice 122 = .ok (.iconst 0, 1) := by decide +kernel
theorem dX11_twice_123 : decode cX11_twice 123 = .ok (.iadd, 1) := by decide +kernel
theorem dX11_twice_124 : decode cX11_twice 124 = .ok (.istore 6, 2) := by decide +kernel
theorem dX11_twice_126 : decode cX11_twice 126 = .ok (.iinc 7 1, 3) := by decide +kernel
theorem dX11_twice_129 : decode cX11_twice 129 = .ok (.goto (-67), 3) := by decide +kernel
theorem dX11_twice_132 : decode cX11_twice 132 = .ok (.iload 4, 2) := by decide +kernel
theorem dX11_twice_134 : decode cX11_twice 134 = .ok (.iload 6, 2) := by decide +kernel
theorem dX11_twice_136 : decode cX11_twice 136 = .ok (.iconst 1, 1) := by decide +kernel
theorem dX11_twice_137 : decode cX11_twice 137 = .ok (.if_icmp .le 7, 3) := by decide +kernel
theorem dX11_twice_140 : decode cX11_twice 140 = .ok (.iconst 1, 1) := by decide +kernel
theorem dX11_twice_141 : decode cX11_twice 141 = .ok (.goto 4, 3) := by decide +kernel
theorem dX11_twice_144 : decode cX11_twice 144 = .ok (.iconst 0, 1) := by decide +kernel
theorem dX11_twice_145 : decode cX11_twice 145 = .ok (.iadd, 1) := by decide +kernel
theorem dX11_twice_146 : decode cX11_twice 146 = .ok (.istore 4, 2) := by decide +kernel
theorem dX11_twice_148 : decode cX11_twice 148 = .ok (.iinc 5 1, 3) := by decide +kernel
theorem dX11_twice_151 : decode cX11_twice 151 = .ok (.goto (-125), 3) := by decide +kernel
theorem dX11_twice_154 : decode cX11_twice 154 = .ok (.iload 4, 2) := by decide +kernel
theorem dX11_twice_156 : decode cX11_twice 156 = .ok (.ireturn, 1) := by decide +kernel
theorem dX11_gives_0 : decode cX11_gives 0 = .ok (.aload_n 0, 1) := by decide +kernel
theorem dX11_gives_1 : decode cX11_gives 1 = .ok (.iload_n 1, 1) := by decide +kernel
theorem dX11_gives_2 : decode cX11_gives 2 = .ok (.invokevirtual 219, 3) := by decide +kernel
theorem dX11_gives_5 : decode cX11_gives 5 = .ok (.ifCond .ne 9, 3) := by decide +kernel
theorem dX11_gives_8 : decode cX11_gives 8 = .ok (.aload_n 0, 1) := by decide +kernel
theorem dX11_gives_9 : decode cX11_gives 9 = .ok (.iconst 1, 1) := by decide +kernel
theorem dX11_gives_10 : decode cX11_gives 10 = .ok (.invokevirtual 73, 3) := by decide +kernel
theorem dX11_gives_13 : decode cX11_gives 13 = .ok (.ireturn, 1) := by decide +kernel
theorem dX11_gives_14 : decode cX11_gives 14 = .ok (.aload_n 0, 1) := by decide +kernel
theorem dX11_gives_15 : decode cX11_gives 15 = .ok (.invokevirtual 120, 3) := by decide +kernel
theorem dX11_gives_18 : decode cX11_gives 18 = .ok (.aload_n 0, 1) := by decide +kernel
theorem dX11_gives_19 : decode cX11_gives 19 = .ok (.iload_n 1, 1) := by decide +kernel
theorem dX11_gives_20 : decode cX11_gives 20 = .ok (.iconst 1, 1) := by decide +kernel
theorem dX11_gives_21 : decode cX11_gives 21 = .ok (.invokevirtual 222, 3) := by decide +kernel
theorem dX11_gives_24 : decode cX11_gives 24 = .ok (.bipush 10, 2) := by decide +kernel
theorem dX11_gives_26 : decode cX11_gives 26 = .ok (.idiv, 1) := by decide +kernel
theorem dX11_gives_27 : decode cX11_gives 27 = .ok (.istore_n 2, 1) := by decide +kernel
theorem dX11_gives_28 : decode cX11_gives 28 = .ok (.aload_n 0, 1) := by decide +kernel
theorem dX11_gives_29 : decode cX11_gives 29 = .ok (.iload_n 1, 1) := by decide +kernel
theorem dX11_gives_30 : decode cX11_gives 30 = .ok (.iconst 1, 1) := by decide +kernel
theorem dX11_gives_31 : decode cX11_gives 31 = .ok (.invokevirtual 222, 3) := by decide +kernel
theorem dX11_gives_34 : decode cX11_gives 34 = .ok (.bipush 10, 2) := by decide +kernel
theorem dX11_gives_36 : decode cX11_gives 36 = .ok (.irem, 1) := by decide +kernel
theorem dX11_gives_37 : decode cX11_gives 37 = .ok (.istore_n 3, 1) := by decide +kernel
theorem dX11_gives_38 : decode cX11_gives 38 = .ok (.aload_n 0, 1) := by decide +kernel
theorem dX11_gives_39 : decode cX11_gives 39 = .ok (.iload_n 1, 1) := by decide +kernel
theorem dX11_gives_40 : decode cX11_gives 40 = .ok (.iconst 2, 1) := by decide +kernel
theorem dX11_gives_41 : decode cX11_gives 41 = .ok (.invokevirtual 222, 3) := by decide +kernel
theorem dX11_gives_44 : decode cX11_gives 44 = .ok (.istore 4, 2) := by decide +kernel
theorem dX11_gives_46 : decode cX11_gives 46 = .ok (.aload_n 0, 1) := by decide +kernel
theorem dX11_gives_47 : decode cX11_gives 47 = .ok (.iload_n 1, 1) := by decide +kernel
theorem dX11_gives_48 : decode cX11_gives 48 = .ok (.invokevirtual 234, 3) := by decide +kernel
theorem dX11_gives_51 : decode cX11_gives 51 = .ok (.aload_n 0, 1) := by decide +kernel
theorem dX11_gives_52 : decode cX11_gives 52 = .ok (.iload_n 1, 1) := by decide +kernel
theorem dX11_gives_53 : decode cX11_gives 53 = .ok (.invokevirtual 237, 3) := by decide +kernel
theorem dX11_gives_56 : decode cX11_gives 56 = .ok (.isub, 1) := by decide +kernel
theorem dX11_gives_57 : decode cX11_gives 57 = .ok (.istore 5, 2) := by decide +kernel
theorem dX11_gives_59 : decode cX11_gives 59 = .ok (.aload_n 0, 1) := by decide +kernel
theorem dX11_gives_60 : decode cX11_gives 60 = .ok (.iload_n 1, 1) := by decide +kernel
theorem dX11_gives_61 : decode cX11_gives 61 = .ok (.iconst 0, 1) := by decide +kernel
theorem dX11_gives_62 : decode cX11_gives 62 = .ok (.invokevirtual 222, 3) := by decide +kernel
theorem dX11_gives_65 : decode cX11_gives 65 = .ok (.tableswitch 113 0 6 #[43, 49, 55, 67, 81, 87, 99], 43) := by decide +kernel
theorem dX11_gives_108 : decode cX11_gives 108 = .ok (.aload_n 0, 1) := by decide +kernel
theorem dX11_gives_109 : decode cX11_gives 109 = .ok (.iload_n 1, 1) := by decide +kernel
theorem dX11_gives_110 : decode cX11_gives 110 = .ok (.invokevirtual 234, 3) := by decide +kernel
theorem dX11_gives_113 : decode cX11_gives 113 = .ok (.ireturn, 1) := by decide +kernel
theorem dX11_gives_114 : decode cX11_gives 114 = .ok (.aload_n 0, 1) := by decide +kernel
theorem dX11_gives_115 : decode cX11_gives 115 = .ok (.iload_n 1, 1) := by decide +kernel
theorem dX11_gives_116 : decode cX11_gives 116 = .ok (.invokevirtual 237, 3) := by decide +kernel
theorem dX11_gives_119 : decode cX11_gives 119 = .ok (.ireturn, 1) := by decide +kernel
theorem dX11_gives_120 : decode cX11_gives 120 = .ok (.iload 5, 2) := by decide +kernel
theorem dX11_gives_122 : decode cX11_gives 122 = .ok (.ifCond .le 8, 3) := by decide +kernel
theorem dX11_gives_125 : decode cX11_gives 125 = .ok (.iload 5, 2) := by decide +kernel
theorem dX11_gives_127 : decode cX11_gives 127 = .ok (.goto 4, 3) := by decide +kernel
theorem dX11_gives_130 : decode cX11_gives 130 = .ok (.iconst 0, 1) := by decide +kernel
theorem dX11_gives_131 : decode cX11_gives 131 = .ok (.ireturn, 1) := by decide +kernel
theorem dX11_gives_132 : decode cX11_gives 132 = .ok (.aload_n 0, 1) := by decide +kernel
theorem dX11_gives_133 : decode cX11_gives 133 = .ok (.iload_n 2, 1) := by decide +kernel
theorem dX11_gives_134 : decode cX11_gives 134 = .ok (.iload 4, 2) := by decide +kernel
theorem dX11_gives_136 : decode cX11_gives 136 = .ok (.invokevirtual 240, 3) := by decide +kernel
theorem dX11_gives_139 : decode cX11_gives 139 = .ok (.aload_n 0, 1) := by decide +kernel
theorem dX11_gives_140 : decode cX11_gives 140 = .ok (.iload_n 1, 1) := by decide +kernel
theorem dX11_gives_141 : decode cX11_gives 141 = .ok (.invokevirtual 234, 3) := by decide +kernel
theorem dX11_gives_144 : decode cX11_gives 144 = .ok (.isub, 1) := by decide +kernel
theorem dX11_gives_145 : decode cX11_gives 145 = .ok (.ireturn, 1) := by decide +kernel
theorem dX11_gives_146 : decode cX11_gives 146 = .ok (.aload_n 0, 1) := by decide +kernel
theorem dX11_gives_147 : decode cX11_gives 147 = .ok (.iload_n 1, 1) := by decide +kernel
theorem dX11_gives_148 : decode cX11_gives 148 = .ok (.invokevirtual 243, 3) := by decide +kernel
theorem dX11_gives_151 : decode cX11_gives 151 = .ok (.ireturn, 1) := by decide +kernel
theorem dX11_gives_152 : decode cX11_gives 152 = .ok (.aload_n 0, 1) := by decide +kernel
theorem dX11_gives_153 : decode cX11_gives 153 = .ok (.iload_n 1, 1) := by decide +kernel
theorem dX11_gives_154 : decode cX11_gives 154 = .ok (.invokevirtual 234, 3) := by decide +kernel
theorem dX11_gives_157 : decode cX11_gives 157 = .ok (.aload_n 0, 1) := by decide +kernel
theorem dX11_gives_158 : decode cX11_gives 158 = .ok (.iload_n 1, 1) := by decide +kernel
theorem dX11_gives_159 : decode cX11_gives 159 = .ok (.invokevirtual 246, 3) := by decide +kernel
theorem dX11_gives_162 : decode cX11_gives 162 = .ok (.iadd, 1) := by decide +kernel
theorem dX11_gives_163 : decode cX11_gives 163 = .ok (.ireturn, 1) := by decide +kernel
theorem dX11_gives_164 : decode cX11_gives 164 = .ok (.aload_n 0, 1) := by decide +kernel
theorem dX11_gives_165 : decode cX11_gives 165 = .ok (.iload_n 1, 1) := by decide +kernel
theorem dX11_gives_166 : decode cX11_gives 166 = .ok (.iload 4, 2) := by decide +kernel
theorem dX11_gives_168 : decode cX11_gives 168 = .ok (.aload_n 0, 1) := by decide +kernel
theorem dX11_gives_169 : decode cX11_gives 169 = .ok (.iload_n 1, 1) := by decide +kernel
theorem dX11_gives_170 : decode cX11_gives 170 = .ok (.iconst 4, 1) := by decide +kernel
theorem dX11_gives_171 : decode cX11_gives 171 = .ok (.invokevirtual 222, 3) := by decide +kernel
theorem dX11_gives_174 : decode cX11_gives 174 = .ok (.invokevirtual 228, 3) := by decide +kernel
theorem dX11_gives_177 : decode cX11_gives 177 = .ok (.ireturn, 1) := by decide +kernel
theorem dX11_gives_178 : decode cX11_gives 178 = .ok (.aload_n 0, 1) := by decide +kernel
theorem dX11_gives_179 : decode cX11_gives 179 = .ok (.iload_n 1, 1) := by decide +kernel
theorem dX11_gives_180 : decode cX11_gives 180 = .ok (.iload 4, 2) := by decide +kernel
theorem dX11_gives_182 : decode cX11_gives 182 = .ok (.aload_n 0, 1) := by decide +kernel
theorem dX11_gives_183 : decode cX11_gives 183 = .ok (.iload_n 2, 1) := by decide +kernel
theorem dX11_gives_184 : decode cX11_gives 184 = .ok (.invokevirtual 91, 3) := by decide +kernel
theorem dX11_gives_187 : decode cX11_gives 187 = .ok (.aload_n 0, 1) := by decide +kernel
theorem dX11_gives_188 : decode cX11_gives 188 = .ok (.iload_n 3, 1) := by decide +kernel
theorem dX11_gives_189 : decode cX11_gives 189 = .ok (.invokevirtual 91, 3) := by decide +kernel
theorem dX11_gives_192 : decode cX11_gives 192 = .ok (.isub, 1) := by decide +kernel
theorem dX11_gives_193 : decode cX11_gives 193 = .ok (.invokevirtual 228, 3) := by decide +kernel
theorem dX11_gives_196 : decode cX11_gives 196 = .ok (.ireturn, 1) := by decide +kernel
theorem dX11_common_0 : decode cX11_common 0 = .ok (.lload_n 0, 1) := by decide +kernel
theorem dX11_common_1 : decode cX11_common 1 = .ok (.lstore 4, 2) := by decide +kernel
theorem dX11_common_3 : decode cX11_common 3 = .ok (.lload_n 2, 1) := by decide +kernel
theorem dX11_common_4 : decode cX11_common 4 = .ok (.lstore 6, 2) := by decide +kernel
theorem dX11_common_6 : decode cX11_common 6 = .ok (.lload 6, 2) := by decide +kernel
theorem dX11_common_8 : decode cX11_common 8 = .ok (.lconst 0, 1) := by decide +kernel
theorem dX11_common_9 : decode cX11_common 9 = .ok (.lcmp, 1) := by decide +kernel
theorem dX11_common_10 : decode cX11_common 10 = .ok (.ifCond .eq 21, 3) := by decide +kernel
theorem dX11_common_13 : decode cX11_common 13 = .ok (.lload 4, 2) := by decide +kernel
theorem dX11_common_15 : decode cX11_common 15 = .ok (.lload 6, 2) := by decide +kernel
theorem dX11_common_17 : decode cX11_common 17 = .ok (.lrem, 1) := by decide +kernel
theorem dX11_common_18 : decode cX11_common 18 = .ok (.lstore 8, 2) := by decide +kernel
theorem dX11_common_20 : decode cX11_common 20 = .ok (.lload 6, 2) := by decide +kernel
theorem dX11_common_22 : decode cX11_common 22 = .ok (.lstore 4, 2) := by decide +kernel
theorem dX11_common_24 : decode cX11_common 24 = .ok (.lload 8, 2) := by decide +kernel
theorem dX11_common_26 : decode cX11_common 26 = .ok (.lstore 6, 2) := by decide +kernel
theorem dX11_common_28 : decode cX11_common 28 = .ok (.goto (-22), 3) := by decide +kernel
theorem dX11_common_31 : decode cX11_common 31 = .ok (.lload 4, 2) := by decide +kernel
theorem dX11_common_33 : decode cX11_common 33 = .ok (.lreturn, 1) := by decide +kernel
theorem dX11_part_0 : decode cX11_part 0 = .ok (.iload_n 0, 1) := by decide +kernel
theorem dX11_part_1 : decode cX11_part 1 = .ok (.i2l, 1) := by decide +kernel
theorem dX11_part_2 : decode cX11_part 2 = .ok (.iload_n 1, 1) := by decide +kernel
theorem dX11_part_3 : decode cX11_part 3 = .ok (.i2l, 1) := by decide +kernel
theorem dX11_part_4 : decode cX11_part 4 = .ok (.invokestatic 249, 3) := by decide +kernel
theorem dX11_part_7 : decode cX11_part 7 = .ok (.l2i, 1) := by decide +kernel
theorem dX11_part_8 : decode cX11_part 8 = .ok (.istore_n 3, 1) := by decide +kernel
theorem dX11_part_9 : decode cX11_part 9 = .ok (.iload_n 2, 1) := by decide +kernel
theorem dX11_part_10 : decode cX11_part 10 = .ok (.ifCond .ne 9, 3) := by decide +kernel
theorem dX11_part_13 : decode cX11_part 13 = .ok (.iload_n 0, 1) := by decide +kernel
theorem dX11_part_14 : decode cX11_part 14 = .ok (.iload_n 3, 1) := by decide +kernel
theorem dX11_part_15 : decode cX11_part 15 = .ok (.idiv, 1) := by decide +kernel
theorem dX11_part_16 : decode cX11_part 16 = .ok (.goto 6, 3) := by decide +kernel
theorem dX11_part_19 : decode cX11_part 19 = .ok (.iload_n 1, 1) := by decide +kernel
theorem dX11_part_20 : decode cX11_part 20 = .ok (.iload_n 3, 1) := by decide +kernel
theorem dX11_part_21 : decode cX11_part 21 = .ok (.idiv, 1) := by decide +kernel
theorem dX11_part_22 : decode cX11_part 22 = .ok (.ireturn, 1) := by decide +kernel
theorem dX11_isAsked_0 : decode cX11_isAsked 0 = .ok (.aload_n 0, 1) := by decide +kernel
theorem dX11_isAsked_1 : decode cX11_isAsked 1 = .ok (.iload_n 1, 1) := by decide +kernel
theorem dX11_isAsked_2 : decode cX11_isAsked 2 = .ok (.invokevirtual 219, 3) := by decide +kernel
theorem dX11_isAsked_5 : decode cX11_isAsked 5 = .ok (.ifCond .eq 19, 3) := by decide +kernel
theorem dX11_isAsked_8 : decode cX11_isAsked 8 = .ok (.iload_n 2, 1) := by decide +kernel
theorem dX11_isAsked_9 : decode cX11_isAsked 9 = .ok (.i2l, 1) := by decide +kernel
theorem dX11_isAsked_10 : decode cX11_isAsked 10 = .ok (.lconst 1, 1) := by decide +kernel
theorem dX11_isAsked_11 : decode cX11_isAsked 11 = .ok (.ldc2_w 253, 3) := by decide +kernel
theorem dX11_isAsked_14 : decode cX11_isAsked 14 = .ok (.invokestatic 57, 3) := by decide +kernel
theorem dX11_isAsked_17 : decode cX11_isAsked 17 = .ok (.ifCond .eq 7, 3) := by decide +kernel
theorem dX11_isAsked_20 : decode cX11_isAsked 20 = .ok (.iconst 1, 1) := by decide +kernel
theorem dX11_isAsked_21 : decode cX11_isAsked 21 = .ok (.goto 4, 3) := by decide +kernel
theorem dX11_isAsked_24 : decode cX11_isAsked 24 = .ok (.iconst 0, 1) := by decide +kernel
theorem dX11_isAsked_25 : decode cX11_isAsked 25 = .ok (.ireturn, 1) := by decide +kernel
theorem dX11_chance_0 : decode cX11_chance 0 = .ok (.aload_n 0, 1) := by decide +kernel
theorem dX11_chance_1 : decode cX11_chance 1 = .ok (.iload_n 1, 1) := by decide +kernel
theorem dX11_chance_2 : decode cX11_chance 2 = .ok (.iload_n 2, 1) := by decide +kernel
theorem dX11_chance_3 : decode cX11_chance 3 = .ok (.invokevirtual 255, 3) := by decide +kernel
theorem dX11_chance_6 : decode cX11_chance 6 = .ok (.ifCond .eq 13, 3) := by decide +kernel
theorem dX11_chance_9 : decode cX11_chance 9 = .ok (.iload_n 3, 1) := by decide +kernel
theorem dX11_chance_10 : decode cX11_chance 10 = .ok (.i2l, 1) := by decide +kernel
theorem dX11_chance_11 : decode cX11_chance 11 = .ok (.lconst 0, 1) := by decide +kernel
theorem dX11_chance_12 : decode cX11_chance 12 = .ok (.lconst 1, 1) := by decide +kernel
theorem dX11_chance_13 : decode cX11_chance 13 = .ok (.invokestatic 57, 3) := by decide +kernel
theorem dX11_chance_16 : decode cX11_chance 16 = .ok (.ifCond .ne 9, 3) := by decide +kernel
theorem dX11_chance_19 : decode cX11_chance 19 = .ok (.aload_n 0, 1) := by decide +kernel
theorem dX11_chance_20 : decode cX11_chance 20 = .ok (.iconst 1, 1) := by decide +kernel
theorem dX11_chance_21 : decode cX11_chance 21 = .ok (.invokevirtual 73, 3) := by decide +kernel
theorem dX11_chance_24 : decode cX11_chance 24 = .ok (.ireturn, 1) := by decide +kernel
theorem dX11_chance_25 : decode cX11_chance 25 = .ok (.aload_n 0, 1) := by decide +kernel
theorem dX11_chance_26 : decode cX11_chance 26 = .ok (.invokevirtual 120, 3) := by decide +kernel
theorem dX11_chance_29 : decode cX11_chance 29 = .ok (.aload_n 0, 1) := by decide +kernel
theorem dX11_chance_30 : decode cX11_chance 30 = .ok (.iload_n 1, 1) := by decide +kernel
theorem dX11_chance_31 : decode cX11_chance 31 = .ok (.invokevirtual 234, 3) := by decide +kernel
theorem dX11_chance_34 : decode cX11_chance 34 = .ok (.istore 4, 2) := by decide +kernel
theorem dX11_chance_36 : decode cX11_chance 36 = .ok (.iconst 0, 1) := by decide +kernel
theorem dX11_chance_37 : decode cX11_chance 37 = .ok (.istore 5, 2) := by decide +kernel
theorem dX11_chance_39 : decode cX11_chance 39 = .ok (.iconst 1, 1) := by decide +kernel
theorem dX11_chance_40 : decode cX11_chance 40 = .ok (.istore 6, 2) := by decide +kernel
theorem dX11_chance_42 : decode cX11_chance 42 = .ok (.iload 6, 2) := by decide +kernel
theorem dX11_chance_44 : decode cX11_chance 44 = .ok (.iload_n 2, 1) := by decide +kernel
theorem dX11_chance_45 : decode cX11_chance 45 = .ok (.if_icmp .gt 44, 3) := by decide +kernel
theorem dX11_chance_48 : decode cX11_chance 48 = .ok (.iload 5, 2) := by decide +kernel
theorem dX11_chance_50 : decode cX11_chance 50 = .ok (.aload_n 0, 1) := by decide +kernel
theorem dX11_chance_51 : decode cX11_chance 51 = .ok (.iload_n 1, 1) := by decide +kernel
theorem dX11_chance_52 : decode cX11_chance 52 = .ok (.aload_n 0, 1) := by decide +kernel
theorem dX11_chance_53 : decode cX11_chance 53 = .ok (.iload_n 1, 1) := by decide +kernel
theorem dX11_chance_54 : decode cX11_chance 54 = .ok (.iconst 2, 1) := by decide +kernel
theorem dX11_chance_55 : decode cX11_chance 55 = .ok (.invokevirtual 222, 3) := by decide +kernel
theorem dX11_chance_58 : decode cX11_chance 58 = .ok (.iload 6, 2) := by decide +kernel
theorem dX11_chance_60 : decode cX11_chance 60 = .ok (.aload_n 0, 1) := by decide +kernel
theorem dX11_chance_61 : decode cX11_chance 61 = .ok (.iload_n 1, 1) := by decide +kernel
theorem dX11_chance_62 : decode cX11_chance 62 = .ok (.iconst 4, 1) := by decide +kernel
theorem dX11_chance_63 : decode cX11_chance 63 = .ok (.invokevirtual 222, 3) := by decide +kernel
theorem dX11_chance_66 : decode cX11_chance 66 = .ok (.imul, 1) := by decide +kernel
theorem dX11_chance_67 : decode cX11_chance 67 = .ok (.invokevirtual 228, 3) := by decide +kernel
theorem dX11_chance_70 : decode cX11_chance 70 = .ok (.iload 4, 2) := by decide +kernel
theorem dX11_chance_72 : decode cX11_chance 72 = .ok (.if_icmp .lt 7, 3) := by decide +kernel
theorem dX11_chance_75 : decode cX11_chance 75 = .ok (.iconst 1, 1) := by decide +kernel
theorem dX11_chance_76 : decode cX11_chance 76 = .ok (.goto 4, 3) := by decide +kernel
theorem dX11_chance_79 : decode cX11_chance 79 = .ok (.iconst 0, 1) := by decide +kernel
theorem dX11_chance_80 : decode cX11_chance 80 = .ok (.iadd, 1) := by decide +kernel
theorem dX11_chance_81 : decode cX11_chance 81 = .ok (.istore 5, 2) := by decide +kernel
theorem dX11_chance_83 : decode cX11_chance 83 = .ok (.iinc 6 1, 3) := by decide +kernel
theorem dX11_chance_86 : decode cX11_chance 86 = .ok (.goto (-44), 3) := by decide +kernel
theorem dX11_chance_89 : decode cX11_chance 89 = .ok (.iload 5, 2) := by decide +kernel
theorem dX11_chance_91 : decode cX11_chance 91 = .ok (.iload_n 2, 1) := by decide +kernel
theorem dX11_chance_92 : decode cX11_chance 92 = .ok (.iload_n 3, 1) := by decide +kernel
theorem dX11_chance_93 : decode cX11_chance 93 = .ok (.invokestatic 258, 3) := by decide +kernel
theorem dX11_chance_96 : decode cX11_chance 96 = .ok (.ireturn, 1) := by decide +kernel
theorem dX11_ahead_0 : decode cX11_ahead 0 = .ok (.aload_n 0, 1) := by decide +kernel
theorem dX11_ahead_1 : decode cX11_ahead 1 = .ok (.iload_n 1, 1) := by decide +kernel
theorem dX11_ahead_2 : decode cX11_ahead 2 = .ok (.iload_n 2, 1) := by decide +kernel
theorem dX11_ahead_3 : decode cX11_ahead 3 = .ok (.invokevirtual 255, 3) := by decide +kernel
theorem dX11_ahead_6 : decode cX11_ahead 6 = .ok (.ifCond .eq 15, 3) := by decide +kernel
theorem dX11_ahead_9 : decode cX11_ahead 9 = .ok (.iload_n 3, 1) := by decide +kernel
theorem dX11_ahead_10 : decode cX11_ahead 10 = .ok (.i2l, 1) := by decide +kernel
theorem dX11_ahead_11 : decode cX11_ahead 11 = .ok (.lconst 0, 1) := by decide +kernel
theorem dX11_ahead_12 : decode cX11_ahead 12 = .ok (.ldc2_w 261, 3) := by decide +kernel
theorem dX11_ahead_15 : decode cX11_ahead 15 = .ok (.invokestatic 57, 3) := by decide +kernel
theorem dX11_ahead_18 : decode cX11_ahead 18 = .ok (.ifCond .ne 9, 3) := by decide +kernel
theorem dX11_ahead_21 : decode cX11_ahead 21 = .ok (.aload_n 0, 1) := by decide +kernel
theorem dX11_ahead_22 : decode cX11_ahead 22 = .ok (.iconst 1, 1) := by decide +kernel
theorem dX11_ahead_23 : decode cX11_ahead 23 = .ok (.invokevirtual 73, 3) := by decide +kernel
theorem dX11_ahead_26 : decode cX11_ahead 26 = .ok (.ireturn, 1) := by decide +kernel
theorem dX11_ahead_27 : decode cX11_ahead 27 = .ok (.aload_n 0, 1) := by decide +kernel
theorem dX11_ahead_28 : decode cX11_ahead 28 = .ok (.invokevirtual 120, 3) := by decide +kernel
theorem dX11_ahead_31 : decode cX11_ahead 31 = .ok (.iconst 1, 1) := by decide +kernel
theorem dX11_ahead_32 : decode cX11_ahead 32 = .ok (.istore 4, 2) := by decide +kernel
theorem dX11_ahead_34 : decode cX11_ahead 34 = .ok (.iload 4, 2) := by decide +kernel
theorem dX11_ahead_36 : decode cX11_ahead 36 = .ok (.iload_n 2, 1) := by decide +kernel
theorem dX11_ahead_37 : decode cX11_ahead 37 = .ok (.if_icmp .gt 36, 3) := by decide +kernel
theorem dX11_ahead_40 : decode cX11_ahead 40 = .ok (.aload_n 0, 1) := by decide +kernel
theorem dX11_ahead_41 : decode cX11_ahead 41 = .ok (.getfield 44, 3) := by decide +kernel
theorem dX11_ahead_44 : decode cX11_ahead 44 = .ok (.iload 4, 2) := by decide +kernel
theorem dX11_ahead_46 : decode cX11_ahead 46 = .ok (.aload_n 0, 1) := by decide +kernel
theorem dX11_ahead_47 : decode cX11_ahead 47 = .ok (.iload_n 1, 1) := by decide +kernel
theorem dX11_ahead_48 : decode cX11_ahead 48 = .ok (.aload_n 0, 1) := by decide +kernel
theorem dX11_ahead_49 : decode cX11_ahead 49 = .ok (.iload_n 1, 1) := by decide +kernel
theorem dX11_ahead_50 : decode cX11_ahead 50 = .ok (.iconst 2, 1) := by decide +kernel
theorem dX11_ahead_51 : decode cX11_ahead 51 = .ok (.invokevirtual 222, 3) := by decide +kernel
theorem dX11_ahead_54 : decode cX11_ahead 54 = .ok (.iload 4, 2) := by decide +kernel
theorem dX11_ahead_56 : decode cX11_ahead 56 = .ok (.aload_n 0, 1) := by decide +kernel
theorem dX11_ahead_57 : decode cX11_ahead 57 = .ok (.iload_n 1, 1) := by decide +kernel
theorem dX11_ahead_58 : decode cX11_ahead 58 = .ok (.iconst 4, 1) := by decide +kernel
theorem dX11_ahead_59 : decode cX11_ahead 59 = .ok (.invokevirtual 222, 3) := by decide +kernel
theorem dX11_ahead_62 : decode cX11_ahead 62 = .ok (.imul, 1) := by decide +kernel
theorem dX11_ahead_63 : decode cX11_ahead 63 = .ok (.invokevirtual 228, 3) := by decide +kernel
theorem dX11_ahead_66 : decode cX11_ahead 66 = .ok (.iastore, 1) := by decide +kernel
theorem dX11_ahead_67 : decode cX11_ahead 67 = .ok (.iinc 4 1, 3) := by decide +kernel
theorem dX11_ahead_70 : decode cX11_ahead 70 = .ok (.goto (-36), 3) := by decide +kernel
theorem dX11_ahead_73 : decode cX11_ahead 73 = .ok (.iconst 0, 1) := by decide +kernel
theorem dX11_ahead_74 : decode cX11_ahead 74 = .ok (.istore 4, 2) := by decide +kernel
theorem dX11_ahead_76 : decode cX11_ahead 76 = .ok (.bipush 100, 2) := by decide +kernel
theorem dX11_ahead_78 : decode cX11_ahead 78 = .ok (.aload_n 0, 1) := by decide +kernel
theorem dX11_ahead_79 : decode cX11_ahead 79 = .ok (.iload_n 2, 1) := by decide +kernel
theorem dX11_ahead_80 : decode cX11_ahead 80 = .ok (.iload 4, 2) := by decide +kernel
theorem dX11_ahead_82 : decode cX11_ahead 82 = .ok (.invokevirtual 263, 3) := by decide +kernel
theorem dX11_ahead_85 : decode cX11_ahead 85 = .ok (.imul, 1) := by decide +kernel
theorem dX11_ahead_86 : decode cX11_ahead 86 = .ok (.iload_n 3, 1) := by decide +kernel
theorem dX11_ahead_87 : decode cX11_ahead 87 = .ok (.iload_n 2, 1) := by decide +kernel
theorem dX11_ahead_88 : decode cX11_ahead 88 = .ok (.imul, 1) := by decide +kernel
theorem dX11_ahead_89 : decode cX11_ahead 89 = .ok (.if_icmp .le 9, 3) := by decide +kernel
theorem dX11_ahead_92 : decode cX11_ahead 92 = .ok (.iinc 4 1, 3) := by decide +kernel
theorem dX11_ahead_95 : decode cX11_ahead 95 = .ok (.goto (-19), 3) := by decide +kernel
theorem dX11_ahead_98 : decode cX11_ahead 98 = .ok (.iload 4, 2) := by decide +kernel
theorem dX11_ahead_100 : decode cX11_ahead 100 = .ok (.ireturn, 1) := by decide +kernel
theorem dX11_asMany_0 : decode cX11_asMany 0 = .ok (.iconst 0, 1) := by decide +kernel
theorem dX11_asMany_1 : decode cX11_asMany 1 = .ok (.istore_n 3, 1) := by decide +kernel
theorem dX11_asMany_2 : decode cX11_asMany 2 = .ok (.iconst 1, 1) := by decide +kernel
theorem dX11_asMany_3 : decode cX11_asMany 3 = .ok (.istore 4, 2) := by decide +kernel
theorem dX11_asMany_5 : decode cX11_asMany 5 = .ok (.iload 4, 2) := by decide +kernel
theorem dX11_asMany_7 : decode cX11_asMany 7 = .ok (.iload_n 1, 1) := by decide +kernel
theorem dX11_asMany_8 : decode cX11_asMany 8 = .ok (.if_icmp .gt 28, 3) := by decide +kernel
theorem dX11_asMany_11 : decode cX11_asMany 11 = .ok (.iload_n 3, 1) := by decide +kernel
theorem dX11_asMany_12 : decode cX11_asMany 12 = .ok (.aload_n 0, 1) := by decide +kernel
theorem dX11_asMany_13 : decode cX11_asMany 13 = .ok (.getfield 44, 3) := by decide +kernel
theorem dX11_asMany_16 : decode cX11_asMany 16 = .ok (.iload 4, 2) := by decide +kernel
theorem dX11_asMany_18 : decode cX11_asMany 18 = .ok (.iaload, 1) := by decide +kernel
theorem dX11_asMany_19 : decode cX11_asMany 19 = .ok (.iload_n 2, 1) := by decide +kernel
theorem dX11_asMany_20 : decode cX11_asMany 20 = .ok (.if_icmp .lt 7, 3) := by decide +kernel
theorem dX11_asMany_23 : decode cX11_asMany 23 = .ok (.iconst 1, 1) := by decide +kernel
theorem dX11_asMany_24 : decode cX11_asMany 24 = .ok (.goto 4, 3) := by decide +kernel
theorem dX11_asMany_27 : decode cX11_asMany 27 = .ok (.iconst 0, 1) := by decide +kernel
theorem dX11_asMany_28 : decode cX11_asMany 28 = .ok (.iadd, 1) := by decide +kernel
theorem dX11_asMany_29 : decode cX11_asMany 29 = .ok (.istore_n 3, 1) := by decide +kernel
theorem dX11_asMany_30 : decode cX11_asMany 30 = .ok (.iinc 4 1, 3) := by decide +kernel
theorem dX11_asMany_33 : decode cX11_asMany 33 = .ok (.goto (-28), 3) := by decide +kernel
theorem dX11_asMany_36 : decode cX11_asMany 36 = .ok (.iload_n 3, 1) := by decide +kernel
theorem dX11_asMany_37 : decode cX11_asMany 37 = .ok (.ireturn, 1) := by decide +kernel
theorem dX11_line_0 : decode cX11_line 0 = .ok (.iload_n 1, 1) := by decide +kernel
theorem dX11_line_1 : decode cX11_line 1 = .ok (.invokestatic 117, 3) := by decide +kernel
theorem dX11_line_4 : decode cX11_line 4 = .ok (.ifCond .ne 9, 3) := by decide +kernel
theorem dX11_line_7 : decode cX11_line 7 = .ok (.aload_n 0, 1) := by decide +kernel
theorem dX11_line_8 : decode cX11_line 8 = .ok (.iconst 1, 1) := by decide +kernel
theorem dX11_line_9 : decode cX11_line 9 = .ok (.invokevirtual 73, 3) := by decide +kernel
theorem dX11_line_12 : decode cX11_line 12 = .ok (.ireturn, 1) := by decide +kernel
theorem dX11_line_13 : decode cX11_line 13 = .ok (.aload_n 0, 1) := by decide +kernel
theorem dX11_line_14 : decode cX11_line 14 = .ok (.getfield 9, 3) := by decide +kernel
theorem dX11_line_17 : decode cX11_line 17 = .ok (.iconst 3, 1) := by decide +kernel
theorem dX11_line_18 : decode cX11_line 18 = .ok (.iaload, 1) := by decide +kernel
theorem dX11_line_19 : decode cX11_line 19 = .ok (.bipush 6, 2) := by decide +kernel
theorem dX11_line_21 : decode cX11_line 21 = .ok (.if_icmp .ne 9, 3) := by decide +kernel
theorem dX11_line_24 : decode cX11_line 24 = .ok (.aload_n 0, 1) := by decide +kernel
theorem dX11_line_25 : decode cX11_line 25 = .ok (.iconst 4, 1) := by decide +kernel
theorem dX11_line_26 : decode cX11_line 26 = .ok (.invokevirtual 73, 3) := by decide +kernel
theorem dX11_line_29 : decode cX11_line 29 = .ok (.ireturn, 1) := by decide +kernel
theorem dX11_line_30 : decode cX11_line 30 = .ok (.aload_n 0, 1) := by decide +kernel
theorem dX11_line_31 : decode cX11_line 31 = .ok (.getfield 9, 3) := by decide +kernel
theorem dX11_line_34 : decode cX11_line 34 = .ok (.sipush 366, 3) := by decide +kernel
theorem dX11_line_37 : decode cX11_line 37 = .ok (.aload_n 0, 1) := by decide +kernel
theorem dX11_line_38 : decode cX11_line 38 = .ok (.getfield 9, 3) := by decide +kernel
theorem dX11_line_41 : decode cX11_line 41 = .ok (.iconst 3, 1) := by decide +kernel
theorem dX11_line_42 : decode cX11_line 42 = .ok (.iaload, 1) := by decide +kernel
theorem dX11_line_43 : decode cX11_line 43 = .ok (.iadd, 1) := by decide +kernel
theorem dX11_line_44 : decode cX11_line 44 = .ok (.iload_n 1, 1) := by decide +kernel
theorem dX11_line_45 : decode cX11_line 45 = .ok (.iastore, 1) := by decide +kernel
theorem dX11_line_46 : decode cX11_line 46 = .ok (.aload_n 0, 1) := by decide +kernel
theorem dX11_line_47 : decode cX11_line 47 = .ok (.getfield 9, 3) := by decide +kernel
theorem dX11_line_50 : decode cX11_line 50 = .ok (.iconst 3, 1) := by decide +kernel
theorem dX11_line_51 : decode cX11_line 51 = .ok (.dup2, 1) := by decide +kernel
theorem dX11_line_52 : decode cX11_line 52 = .ok (.iaload, 1) := by decide +kernel
theorem dX11_line_53 : decode cX11_line 53 = .ok (.iconst 1, 1) := by decide +kernel
theorem dX11_line_54 : decode cX11_line 54 = .ok (.iadd, 1) := by decide +kernel
theorem dX11_line_55 : decode cX11_line 55 = .ok (.iastore, 1) := by decide +kernel
theorem dX11_line_56 : decode cX11_line 56 = .ok (.aload_n 0, 1) := by decide +kernel
theorem dX11_line_57 : decode cX11_line 57 = .ok (.getfield 9, 3) := by decide +kernel
theorem dX11_line_60 : decode cX11_line 60 = .ok (.iconst 3, 1) := by decide +kernel
theorem dX11_line_61 : decode cX11_line 61 = .ok (.iaload, 1) := by decide +kernel
theorem dX11_line_62 : decode cX11_line 62 = .ok (.iconst 1, 1) := by decide +kernel
theorem dX11_line_63 : decode cX11_line 63 = .ok (.isub, 1) := by decide +kernel
theorem dX11_line_64 : decode cX11_line 64 = .ok (.ireturn, 1) := by decide +kernel
theorem dX11_findScores_0 : decode cX11_findScores 0 = .ok (.aload_n 0, 1) := by decide +kernel
theorem dX11_findScores_1 : decode cX11_findScores 1 = .ok (.invokevirtual 120, 3) := by decide +kernel
theorem dX11_findScores_4 : decode cX11_findScores 4 = .ok (.iconst 0, 1) := by decide +kernel
theorem dX11_findScores_5 : decode cX11_findScores 5 = .ok (.istore_n 3, 1) := by decide +kernel
theorem dX11_findScores_6 : decode cX11_findScores 6 = .ok (.iload_n 3, 1) := by decide +kernel
theorem dX11_findScores_7 : decode cX11_findScores 7 = .ok (.aload_n 0, 1) := by decide +kernel
theorem dX11_findScores_8 : decode cX11_findScores 8 = .ok (.getfield 9, 3) := by decide +kernel
theorem dX11_findScores_11 : decode cX11_findScores 11 = .ok (.iconst 3, 1) := by decide +kernel
theorem dX11_findScores_12 : decode cX11_findScores 12 = .ok (.iaload, 1) := by decide +kernel
theorem dX11_findScores_13 : decode cX11_findScores 13 = .ok (.if_icmp .ge 118, 3) := by decide +kernel
theorem dX11_findScores_16 : decode cX11_findScores 16 = .ok (.iconst 0, 1) := by decide +kernel
theorem dX11_findScores_17 : decode cX11_findScores 17 = .ok (.istore 4, 2) := by decide +kernel
theorem dX11_findScores_19 : decode cX11_findScores 19 = .ok (.iconst 0, 1) := by decide +kernel
theorem dX11_findScores_20 : decode cX11_findScores 20 = .ok (.istore 5, 2) := by decide +kernel
theorem dX11_findScores_22 : decode cX11_findScores 22 = .ok (.iload 5, 2) := by decide +kernel
theorem dX11_findScores_24 : decode cX11_findScores 24 = .ok (.iload_n 2, 1) := by decide +kernel
theorem dX11_findScores_25 : decode cX11_findScores 25 = .ok (.if_icmp .gt 61, 3) := by decide +kernel
theorem dX11_findScores_28 : decode cX11_findScores 28 = .ok (.aload_n 0, 1) := by decide +kernel
theorem dX11_findScores_29 : decode cX11_findScores 29 = .ok (.getfield 44, 3) := by decide +kernel
theorem dX11_findScores_32 : decode cX11_findScores 32 = .ok (.iload 5, 2) := by decide +kernel
theorem dX11_findScores_34 : decode cX11_findScores 34 = .ok (.aload_n 0, 1) := by decide +kernel
theorem dX11_findScores_35 : decode cX11_findScores 35 = .ok (.iload_n 1, 1) := by decide +kernel
theorem dX11_findScores_36 : decode cX11_findScores 36 = .ok (.aload_n 0, 1) := by decide +kernel
theorem dX11_findScores_37 : decode cX11_findScores 37 = .ok (.getfield 9, 3) := by decide +kernel
theorem dX11_findScores_40 : decode cX11_findScores 40 = .ok (.sipush 366, 3) := by decide +kernel
theorem dX11_findScores_43 : decode cX11_findScores 43 = .ok (.iload_n 3, 1) := by decide +kernel
theorem dX11_findScores_44 : decode cX11_findScores 44 = .ok (.iadd, 1) := by decide +kernel
theorem dX11_findScores_45 : decode cX11_findScores 45 = .ok (.iaload, 1) := by decide +kernel
theorem dX11_findScores_46 : decode cX11_findScores 46 = .ok (.iload 5, 2) := by decide +kernel
theorem dX11_findScores_48 : decode cX11_findScores 48 = .ok (.aload_n 0, 1) := by decide +kernel
theorem dX11_findScores_49 : decode cX11_findScores 49 = .ok (.iload_n 1, 1) := by decide +kernel
theorem dX11_findScores_50 : decode cX11_findScores 50 = .ok (.iconst 4, 1) := by decide +kernel
theorem dX11_findScores_51 : decode cX11_findScores 51 = .ok (.invokevirtual 222, 3) := by decide +kernel
theorem dX11_findScores_54 : decode cX11_findScores 54 = .ok (.imul, 1) := by decide +kernel
theorem dX11_findScores_55 : decode cX11_findScores 55 = .ok (.invokevirtual 228, 3) := by decide +kernel
theorem dX11_findScores_58 : decode cX11_findScores 58 = .ok (.iastore, 1) := by decide +kernel
theorem dX11_findScores_59 : decode cX11_findScores 59 = .ok (.iload 4, 2) := by decide +kernel
theorem dX11_findScores_61 : decode cX11_findScores 61 = .ok (.iload 5, 2) := by decide +kernel
theorem dX11_findScores_63 : decode cX11_findScores 63 = .ok (.ifCond .le 13, 3) := by decide +kernel
theorem dX11_findScores_66 : decode cX11_findScores 66 = .ok (.aload_n 0, 1) := by decide +kernel
theorem dX11_findScores_67 : decode cX11_findScores 67 = .ok (.getfield 44, 3) := by decide +kernel
theorem dX11_findScores_70 : decode cX11_findScores 70 = .ok (.iload 5, 2) := by decide +kernel
theorem dX11_findScores_72 : decode cX11_findScores 72 = .ok (.iaload, 1) := by decide +kernel
theorem dX11_findScores_73 : decode cX11_findScores 73 = .ok (.goto 4, 3) := by decide +kernel
theorem dX11_findScores_76 : decode cX11_findScores 76 = .ok (.iconst 0, 1) := by decide +kernel
theorem dX11_findScores_77 : decode cX11_findScores 77 = .ok (.iadd, 1) := by decide +kernel
theorem dX11_findScores_78 : decode cX11_findScores 78 = .ok (.istore 4, 2) := by decide +kernel
theorem dX11_findScores_80 : decode cX11_findScores 80 = .ok (.iinc 5 1, 3) := by decide +kernel
theorem dX11_findScores_83 : decode cX11_findScores 83 = .ok (.goto (-61), 3) := by decide +kernel
theorem dX11_findScores_86 : decode cX11_findScores 86 = .ok (.iconst 0, 1) := by decide +kernel
theorem dX11_findScores_87 : decode cX11_findScores 87 = .ok (.istore 5, 2) := by decide +kernel
theorem dX11_findScores_89 : decode cX11_findScores 89 = .ok (.iload 5, 2) := by decide +kernel
theorem dX11_findScores_91 : decode cX11_findScores 91 = .ok (.iload_n 2, 1) := by decide +kernel
theorem dX11_findScores_92 : decode cX11_findScores 92 = .ok (.if_icmp .gt 33, 3) := by decide +kernel
theorem dX11_findScores_95 : decode cX11_findScores 95 = .ok (.aload_n 0, 1) := by decide +kernel
theorem dX11_findScores_96 : decode cX11_findScores 96 = .ok (.getfield 47, 3) := by decide +kernel
theorem dX11_findScores_99 : decode cX11_findScores 99 = .ok (.bipush 41, 2) := by decide +kernel
theorem dX11_findScores_101 : decode cX11_findScores 101 = .ok (.iload_n 3, 1) := by decide +kernel
theorem dX11_findScores_102 : decode cX11_findScores 102 = .ok (.imul, 1) := by decide +kernel
theorem dX11_findScores_103 : decode cX11_findScores 103 = .ok (.iload 5, 2) := by decide +kernel
theorem dX11_findScores_105 : decode cX11_findScores 105 = .ok (.iadd, 1) := by decide +kernel
theorem dX11_findScores_106 : decode cX11_findScores 106 = .ok (.iload_n 2, 1) := by decide +kernel
theorem dX11_findScores_107 : decode cX11_findScores 107 = .ok (.aload_n 0, 1) := by decide +kernel
theorem dX11_findScores_108 : decode cX11_findScores 108 = .ok (.getfield 44, 3) := by decide +kernel
theorem dX11_findScores_111 : decode cX11_findScores 111 = .ok (.iload 5, 2) := by decide +kernel
theorem dX11_findScores_113 : decode cX11_findScores 113 = .ok (.iaload, 1) := by decide +kernel
theorem dX11_findScores_114 : decode cX11_findScores 114 = .ok (.imul, 1) := by decide +kernel
theorem dX11_findScores_115 : decode cX11_findScores 115 = .ok (.iload 4, 2) := by decide +kernel
theorem dX11_findScores_117 : decode cX11_findScores 117 = .ok (.isub, 1) := by decide +kernel
theorem dX11_findScores_118 : decode cX11_findScores 118 = .ok (.iastore, 1) := by decide +kernel
theorem dX11_findScores_119 : decode cX11_findScores 119 = .ok (.iinc 5 1, 3) := by decide +kernel
theorem dX11_findScores_122 : decode cX11_findScores 122 = .ok (.goto (-33), 3) := by decide +kernel
theorem dX11_findScores_125 : decode cX11_findScores 125 = .ok (.iinc 3 1, 3) := by decide +kernel
theorem dX11_findScores_128 : decode cX11_findScores 128 = .ok (.goto (-122), 3) := by decide +kernel
theorem dX11_findScores_131 : decode cX11_findScores 131 = .ok (.return_, 1) := by decide +kernel
theorem dX11_greatest_0 : decode cX11_greatest 0 = .ok (.iconst 0, 1) := by decide +kernel
theorem dX11_greatest_1 : decode cX11_greatest 1 = .ok (.istore_n 2, 1) := by decide +kernel
theorem dX11_greatest_2 : decode cX11_greatest 2 = .ok (.iconst 1, 1) := by decide +kernel
theorem dX11_greatest_3 : decode cX11_greatest 3 = .ok (.istore_n 3, 1) := by decide +kernel
theorem dX11_greatest_4 : decode cX11_greatest 4 = .ok (.iload_n 3, 1) := by decide +kernel
theorem dX11_greatest_5 : decode cX11_greatest 5 = .ok (.aload_n 0, 1) := by decide +kernel
theorem dX11_greatest_6 : decode cX11_greatest 6 = .ok (.getfield 9, 3) := by decide +kernel
theorem dX11_greatest_9 : decode cX11_greatest 9 = .ok (.iconst 3, 1) := by decide +kernel
theorem dX11_greatest_10 : decode cX11_greatest 10 = .ok (.iaload, 1) := by decide +kernel
theorem dX11_greatest_11 : decode cX11_greatest 11 = .ok (.if_icmp .ge 40, 3) := by decide +kernel
theorem dX11_greatest_14 : decode cX11_greatest 14 = .ok (.aload_n 0, 1) := by decide +kernel
theorem dX11_greatest_15 : decode cX11_greatest 15 = .ok (.getfield 47, 3) := by decide +kernel
theorem dX11_greatest_18 : decode cX11_greatest 18 = .ok (.bipush 41, 2) := by decide +kernel
theorem dX11_greatest_20 : decode cX11_greatest 20 = .ok (.iload_n 3, 1) := by decide +kernel
theorem dX11_greatest_21 : decode cX11_greatest 21 = .ok (.imul, 1) := by decide +kernel
theorem dX11_greatest_22 : decode cX11_greatest 22 = .ok (.iload_n 1, 1) := by decide +kernel
theorem dX11_greatest_23 : decode cX11_greatest 23 = .ok (.iadd, 1) := by decide +kernel
theorem dX11_greatest_24 : decode cX11_greatest 24 = .ok (.iaload, 1) := by decide +kernel
theorem dX11_greatest_25 : decode cX11_greatest 25 = .ok (.aload_n 0, 1) := by decide +kernel
theorem dX11_greatest_26 : decode cX11_greatest 26 = .ok (.getfield 47, 3) := by decide +kernel
theorem dX11_greatest_29 : decode cX11_greatest 29 = .ok (.bipush 41, 2) := by decide +kernel
theorem dX11_greatest_31 : decode cX11_greatest 31 = .ok (.iload_n 2, 1) := by decide +kernel
theorem dX11_greatest_32 : decode cX11_greatest 32 = .ok (.imul, 1) := by decide +kernel
theorem dX11_greatest_33 : decode cX11_greatest 33 = .ok (.iload_n 1, 1) := by decide +kernel
theorem dX11_greatest_34 : decode cX11_greatest 34 = .ok (.iadd, 1) := by decide +kernel
theorem dX11_greatest_35 : decode cX11_greatest 35 = .ok (.iaload, 1) := by decide +kernel
theorem dX11_greatest_36 : decode cX11_greatest 36 = .ok (.if_icmp .le 7, 3) := by decide +kernel
theorem dX11_greatest_39 : decode cX11_greatest 39 = .ok (.iload_n 3, 1) := by decide +kernel
theorem dX11_greatest_40 : decode cX11_greatest 40 = .ok (.goto 4, 3) := by decide +kernel
theorem dX11_greatest_43 : decode cX11_greatest 43 = .ok (.iload_n 2, 1) := by decide +kernel
theorem dX11_greatest_44 : decode cX11_greatest 44 = .ok (.istore_n 2, 1) := by decide +kernel
theorem dX11_greatest_45 : decode cX11_greatest 45 = .ok (.iinc 3 1, 3) := by decide +kernel
theorem dX11_greatest_48 : decode cX11_greatest 48 = .ok (.goto (-44), 3) := by decide +kernel
theorem dX11_greatest_51 : decode cX11_greatest 51 = .ok (.iload_n 2, 1) := by decide +kernel
theorem dX11_greatest_52 : decode cX11_greatest 52 = .ok (.ireturn, 1) := by decide +kernel
theorem dX11_chosen_0 : decode cX11_chosen 0 = .ok (.aload_n 0, 1) := by decide +kernel
theorem dX11_chosen_1 : decode cX11_chosen 1 = .ok (.iload_n 1, 1) := by decide +kernel
theorem dX11_chosen_2 : decode cX11_chosen 2 = .ok (.iload_n 2, 1) := by decide +kernel
theorem dX11_chosen_3 : decode cX11_chosen 3 = .ok (.invokevirtual 255, 3) := by decide +kernel
theorem dX11_chosen_6 : decode cX11_chosen 6 = .ok (.ifCond .ne 9, 3) := by decide +kernel
theorem dX11_chosen_9 : decode cX11_chosen 9 = .ok (.aload_n 0, 1) := by decide +kernel
theorem dX11_chosen_10 : decode cX11_chosen 10 = .ok (.iconst 1, 1) := by decide +kernel
theorem dX11_chosen_11 : decode cX11_chosen 11 = .ok (.invokevirtual 73, 3) := by decide +kernel
theorem dX11_chosen_14 : decode cX11_chosen 14 = .ok (.ireturn, 1) := by decide +kernel
theorem dX11_chosen_15 : decode cX11_chosen 15 = .ok (.aload_n 0, 1) := by decide +kernel
theorem dX11_chosen_16 : decode cX11_chosen 16 = .ok (.getfield 9, 3) := by decide +kernel
theorem dX11_chosen_19 : decode cX11_chosen 19 = .ok (.iconst 3, 1) := by decide +kernel
theorem dX11_chosen_20 : decode cX11_chosen 20 = .ok (.iaload, 1) := by decide +kernel
theorem dX11_chosen_21 : decode cX11_chosen 21 = .ok (.ifCond .ne 9, 3) := by decide +kernel
theorem dX11_chosen_24 : decode cX11_chosen 24 = .ok (.aload_n 0, 1) := by decide +kernel
theorem dX11_chosen_25 : decode cX11_chosen 25 = .ok (.iconst 2, 1) := by decide +kernel
theorem dX11_chosen_26 : decode cX11_chosen 26 = .ok (.invokevirtual 73, 3) := by decide +kernel
theorem dX11_chosen_29 : decode cX11_chosen 29 = .ok (.ireturn, 1) := by decide +kernel
theorem dX11_chosen_30 : decode cX11_chosen 30 = .ok (.aload_n 0, 1) := by decide +kernel
theorem dX11_chosen_31 : decode cX11_chosen 31 = .ok (.iload_n 1, 1) := by decide +kernel
theorem dX11_chosen_32 : decode cX11_chosen 32 = .ok (.iload_n 2, 1) := by decide +kernel
theorem dX11_chosen_33 : decode cX11_chosen 33 = .ok (.invokevirtual 266, 3) := by decide +kernel
theorem dX11_chosen_36 : decode cX11_chosen 36 = .ok (.aload_n 0, 1) := by decide +kernel
theorem dX11_chosen_37 : decode cX11_chosen 37 = .ok (.iconst 0, 1) := by decide +kernel
theorem dX11_chosen_38 : decode cX11_chosen 38 = .ok (.invokevirtual 270, 3) := by decide +kernel
theorem dX11_chosen_41 : decode cX11_chosen 41 = .ok (.ireturn, 1) := by decide +kernel
theorem dX11_paid_0 : decode cX11_paid 0 = .ok (.aload_n 0, 1) := by decide +kernel
theorem dX11_paid_1 : decode cX11_paid 1 = .ok (.iload_n 1, 1) := by decide +kernel
theorem dX11_paid_2 : decode cX11_paid 2 = .ok (.iload_n 2, 1) := by decide +kernel
theorem dX11_paid_3 : decode cX11_paid 3 = .ok (.invokevirtual 255, 3) := by decide +kernel
theorem dX11_paid_6 : decode cX11_paid 6 = .ok (.ifCond .eq 13, 3) := by decide +kernel
theorem dX11_paid_9 : decode cX11_paid 9 = .ok (.iload_n 3, 1) := by decide +kernel
theorem dX11_paid_10 : decode cX11_paid 10 = .ok (.i2l, 1) := by decide +kernel
theorem dX11_paid_11 : decode cX11_paid 11 = .ok (.lconst 0, 1) := by decide +kernel
theorem dX11_paid_12 : decode cX11_paid 12 = .ok (.lconst 1, 1) := by decide +kernel
theorem dX11_paid_13 : decode cX11_paid 13 = .ok (.invokestatic 57, 3) := by decide +kernel
theorem dX11_paid_16 : decode cX11_paid 16 = .ok (.ifCond .ne 9, 3) := by decide +kernel
theorem dX11_paid_19 : decode cX11_paid 19 = .ok (.aload_n 0, 1) := by decide +kernel
theorem dX11_paid_20 : decode cX11_paid 20 = .ok (.iconst 1, 1) := by decide +kernel
theorem dX11_paid_21 : decode cX11_paid 21 = .ok (.invokevirtual 73, 3) := by decide +kernel
theorem dX11_paid_24 : decode cX11_paid 24 = .ok (.ireturn, 1) := by decide +kernel
theorem dX11_paid_25 : decode cX11_paid 25 = .ok (.aload_n 0, 1) := by decide +kernel
theorem dX11_paid_26 : decode cX11_paid 26 = .ok (.getfield 9, 3) := by decide +kernel
theorem dX11_paid_29 : decode cX11_paid 29 = .ok (.iconst 3, 1) := by decide +kernel
theorem dX11_paid_30 : decode cX11_paid 30 = .ok (.iaload, 1) := by decide +kernel
theorem dX11_paid_31 : decode cX11_paid 31 = .ok (.ifCond .ne 9, 3) := by decide +kernel
theorem dX11_paid_34 : decode cX11_paid 34 = .ok (.aload_n 0, 1) := by decide +kernel
theorem dX11_paid_35 : decode cX11_paid 35 = .ok (.iconst 2, 1) := by decide +kernel
theorem dX11_paid_36 : decode cX11_paid 36 = .ok (.invokevirtual 73, 3) := by decide +kernel
theorem dX11_paid_39 : decode cX11_paid 39 = .ok (.ireturn, 1) := by decide +kernel
theorem dX11_paid_40 : decode cX11_paid 40 = .ok (.aload_n 0, 1) := by decide +kernel
theorem dX11_paid_41 : decode cX11_paid 41 = .ok (.iload_n 1, 1) := by decide +kernel
theorem dX11_paid_42 : decode cX11_paid 42 = .ok (.iload_n 2, 1) := by decide +kernel
theorem dX11_paid_43 : decode cX11_paid 43 = .ok (.invokevirtual 266, 3) := by decide +kernel
theorem dX11_paid_46 : decode cX11_paid 46 = .ok (.aload_n 0, 1) := by decide +kernel
theorem dX11_paid_47 : decode cX11_paid 47 = .ok (.getfield 47, 3) := by decide +kernel
theorem dX11_paid_50 : decode cX11_paid 50 = .ok (.bipush 41, 2) := by decide +kernel
theorem dX11_paid_52 : decode cX11_paid 52 = .ok (.aload_n 0, 1) := by decide +kernel
theorem dX11_paid_53 : decode cX11_paid 53 = .ok (.iconst 0, 1) := by decide +kernel
theorem dX11_paid_54 : decode cX11_paid 54 = .ok (.invokevirtual 270, 3) := by decide +kernel
theorem dX11_paid_57 : decode cX11_paid 57 = .ok (.imul, 1) := by decide +kernel
theorem dX11_paid_58 : decode cX11_paid 58 = .ok (.iaload, 1) := by decide +kernel
theorem dX11_paid_59 : decode cX11_paid 59 = .ok (.istore 4, 2) := by decide +kernel
theorem dX11_paid_61 : decode cX11_paid 61 = .ok (.iconst 0, 1) := by decide +kernel
theorem dX11_paid_62 : decode cX11_paid 62 = .ok (.istore 5, 2) := by decide +kernel
theorem dX11_paid_64 : decode cX11_paid 64 = .ok (.iconst 1, 1) := by decide +kernel
theorem dX11_paid_65 : decode cX11_paid 65 = .ok (.istore 6, 2) := by decide +kernel
theorem dX11_paid_67 : decode cX11_paid 67 = .ok (.iload 6, 2) := by decide +kernel
theorem dX11_paid_69 : decode cX11_paid 69 = .ok (.iload_n 2, 1) := by decide +kernel
theorem dX11_paid_70 : decode cX11_paid 70 = .ok (.if_icmp .gt 41, 3) := by decide +kernel
theorem dX11_paid_73 : decode cX11_paid 73 = .ok (.iload 5, 2) := by decide +kernel
theorem dX11_paid_75 : decode cX11_paid 75 = .ok (.aload_n 0, 1) := by decide +kernel
theorem dX11_paid_76 : decode cX11_paid 76 = .ok (.getfield 47, 3) := by decide +kernel
theorem dX11_paid_79 : decode cX11_paid 79 = .ok (.bipush 41, 2) := by decide +kernel
theorem dX11_paid_81 : decode cX11_paid 81 = .ok (.aload_n 0, 1) := by decide +kernel
theorem dX11_paid_82 : decode cX11_paid 82 = .ok (.iload 6, 2) := by decide +kernel
theorem dX11_paid_84 : decode cX11_paid 84 = .ok (.invokevirtual 270, 3) := by decide +kernel
theorem dX11_paid_87 : decode cX11_paid 87 = .ok (.imul, 1) := by decide +kernel
theorem dX11_paid_88 : decode cX11_paid 88 = .ok (.iload 6, 2) := by decide +kernel
theorem dX11_paid_90 : decode cX11_paid 90 = .ok (.iadd, 1) := by decide +kernel
theorem dX11_paid_91 : decode cX11_paid 91 = .ok (.iaload, 1) := by decide +kernel
theorem dX11_paid_92 : decode cX11_paid 92 = .ok (.iload 4, 2) := by decide +kernel
theorem dX11_paid_94 : decode cX11_paid 94 = .ok (.if_icmp .lt 7, 3) := by decide +kernel
theorem dX11_paid_97 : decode cX11_paid 97 = .ok (.iconst 1, 1) := by decide +kernel
theorem dX11_paid_98 : decode cX11_paid 98 = .ok (.goto 4, 3) := by decide +kernel
theorem dX11_paid_101 : decode cX11_paid 101 = .ok (.iconst 0, 1) := by decide +kernel
theorem dX11_paid_102 : decode cX11_paid 102 = .ok (.iadd, 1) := by decide +kernel
theorem dX11_paid_103 : decode cX11_paid 103 = .ok (.istore 5, 2) := by decide +kernel
theorem dX11_paid_105 : decode cX11_paid 105 = .ok (.iinc 6 1, 3) := by decide +kernel
theorem dX11_paid_108 : decode cX11_paid 108 = .ok (.goto (-41), 3) := by decide +kernel
theorem dX11_paid_111 : decode cX11_paid 111 = .ok (.iload 5, 2) := by decide +kernel
theorem dX11_paid_113 : decode cX11_paid 113 = .ok (.iload_n 2, 1) := by decide +kernel
theorem dX11_paid_114 : decode cX11_paid 114 = .ok (.iload_n 3, 1) := by decide +kernel
theorem dX11_paid_115 : decode cX11_paid 115 = .ok (.invokestatic 258, 3) := by decide +kernel
theorem dX11_paid_118 : decode cX11_paid 118 = .ok (.ireturn, 1) := by decide +kernel
theorem dX11_let_0 : decode cX11_let 0 = .ok (.iload_n 1, 1) := by decide +kernel
theorem dX11_let_1 : decode cX11_let 1 = .ok (.i2l, 1) := by decide +kernel
theorem dX11_let_2 : decode cX11_let 2 = .ok (.lconst 0, 1) := by decide +kernel
theorem dX11_let_3 : decode cX11_let 3 = .ok (.ldc2_w 77, 3) := by decide +kernel
theorem dX11_let_6 : decode cX11_let 6 = .ok (.invokestatic 57, 3) := by decide +kernel
theorem dX11_let_9 : decode cX11_let 9 = .ok (.ifCond .ne 9, 3) := by decide +kernel
theorem dX11_let_12 : decode cX11_let 12 = .ok (.aload_n 0, 1) := by decide +kernel
theorem dX11_let_13 : decode cX11_let 13 = .ok (.iconst 1, 1) := by decide +kernel
theorem dX11_let_14 : decode cX11_let 14 = .ok (.invokevirtual 73, 3) := by decide +kernel
theorem dX11_let_17 : decode cX11_let 17 = .ok (.ireturn, 1) := by decide +kernel
theorem dX11_let_18 : decode cX11_let 18 = .ok (.aload_n 0, 1) := by decide +kernel
theorem dX11_let_19 : decode cX11_let 19 = .ok (.getfield 9, 3) := by decide +kernel
theorem dX11_let_22 : decode cX11_let 22 = .ok (.iconst 4, 1) := by decide +kernel
theorem dX11_let_23 : decode cX11_let 23 = .ok (.iaload, 1) := by decide +kernel
theorem dX11_let_24 : decode cX11_let 24 = .ok (.bipush 10, 2) := by decide +kernel
theorem dX11_let_26 : decode cX11_let 26 = .ok (.if_icmp .ne 9, 3) := by decide +kernel
theorem dX11_let_29 : decode cX11_let 29 = .ok (.aload_n 0, 1) := by decide +kernel
theorem dX11_let_30 : decode cX11_let 30 = .ok (.iconst 4, 1) := by decide +kernel
theorem dX11_let_31 : decode cX11_let 31 = .ok (.invokevirtual 73, 3) := by decide +kernel
theorem dX11_let_34 : decode cX11_let 34 = .ok (.ireturn, 1) := by decide +kernel
theorem dX11_let_35 : decode cX11_let 35 = .ok (.aload_n 0, 1) := by decide +kernel
theorem dX11_let_36 : decode cX11_let 36 = .ok (.getfield 9, 3) := by decide +kernel
theorem dX11_let_39 : decode cX11_let 39 = .ok (.sipush 372, 3) := by decide +kernel
theorem dX11_let_42 : decode cX11_let 42 = .ok (.aload_n 0, 1) := by decide +kernel
theorem dX11_let_43 : decode cX11_let 43 = .ok (.getfield 9, 3) := by decide +kernel
theorem dX11_let_46 : decode cX11_let 46 = .ok (.iconst 4, 1) := by decide +kernel
theorem dX11_let_47 : decode cX11_let 47 = .ok (.iaload, 1) := by decide +kernel
theorem dX11_let_48 : decode cX11_let 48 = .ok (.iadd, 1) := by decide +kernel
theorem dX11_let_49 : decode cX11_let 49 = .ok (.iload_n 1, 1) := by decide +kernel
theorem dX11_let_50 : decode cX11_let 50 = .ok (.iastore, 1) := by decide +kernel
theorem dX11_let_51 : decode cX11_let 51 = .ok (.aload_n 0, 1) := by decide +kernel
theorem dX11_let_52 : decode cX11_let 52 = .ok (.getfield 9, 3) := by decide +kernel
theorem dX11_let_55 : decode cX11_let 55 = .ok (.iconst 4, 1) := by decide +kernel
theorem dX11_let_56 : decode cX11_let 56 = .ok (.dup2, 1) := by decide +kernel
theorem dX11_let_57 : decode cX11_let 57 = .ok (.iaload, 1) := by decide +kernel
theorem dX11_let_58 : decode cX11_let 58 = .ok (.iconst 1, 1) := by decide +kernel
theorem dX11_let_59 : decode cX11_let 59 = .ok (.iadd, 1) := by decide +kernel
theorem dX11_let_60 : decode cX11_let 60 = .ok (.iastore, 1) := by decide +kernel
theorem dX11_let_61 : decode cX11_let 61 = .ok (.aload_n 0, 1) := by decide +kernel
theorem dX11_let_62 : decode cX11_let 62 = .ok (.getfield 9, 3) := by decide +kernel
theorem dX11_let_65 : decode cX11_let 65 = .ok (.iconst 4, 1) := by decide +kernel
theorem dX11_let_66 : decode cX11_let 66 = .ok (.iaload, 1) := by decide +kernel
theorem dX11_let_67 : decode cX11_let 67 = .ok (.iconst 1, 1) := by decide +kernel
theorem dX11_let_68 : decode cX11_let 68 = .ok (.isub, 1) := by decide +kernel
theorem dX11_let_69 : decode cX11_let 69 = .ok (.ireturn, 1) := by decide +kernel
theorem dX11_isNear_0 : decode cX11_isNear 0 = .ok (.aload_n 0, 1) := by decide +kernel
theorem dX11_isNear_1 : decode cX11_isNear 1 = .ok (.iload_n 1, 1) := by decide +kernel
theorem dX11_isNear_2 : decode cX11_isNear 2 = .ok (.iconst 1, 1) := by decide +kernel
theorem dX11_isNear_3 : decode cX11_isNear 3 = .ok (.invokevirtual 87, 3) := by decide +kernel
theorem dX11_isNear_6 : decode cX11_isNear 6 = .ok (.aload_n 0, 1) := by decide +kernel
theorem dX11_isNear_7 : decode cX11_isNear 7 = .ok (.getfield 9, 3) := by decide +kernel
theorem dX11_isNear_10 : decode cX11_isNear 10 = .ok (.sipush 372, 3) := by decide +kernel
theorem dX11_isNear_13 : decode cX11_isNear 13 = .ok (.iload_n 2, 1) := by decide +kernel
theorem dX11_isNear_14 : decode cX11_isNear 14 = .ok (.iadd, 1) := by decide +kernel
theorem dX11_isNear_15 : decode cX11_isNear 15 = .ok (.iaload, 1) := by decide +kernel
theorem dX11_isNear_16 : decode cX11_isNear 16 = .ok (.isub, 1) := by decide +kernel
theorem dX11_isNear_17 : decode cX11_isNear 17 = .ok (.invokestatic 231, 3) := by decide +kernel
theorem dX11_isNear_20 : decode cX11_isNear 20 = .ok (.iload_n 3, 1) := by decide +kernel
theorem dX11_isNear_21 : decode cX11_isNear 21 = .ok (.if_icmp .gt 7, 3) := by decide +kernel
theorem dX11_isNear_24 : decode cX11_isNear 24 = .ok (.iconst 1, 1) := by decide +kernel
theorem dX11_isNear_25 : decode cX11_isNear 25 = .ok (.goto 4, 3) := by decide +kernel
theorem dX11_isNear_28 : decode cX11_isNear 28 = .ok (.iconst 0, 1) := by decide +kernel
theorem dX11_isNear_29 : decode cX11_isNear 29 = .ok (.ireturn, 1) := by decide +kernel
theorem dX11_seen_0 : decode cX11_seen 0 = .ok (.aload_n 0, 1) := by decide +kernel
theorem dX11_seen_1 : decode cX11_seen 1 = .ok (.iload_n 1, 1) := by decide +kernel
theorem dX11_seen_2 : decode cX11_seen 2 = .ok (.invokevirtual 65, 3) := by decide +kernel
theorem dX11_seen_5 : decode cX11_seen 5 = .ok (.ifCond .eq 17, 3) := by decide +kernel
theorem dX11_seen_8 : decode cX11_seen 8 = .ok (.iload_n 2, 1) := by decide +kernel
theorem dX11_seen_9 : decode cX11_seen 9 = .ok (.invokestatic 117, 3) := by decide +kernel
theorem dX11_seen_12 : decode cX11_seen 12 = .ok (.ifCond .eq 10, 3) := by decide +kernel
theorem dX11_seen_15 : decode cX11_seen 15 = .ok (.iload_n 3, 1) := by decide +kernel
theorem dX11_seen_16 : decode cX11_seen 16 = .ok (.invokestatic 134, 3) := by decide +kernel
theorem dX11_seen_19 : decode cX11_seen 19 = .ok (.ifCond .ne 9, 3) := by decide +kernel
theorem dX11_seen_22 : decode cX11_seen 22 = .ok (.aload_n 0, 1) := by decide +kernel
