theorem dX0_init_0 : decode cX0_init 0 = .ok (.aload_n 0, 1) := by decide +kernel
theorem dX0_init_1 : decode cX0_init 1 = .ok (.invokespecial 3, 3) := by decide +kernel
theorem dX0_init_4 : decode cX0_init 4 = .ok (.aload_n 0, 1) := by decide +kernel
theorem dX0_init_5 : decode cX0_init 5 = .ok (.iload_n 1, 1) := by decide +kernel
theorem dX0_init_6 : decode cX0_init 6 = .ok (.putfield 9, 3) := by decide +kernel
theorem dX0_init_9 : decode cX0_init 9 = .ok (.aload_n 0, 1) := by decide +kernel
theorem dX0_init_10 : decode cX0_init 10 = .ok (.iload_n 2, 1) := by decide +kernel
theorem dX0_init_11 : decode cX0_init 11 = .ok (.putfield 15, 3) := by decide +kernel
theorem dX0_init_14 : decode cX0_init 14 = .ok (.aload_n 0, 1) := by decide +kernel
theorem dX0_init_15 : decode cX0_init 15 = .ok (.iload_n 3, 1) := by decide +kernel
theorem dX0_init_16 : decode cX0_init 16 = .ok (.putfield 18, 3) := by decide +kernel
theorem dX0_init_19 : decode cX0_init 19 = .ok (.aload_n 0, 1) := by decide +kernel
theorem dX0_init_20 : decode cX0_init 20 = .ok (.iload 4, 2) := by decide +kernel
theorem dX0_init_22 : decode cX0_init 22 = .ok (.putfield 21, 3) := by decide +kernel
theorem dX0_init_25 : decode cX0_init 25 = .ok (.aload_n 0, 1) := by decide +kernel
theorem dX0_init_26 : decode cX0_init 26 = .ok (.iload 5, 2) := by decide +kernel
theorem dX0_init_28 : decode cX0_init 28 = .ok (.putfield 24, 3) := by decide +kernel
theorem dX0_init_31 : decode cX0_init 31 = .ok (.aload_n 0, 1) := by decide +kernel
theorem dX0_init_32 : decode cX0_init 32 = .ok (.iload 6, 2) := by decide +kernel
theorem dX0_init_34 : decode cX0_init 34 = .ok (.putfield 27, 3) := by decide +kernel
theorem dX0_init_37 : decode cX0_init 37 = .ok (.return_, 1) := by decide +kernel
theorem dX0_kindAbove_0 : decode cX0_kindAbove 0 = .ok (.iload_n 0, 1) := by decide +kernel
theorem dX0_kindAbove_1 : decode cX0_kindAbove 1 = .ok (.lookupswitch 32 #[(0, 27), (7, 29)], 27) := by decide +kernel
theorem dX0_kindAbove_28 : decode cX0_kindAbove 28 = .ok (.iconst (-1), 1) := by decide +kernel
theorem dX0_kindAbove_29 : decode cX0_kindAbove 29 = .ok (.ireturn, 1) := by decide +kernel
theorem dX0_kindAbove_30 : decode cX0_kindAbove 30 = .ok (.bipush 6, 2) := by decide +kernel
theorem dX0_kindAbove_32 : decode cX0_kindAbove 32 = .ok (.ireturn, 1) := by decide +kernel
theorem dX0_kindAbove_33 : decode cX0_kindAbove 33 = .ok (.iconst 0, 1) := by decide +kernel
theorem dX0_kindAbove_34 : decode cX0_kindAbove 34 = .ok (.ireturn, 1) := by decide +kernel
theorem dX0_isOf_0 : decode cX0_isOf 0 = .ok (.aload_n 0, 1) := by decide +kernel
theorem dX0_isOf_1 : decode cX0_isOf 1 = .ok (.getfield 15, 3) := by decide +kernel
theorem dX0_isOf_4 : decode cX0_isOf 4 = .ok (.istore_n 2, 1) := by decide +kernel
theorem dX0_isOf_5 : decode cX0_isOf 5 = .ok (.iconst 0, 1) := by decide +kernel
theorem dX0_isOf_6 : decode cX0_isOf 6 = .ok (.istore_n 3, 1) := by decide +kernel
theorem dX0_isOf_7 : decode cX0_isOf 7 = .ok (.iload_n 3, 1) := by decide +kernel
theorem dX0_isOf_8 : decode cX0_isOf 8 = .ok (.bipush 8, 2) := by decide +kernel
theorem dX0_isOf_10 : decode cX0_isOf 10 = .ok (.if_icmp .ge 25, 3) := by decide +kernel
theorem dX0_isOf_13 : decode cX0_isOf 13 = .ok (.iload_n 2, 1) := by decide +kernel
theorem dX0_isOf_14 : decode cX0_isOf 14 = .ok (.ifCond .lt 21, 3) := by decide +kernel
theorem dX0_isOf_17 : decode cX0_isOf 17 = .ok (.iload_n 2, 1) := by decide +kernel
theorem dX0_isOf_18 : decode cX0_isOf 18 = .ok (.iload_n 1, 1) := by decide +kernel
theorem dX0_isOf_19 : decode cX0_isOf 19 = .ok (.if_icmp .ne 5, 3) := by decide +kernel
theorem dX0_isOf_22 : decode cX0_isOf 22 = .ok (.iconst 1, 1) := by decide +kernel
theorem dX0_isOf_23 : decode cX0_isOf 23 = .ok (.ireturn, 1) := by decide +kernel
theorem dX0_isOf_24 : decode cX0_isOf 24 = .ok (.iload_n 2, 1) := by decide +kernel
theorem dX0_isOf_25 : decode cX0_isOf 25 = .ok (.invokestatic 30, 3) := by decide +kernel
theorem dX0_isOf_28 : decode cX0_isOf 28 = .ok (.istore_n 2, 1) := by decide +kernel
theorem dX0_isOf_29 : decode cX0_isOf 29 = .ok (.iinc 3 1, 3) := by decide +kernel
theorem dX0_isOf_32 : decode cX0_isOf 32 = .ok (.goto (-25), 3) := by decide +kernel
theorem dX0_isOf_35 : decode cX0_isOf 35 = .ok (.iconst 0, 1) := by decide +kernel
theorem dX0_isOf_36 : decode cX0_isOf 36 = .ok (.ireturn, 1) := by decide +kernel
theorem dX1_init_0 : decode cX1_init 0 = .ok (.aload_n 0, 1) := by decide +kernel
theorem dX1_init_1 : decode cX1_init 1 = .ok (.invokespecial 3, 3) := by decide +kernel
theorem dX1_init_4 : decode cX1_init 4 = .ok (.aload_n 0, 1) := by decide +kernel
theorem dX1_init_5 : decode cX1_init 5 = .ok (.new 9, 3) := by decide +kernel
theorem dX1_init_8 : decode cX1_init 8 = .ok (.dup, 1) := by decide +kernel
theorem dX1_init_9 : decode cX1_init 9 = .ok (.invokespecial 11, 3) := by decide +kernel
theorem dX1_init_12 : decode cX1_init 12 = .ok (.putfield 12, 3) := by decide +kernel
theorem dX1_init_15 : decode cX1_init 15 = .ok (.aload_n 0, 1) := by decide +kernel
theorem dX1_init_16 : decode cX1_init 16 = .ok (.new 9, 3) := by decide +kernel
theorem dX1_init_19 : decode cX1_init 19 = .ok (.dup, 1) := by decide +kernel
theorem dX1_init_20 : decode cX1_init 20 = .ok (.invokespecial 11, 3) := by decide +kernel
theorem dX1_init_23 : decode cX1_init 23 = .ok (.putfield 18, 3) := by decide +kernel
theorem dX1_init_26 : decode cX1_init 26 = .ok (.aload_n 0, 1) := by decide +kernel
theorem dX1_init_27 : decode cX1_init 27 = .ok (.new 21, 3) := by decide +kernel
theorem dX1_init_30 : decode cX1_init 30 = .ok (.dup, 1) := by decide +kernel
theorem dX1_init_31 : decode cX1_init 31 = .ok (.bipush 96, 2) := by decide +kernel
theorem dX1_init_33 : decode cX1_init 33 = .ok (.invokespecial 23, 3) := by decide +kernel
theorem dX1_init_36 : decode cX1_init 36 = .ok (.putfield 26, 3) := by decide +kernel
theorem dX1_init_39 : decode cX1_init 39 = .ok (.aload_n 0, 1) := by decide +kernel
theorem dX1_init_40 : decode cX1_init 40 = .ok (.new 21, 3) := by decide +kernel
theorem dX1_init_43 : decode cX1_init 43 = .ok (.dup, 1) := by decide +kernel
theorem dX1_init_44 : decode cX1_init 44 = .ok (.sipush 802, 3) := by decide +kernel
theorem dX1_init_47 : decode cX1_init 47 = .ok (.invokespecial 23, 3) := by decide +kernel
theorem dX1_init_50 : decode cX1_init 50 = .ok (.putfield 30, 3) := by decide +kernel
theorem dX1_init_53 : decode cX1_init 53 = .ok (.return_, 1) := by decide +kernel
theorem dX1_hear_0 : decode cX1_hear 0 = .ok (.aload_n 0, 1) := by decide +kernel
theorem dX1_hear_1 : decode cX1_hear 1 = .ok (.getfield 12, 3) := by decide +kernel
theorem dX1_hear_4 : decode cX1_hear 4 = .ok (.aload_n 1, 1) := by decide +kernel
theorem dX1_hear_5 : decode cX1_hear 5 = .ok (.iload_n 2, 1) := by decide +kernel
theorem dX1_hear_6 : decode cX1_hear 6 = .ok (.bipush 10, 2) := by decide +kernel
theorem dX1_hear_8 : decode cX1_hear 8 = .ok (.idiv, 1) := by decide +kernel
theorem dX1_hear_9 : decode cX1_hear 9 = .ok (.invokevirtual 33, 3) := by decide +kernel
theorem dX1_hear_12 : decode cX1_hear 12 = .ok (.aload_n 0, 1) := by decide +kernel
theorem dX1_hear_13 : decode cX1_hear 13 = .ok (.getfield 18, 3) := by decide +kernel
theorem dX1_hear_16 : decode cX1_hear 16 = .ok (.aload_n 1, 1) := by decide +kernel
theorem dX1_hear_17 : decode cX1_hear 17 = .ok (.iload_n 2, 1) := by decide +kernel
theorem dX1_hear_18 : decode cX1_hear 18 = .ok (.bipush 10, 2) := by decide +kernel
theorem dX1_hear_20 : decode cX1_hear 20 = .ok (.irem, 1) := by decide +kernel
theorem dX1_hear_21 : decode cX1_hear 21 = .ok (.invokevirtual 33, 3) := by decide +kernel
theorem dX1_hear_24 : decode cX1_hear 24 = .ok (.return_, 1) := by decide +kernel
theorem dX1_drawLine_0 : decode cX1_drawLine 0 = .ok (.aload_n 0, 1) := by decide +kernel
theorem dX1_drawLine_1 : decode cX1_drawLine 1 = .ok (.getfield 12, 3) := by decide +kernel
theorem dX1_drawLine_4 : decode cX1_drawLine 4 = .ok (.iload_n 1, 1) := by decide +kernel
theorem dX1_drawLine_5 : decode cX1_drawLine 5 = .ok (.invokevirtual 37, 3) := by decide +kernel
theorem dX1_drawLine_8 : decode cX1_drawLine 8 = .ok (.aload_n 0, 1) := by decide +kernel
theorem dX1_drawLine_9 : decode cX1_drawLine 9 = .ok (.getfield 18, 3) := by decide +kernel
theorem dX1_drawLine_12 : decode cX1_drawLine 12 = .ok (.iload_n 1, 1) := by decide +kernel
theorem dX1_drawLine_13 : decode cX1_drawLine 13 = .ok (.invokevirtual 37, 3) := by decide +kernel
theorem dX1_drawLine_16 : decode cX1_drawLine 16 = .ok (.return_, 1) := by decide +kernel
theorem dX1_meeting_0 : decode cX1_meeting 0 = .ok (.aload_n 0, 1) := by decide +kernel
theorem dX1_meeting_1 : decode cX1_meeting 1 = .ok (.getfield 18, 3) := by decide +kernel
theorem dX1_meeting_4 : decode cX1_meeting 4 = .ok (.getfield 40, 3) := by decide +kernel
theorem dX1_meeting_7 : decode cX1_meeting 7 = .ok (.astore_n 3, 1) := by decide +kernel
theorem dX1_meeting_8 : decode cX1_meeting 8 = .ok (.aload_n 0, 1) := by decide +kernel
theorem dX1_meeting_9 : decode cX1_meeting 9 = .ok (.getfield 26, 3) := by decide +kernel
theorem dX1_meeting_12 : decode cX1_meeting 12 = .ok (.invokevirtual 43, 3) := by decide +kernel
theorem dX1_meeting_15 : decode cX1_meeting 15 = .ok (.iconst 0, 1) := by decide +kernel
theorem dX1_meeting_16 : decode cX1_meeting 16 = .ok (.istore 4, 2) := by decide +kernel
theorem dX1_meeting_18 : decode cX1_meeting 18 = .ok (.iconst 0, 1) := by decide +kernel
theorem dX1_meeting_19 : decode cX1_meeting 19 = .ok (.istore 5, 2) := by decide +kernel
theorem dX1_meeting_21 : decode cX1_meeting 21 = .ok (.iload 5, 2) := by decide +kernel
theorem dX1_meeting_23 : decode cX1_meeting 23 = .ok (.aload_n 0, 1) := by decide +kernel
theorem dX1_meeting_24 : decode cX1_meeting 24 = .ok (.getfield 12, 3) := by decide +kernel
theorem dX1_meeting_27 : decode cX1_meeting 27 = .ok (.getfield 40, 3) := by decide +kernel
theorem dX1_meeting_30 : decode cX1_meeting 30 = .ok (.invokevirtual 46, 3) := by decide +kernel
theorem dX1_meeting_33 : decode cX1_meeting 33 = .ok (.if_icmp .ge 95, 3) := by decide +kernel
theorem dX1_meeting_36 : decode cX1_meeting 36 = .ok (.aload_n 0, 1) := by decide +kernel
theorem dX1_meeting_37 : decode cX1_meeting 37 = .ok (.getfield 12, 3) := by decide +kernel
theorem dX1_meeting_40 : decode cX1_meeting 40 = .ok (.getfield 40, 3) := by decide +kernel
theorem dX1_meeting_43 : decode cX1_meeting 43 = .ok (.iload 5, 2) := by decide +kernel
theorem dX1_meeting_45 : decode cX1_meeting 45 = .ok (.invokevirtual 50, 3) := by decide +kernel
theorem dX1_meeting_48 : decode cX1_meeting 48 = .ok (.iload_n 2, 1) := by decide +kernel
theorem dX1_meeting_49 : decode cX1_meeting 49 = .ok (.isub, 1) := by decide +kernel
theorem dX1_meeting_50 : decode cX1_meeting 50 = .ok (.istore 6, 2) := by decide +kernel
theorem dX1_meeting_52 : decode cX1_meeting 52 = .ok (.iload 4, 2) := by decide +kernel
theorem dX1_meeting_54 : decode cX1_meeting 54 = .ok (.aload_n 3, 1) := by decide +kernel
theorem dX1_meeting_55 : decode cX1_meeting 55 = .ok (.invokevirtual 46, 3) := by decide +kernel
theorem dX1_meeting_58 : decode cX1_meeting 58 = .ok (.if_icmp .ge 22, 3) := by decide +kernel
theorem dX1_meeting_61 : decode cX1_meeting 61 = .ok (.aload_n 3, 1) := by decide +kernel
theorem dX1_meeting_62 : decode cX1_meeting 62 = .ok (.iload 4, 2) := by decide +kernel
theorem dX1_meeting_64 : decode cX1_meeting 64 = .ok (.invokevirtual 50, 3) := by decide +kernel
theorem dX1_meeting_67 : decode cX1_meeting 67 = .ok (.iload 6, 2) := by decide +kernel
theorem dX1_meeting_69 : decode cX1_meeting 69 = .ok (.iload_n 1, 1) := by decide +kernel
theorem dX1_meeting_70 : decode cX1_meeting 70 = .ok (.isub, 1) := by decide +kernel
theorem dX1_meeting_71 : decode cX1_meeting 71 = .ok (.if_icmp .ge 9, 3) := by decide +kernel
theorem dX1_meeting_74 : decode cX1_meeting 74 = .ok (.iinc 4 1, 3) := by decide +kernel
theorem dX1_meeting_77 : decode cX1_meeting 77 = .ok (.goto (-25), 3) := by decide +kernel
theorem dX1_meeting_80 : decode cX1_meeting 80 = .ok (.iload 4, 2) := by decide +kernel
theorem dX1_meeting_82 : decode cX1_meeting 82 = .ok (.aload_n 3, 1) := by decide +kernel
theorem dX1_meeting_83 : decode cX1_meeting 83 = .ok (.invokevirtual 46, 3) := by decide +kernel
theorem dX1_meeting_86 : decode cX1_meeting 86 = .ok (.if_icmp .ge 36, 3) := by decide +kernel
theorem dX1_meeting_89 : decode cX1_meeting 89 = .ok (.aload_n 3, 1) := by decide +kernel
theorem dX1_meeting_90 : decode cX1_meeting 90 = .ok (.iload 4, 2) := by decide +kernel
theorem dX1_meeting_92 : decode cX1_meeting 92 = .ok (.invokevirtual 50, 3) := by decide +kernel
theorem dX1_meeting_95 : decode cX1_meeting 95 = .ok (.iload 6, 2) := by decide +kernel
theorem dX1_meeting_97 : decode cX1_meeting 97 = .ok (.iload_n 1, 1) := by decide +kernel
theorem dX1_meeting_98 : decode cX1_meeting 98 = .ok (.iadd, 1) := by decide +kernel
theorem dX1_meeting_99 : decode cX1_meeting 99 = .ok (.if_icmp .gt 23, 3) := by decide +kernel
theorem dX1_meeting_102 : decode cX1_meeting 102 = .ok (.aload_n 0, 1) := by decide +kernel
theorem dX1_meeting_103 : decode cX1_meeting 103 = .ok (.getfield 26, 3) := by decide +kernel
theorem dX1_meeting_106 : decode cX1_meeting 106 = .ok (.aload_n 0, 1) := by decide +kernel
theorem dX1_meeting_107 : decode cX1_meeting 107 = .ok (.getfield 12, 3) := by decide +kernel
theorem dX1_meeting_110 : decode cX1_meeting 110 = .ok (.getfield 54, 3) := by decide +kernel
theorem dX1_meeting_113 : decode cX1_meeting 113 = .ok (.iload 5, 2) := by decide +kernel
theorem dX1_meeting_115 : decode cX1_meeting 115 = .ok (.invokevirtual 50, 3) := by decide +kernel
theorem dX1_meeting_118 : decode cX1_meeting 118 = .ok (.invokevirtual 57, 3) := by decide +kernel
theorem dX1_meeting_121 : decode cX1_meeting 121 = .ok (.pop, 1) := by decide +kernel
theorem dX1_meeting_122 : decode cX1_meeting 122 = .ok (.iinc 5 1, 3) := by decide +kernel
theorem dX1_meeting_125 : decode cX1_meeting 125 = .ok (.goto (-104), 3) := by decide +kernel
theorem dX1_meeting_128 : decode cX1_meeting 128 = .ok (.aload_n 0, 1) := by decide +kernel
theorem dX1_meeting_129 : decode cX1_meeting 129 = .ok (.getfield 26, 3) := by decide +kernel
theorem dX1_meeting_132 : decode cX1_meeting 132 = .ok (.invokevirtual 46, 3) := by decide +kernel
theorem dX1_meeting_135 : decode cX1_meeting 135 = .ok (.ireturn, 1) := by decide +kernel
theorem dX1_nearTwo_0 : decode cX1_nearTwo 0 = .ok (.aload_n 0, 1) := by decide +kernel
theorem dX1_nearTwo_1 : decode cX1_nearTwo 1 = .ok (.getfield 12, 3) := by decide +kernel
theorem dX1_nearTwo_4 : decode cX1_nearTwo 4 = .ok (.getfield 40, 3) := by decide +kernel
theorem dX1_nearTwo_7 : decode cX1_nearTwo 7 = .ok (.astore_n 2, 1) := by decide +kernel
theorem dX1_nearTwo_8 : decode cX1_nearTwo 8 = .ok (.iconst 0, 1) := by decide +kernel
theorem dX1_nearTwo_9 : decode cX1_nearTwo 9 = .ok (.istore_n 3, 1) := by decide +kernel
theorem dX1_nearTwo_10 : decode cX1_nearTwo 10 = .ok (.iconst 0, 1) := by decide +kernel
theorem dX1_nearTwo_11 : decode cX1_nearTwo 11 = .ok (.istore 4, 2) := by decide +kernel
theorem dX1_nearTwo_13 : decode cX1_nearTwo 13 = .ok (.iconst 0, 1) := by decide +kernel
theorem dX1_nearTwo_14 : decode cX1_nearTwo 14 = .ok (.istore 5, 2) := by decide +kernel
theorem dX1_nearTwo_16 : decode cX1_nearTwo 16 = .ok (.iload 5, 2) := by decide +kernel
theorem dX1_nearTwo_18 : decode cX1_nearTwo 18 = .ok (.aload_n 0, 1) := by decide +kernel
theorem dX1_nearTwo_19 : decode cX1_nearTwo 19 = .ok (.getfield 18, 3) := by decide +kernel
theorem dX1_nearTwo_22 : decode cX1_nearTwo 22 = .ok (.getfield 40, 3) := by decide +kernel
theorem dX1_nearTwo_25 : decode cX1_nearTwo 25 = .ok (.invokevirtual 46, 3) := by decide +kernel
theorem dX1_nearTwo_28 : decode cX1_nearTwo 28 = .ok (.if_icmp .ge 80, 3) := by decide +kernel
theorem dX1_nearTwo_31 : decode cX1_nearTwo 31 = .ok (.aload_n 0, 1) := by decide +kernel
theorem dX1_nearTwo_32 : decode cX1_nearTwo 32 = .ok (.getfield 18, 3) := by decide +kernel
theorem dX1_nearTwo_35 : decode cX1_nearTwo 35 = .ok (.getfield 40, 3) := by decide +kernel
theorem dX1_nearTwo_38 : decode cX1_nearTwo 38 = .ok (.iload 5, 2) := by decide +kernel
theorem dX1_nearTwo_40 : decode cX1_nearTwo 40 = .ok (.invokevirtual 50, 3) := by decide +kernel
theorem dX1_nearTwo_43 : decode cX1_nearTwo 43 = .ok (.istore 6, 2) := by decide +kernel
theorem dX1_nearTwo_45 : decode cX1_nearTwo 45 = .ok (.iload 4, 2) := by decide +kernel
theorem dX1_nearTwo_47 : decode cX1_nearTwo 47 = .ok (.aload_n 2, 1) := by decide +kernel
theorem dX1_nearTwo_48 : decode cX1_nearTwo 48 = .ok (.invokevirtual 46, 3) := by decide +kernel
theorem dX1_nearTwo_51 : decode cX1_nearTwo 51 = .ok (.if_icmp .ge 22, 3) := by decide +kernel
theorem dX1_nearTwo_54 : decode cX1_nearTwo 54 = .ok (.aload_n 2, 1) := by decide +kernel
theorem dX1_nearTwo_55 : decode cX1_nearTwo 55 = .ok (.iload 4, 2) := by decide +kernel
theorem dX1_nearTwo_57 : decode cX1_nearTwo 57 = .ok (.invokevirtual 50, 3) := by decide +kernel
theorem dX1_nearTwo_60 : decode cX1_nearTwo 60 = .ok (.iload 6, 2) := by decide +kernel
theorem dX1_nearTwo_62 : decode cX1_nearTwo 62 = .ok (.iload_n 1, 1) := by decide +kernel
theorem dX1_nearTwo_63 : decode cX1_nearTwo 63 = .ok (.isub, 1) := by decide +kernel
theorem dX1_nearTwo_64 : decode cX1_nearTwo 64 = .ok (.if_icmp .ge 9, 3) := by decide +kernel
theorem dX1_nearTwo_67 : decode cX1_nearTwo 67 = .ok (.iinc 4 1, 3) := by decide +kernel
theorem dX1_nearTwo_70 : decode cX1_nearTwo 70 = .ok (.goto (-25), 3) := by decide +kernel
theorem dX1_nearTwo_73 : decode cX1_nearTwo 73 = .ok (.iload 4, 2) := by decide +kernel
theorem dX1_nearTwo_75 : decode cX1_nearTwo 75 = .ok (.iconst 1, 1) := by decide +kernel
theorem dX1_nearTwo_76 : decode cX1_nearTwo 76 = .ok (.iadd, 1) := by decide +kernel
theorem dX1_nearTwo_77 : decode cX1_nearTwo 77 = .ok (.aload_n 2, 1) := by decide +kernel
theorem dX1_nearTwo_78 : decode cX1_nearTwo 78 = .ok (.invokevirtual 46, 3) := by decide +kernel
theorem dX1_nearTwo_81 : decode cX1_nearTwo 81 = .ok (.if_icmp .ge 21, 3) := by decide +kernel
theorem dX1_nearTwo_84 : decode cX1_nearTwo 84 = .ok (.aload_n 2, 1) := by decide +kernel
theorem dX1_nearTwo_85 : decode cX1_nearTwo 85 = .ok (.iload 4, 2) := by decide +kernel
theorem dX1_nearTwo_87 : decode cX1_nearTwo 87 = .ok (.iconst 1, 1) := by decide +kernel
theorem dX1_nearTwo_88 : decode cX1_nearTwo 88 = .ok (.iadd, 1) := by decide +kernel
theorem dX1_nearTwo_89 : decode cX1_nearTwo 89 = .ok (.invokevirtual 50, 3) := by decide +kernel
theorem dX1_nearTwo_92 : decode cX1_nearTwo 92 = .ok (.iload 6, 2) := by decide +kernel
theorem dX1_nearTwo_94 : decode cX1_nearTwo 94 = .ok (.iload_n 1, 1) := by decide +kernel
theorem dX1_nearTwo_95 : decode cX1_nearTwo 95 = .ok (.iadd, 1) := by decide +kernel
theorem dX1_nearTwo_96 : decode cX1_nearTwo 96 = .ok (.if_icmp .gt 6, 3) := by decide +kernel
theorem dX1_nearTwo_99 : decode cX1_nearTwo 99 = .ok (.iinc 3 1, 3) := by decide +kernel
theorem dX1_nearTwo_102 : decode cX1_nearTwo 102 = .ok (.iinc 5 1, 3) := by decide +kernel
theorem dX1_nearTwo_105 : decode cX1_nearTwo 105 = .ok (.goto (-89), 3) := by decide +kernel
theorem dX1_nearTwo_108 : decode cX1_nearTwo 108 = .ok (.iload_n 3, 1) := by decide +kernel
theorem dX1_nearTwo_109 : decode cX1_nearTwo 109 = .ok (.ireturn, 1) := by decide +kernel
theorem dX1_given_0 : decode cX1_given 0 = .ok (.aload_n 0, 1) := by decide +kernel
theorem dX1_given_1 : decode cX1_given 1 = .ok (.aload_n 1, 1) := by decide +kernel
theorem dX1_given_2 : decode cX1_given 2 = .ok (.getfield 61, 3) := by decide +kernel
theorem dX1_given_5 : decode cX1_given 5 = .ok (.invokevirtual 67, 3) := by decide +kernel
theorem dX1_given_8 : decode cX1_given 8 = .ok (.aload_n 1, 1) := by decide +kernel
theorem dX1_given_9 : decode cX1_given 9 = .ok (.getfield 70, 3) := by decide +kernel
theorem dX1_given_12 : decode cX1_given 12 = .ok (.istore_n 3, 1) := by decide +kernel
theorem dX1_given_13 : decode cX1_given 13 = .ok (.aload_n 1, 1) := by decide +kernel
theorem dX1_given_14 : decode cX1_given 14 = .ok (.getfield 73, 3) := by decide +kernel
theorem dX1_given_17 : decode cX1_given 17 = .ok (.tableswitch 120 1 7 #[43, 49, 66, 84, 90, 103, 113], 43) := by decide +kernel
theorem dX1_given_60 : decode cX1_given 60 = .ok (.aload_n 0, 1) := by decide +kernel
theorem dX1_given_61 : decode cX1_given 61 = .ok (.aload_n 1, 1) := by decide +kernel
theorem dX1_given_62 : decode cX1_given 62 = .ok (.invokevirtual 76, 3) := by decide +kernel
theorem dX1_given_65 : decode cX1_given 65 = .ok (.ireturn, 1) := by decide +kernel
theorem dX1_given_66 : decode cX1_given 66 = .ok (.iconst 0, 1) := by decide +kernel
theorem dX1_given_67 : decode cX1_given 67 = .ok (.aload_n 0, 1) := by decide +kernel
theorem dX1_given_68 : decode cX1_given 68 = .ok (.iload_n 3, 1) := by decide +kernel
theorem dX1_given_69 : decode cX1_given 69 = .ok (.iconst 0, 1) := by decide +kernel
theorem dX1_given_70 : decode cX1_given 70 = .ok (.invokevirtual 80, 3) := by decide +kernel
theorem dX1_given_73 : decode cX1_given 73 = .ok (.aload_n 0, 1) := by decide +kernel
theorem dX1_given_74 : decode cX1_given 74 = .ok (.aload_n 1, 1) := by decide +kernel
theorem dX1_given_75 : decode cX1_given 75 = .ok (.invokevirtual 76, 3) := by decide +kernel
theorem dX1_given_78 : decode cX1_given 78 = .ok (.isub, 1) := by decide +kernel
theorem dX1_given_79 : decode cX1_given 79 = .ok (.invokestatic 84, 3) := by decide +kernel
theorem dX1_given_82 : decode cX1_given 82 = .ok (.ireturn, 1) := by decide +kernel
theorem dX1_given_83 : decode cX1_given 83 = .ok (.aload_n 0, 1) := by decide +kernel
theorem dX1_given_84 : decode cX1_given 84 = .ok (.getfield 12, 3) := by decide +kernel
theorem dX1_given_87 : decode cX1_given 87 = .ok (.getfield 54, 3) := by decide +kernel
theorem dX1_given_90 : decode cX1_given 90 = .ok (.invokevirtual 46, 3) := by decide +kernel
theorem dX1_given_93 : decode cX1_given 93 = .ok (.aload_n 0, 1) := by decide +kernel
theorem dX1_given_94 : decode cX1_given 94 = .ok (.iload_n 3, 1) := by decide +kernel
theorem dX1_given_95 : decode cX1_given 95 = .ok (.iconst 0, 1) := by decide +kernel
theorem dX1_given_96 : decode cX1_given 96 = .ok (.invokevirtual 80, 3) := by decide +kernel
theorem dX1_given_99 : decode cX1_given 99 = .ok (.isub, 1) := by decide +kernel
theorem dX1_given_100 : decode cX1_given 100 = .ok (.ireturn, 1) := by decide +kernel
theorem dX1_given_101 : decode cX1_given 101 = .ok (.aload_n 0, 1) := by decide +kernel
theorem dX1_given_102 : decode cX1_given 102 = .ok (.aload_n 1, 1) := by decide +kernel
theorem dX1_given_103 : decode cX1_given 103 = .ok (.invokevirtual 89, 3) := by decide +kernel
theorem dX1_given_106 : decode cX1_given 106 = .ok (.ireturn, 1) := by decide +kernel
theorem dX1_given_107 : decode cX1_given 107 = .ok (.aload_n 0, 1) := by decide +kernel
theorem dX1_given_108 : decode cX1_given 108 = .ok (.iload_n 3, 1) := by decide +kernel
theorem dX1_given_109 : decode cX1_given 109 = .ok (.iconst 0, 1) := by decide +kernel
theorem dX1_given_110 : decode cX1_given 110 = .ok (.invokevirtual 80, 3) := by decide +kernel
theorem dX1_given_113 : decode cX1_given 113 = .ok (.aload_n 0, 1) := by decide +kernel
theorem dX1_given_114 : decode cX1_given 114 = .ok (.iload_n 3, 1) := by decide +kernel
theorem dX1_given_115 : decode cX1_given 115 = .ok (.invokevirtual 92, 3) := by decide +kernel
theorem dX1_given_118 : decode cX1_given 118 = .ok (.iadd, 1) := by decide +kernel
theorem dX1_given_119 : decode cX1_given 119 = .ok (.ireturn, 1) := by decide +kernel
theorem dX1_given_120 : decode cX1_given 120 = .ok (.aload_n 0, 1) := by decide +kernel
theorem dX1_given_121 : decode cX1_given 121 = .ok (.iload_n 3, 1) := by decide +kernel
theorem dX1_given_122 : decode cX1_given 122 = .ok (.aload_n 1, 1) := by decide +kernel
theorem dX1_given_123 : decode cX1_given 123 = .ok (.getfield 95, 3) := by decide +kernel
theorem dX1_given_126 : decode cX1_given 126 = .ok (.invokevirtual 80, 3) := by decide +kernel
theorem dX1_given_129 : decode cX1_given 129 = .ok (.ireturn, 1) := by decide +kernel
theorem dX1_given_130 : decode cX1_given 130 = .ok (.aload_n 0, 1) := by decide +kernel
theorem dX1_given_131 : decode cX1_given 131 = .ok (.iload_n 3, 1) := by decide +kernel
theorem dX1_given_132 : decode cX1_given 132 = .ok (.iload_n 2, 1) := by decide +kernel
theorem dX1_given_133 : decode cX1_given 133 = .ok (.invokevirtual 80, 3) := by decide +kernel
theorem dX1_given_136 : decode cX1_given 136 = .ok (.ireturn, 1) := by decide +kernel
theorem dX1_given_137 : decode cX1_given 137 = .ok (.aload_n 0, 1) := by decide +kernel
theorem dX1_given_138 : decode cX1_given 138 = .ok (.iload_n 3, 1) := by decide +kernel
theorem dX1_given_139 : decode cX1_given 139 = .ok (.iconst 0, 1) := by decide +kernel
theorem dX1_given_140 : decode cX1_given 140 = .ok (.invokevirtual 80, 3) := by decide +kernel
theorem dX1_given_143 : decode cX1_given 143 = .ok (.ireturn, 1) := by decide +kernel
theorem dX1_warm_0 : decode cX1_warm 0 = .ok (.iconst 0, 1) := by decide +kernel
theorem dX1_warm_1 : decode cX1_warm 1 = .ok (.istore_n 2, 1) := by decide +kernel
theorem dX1_warm_2 : decode cX1_warm 2 = .ok (.iconst 1, 1) := by decide +kernel
theorem dX1_warm_3 : decode cX1_warm 3 = .ok (.istore_n 3, 1) := by decide +kernel
theorem dX1_warm_4 : decode cX1_warm 4 = .ok (.iload_n 3, 1) := by decide +kernel
theorem dX1_warm_5 : decode cX1_warm 5 = .ok (.iconst 5, 1) := by decide +kernel
theorem dX1_warm_6 : decode cX1_warm 6 = .ok (.if_icmp .gt 26, 3) := by decide +kernel
theorem dX1_warm_9 : decode cX1_warm 9 = .ok (.iload_n 2, 1) := by decide +kernel
theorem dX1_warm_10 : decode cX1_warm 10 = .ok (.aload_n 0, 1) := by decide +kernel
theorem dX1_warm_11 : decode cX1_warm 11 = .ok (.aload_n 1, 1) := by decide +kernel
theorem dX1_warm_12 : decode cX1_warm 12 = .ok (.getfield 70, 3) := by decide +kernel
theorem dX1_warm_15 : decode cX1_warm 15 = .ok (.iload_n 3, 1) := by decide +kernel
theorem dX1_warm_16 : decode cX1_warm 16 = .ok (.aload_n 1, 1) := by decide +kernel
theorem dX1_warm_17 : decode cX1_warm 17 = .ok (.getfield 95, 3) := by decide +kernel
theorem dX1_warm_20 : decode cX1_warm 20 = .ok (.imul, 1) := by decide +kernel
theorem dX1_warm_21 : decode cX1_warm 21 = .ok (.invokevirtual 80, 3) := by decide +kernel
theorem dX1_warm_24 : decode cX1_warm 24 = .ok (.iadd, 1) := by decide +kernel
theorem dX1_warm_25 : decode cX1_warm 25 = .ok (.istore_n 2, 1) := by decide +kernel
theorem dX1_warm_26 : decode cX1_warm 26 = .ok (.iinc 3 1, 3) := by decide +kernel
theorem dX1_warm_29 : decode cX1_warm 29 = .ok (.goto (-25), 3) := by decide +kernel
theorem dX1_warm_32 : decode cX1_warm 32 = .ok (.iload_n 2, 1) := by decide +kernel
theorem dX1_warm_33 : decode cX1_warm 33 = .ok (.iconst 5, 1) := by decide +kernel
theorem dX1_warm_34 : decode cX1_warm 34 = .ok (.idiv, 1) := by decide +kernel
theorem dX1_warm_35 : decode cX1_warm 35 = .ok (.ireturn, 1) := by decide +kernel
theorem dX1_lined_0 : decode cX1_lined 0 = .ok (.bipush (-96), 2) := by decide +kernel
theorem dX1_lined_2 : decode cX1_lined 2 = .ok (.istore_n 2, 1) := by decide +kernel
theorem dX1_lined_3 : decode cX1_lined 3 = .ok (.aload_n 1, 1) := by decide +kernel
theorem dX1_lined_4 : decode cX1_lined 4 = .ok (.getfield 61, 3) := by decide +kernel
theorem dX1_lined_7 : decode cX1_lined 7 = .ok (.istore_n 3, 1) := by decide +kernel
theorem dX1_lined_8 : decode cX1_lined 8 = .ok (.iload_n 3, 1) := by decide +kernel
theorem dX1_lined_9 : decode cX1_lined 9 = .ok (.sipush 999, 3) := by decide +kernel
theorem dX1_lined_12 : decode cX1_lined 12 = .ok (.if_icmp .gt 41, 3) := by decide +kernel
theorem dX1_lined_15 : decode cX1_lined 15 = .ok (.aload_n 0, 1) := by decide +kernel
theorem dX1_lined_16 : decode cX1_lined 16 = .ok (.iload_n 3, 1) := by decide +kernel
theorem dX1_lined_17 : decode cX1_lined 17 = .ok (.invokevirtual 67, 3) := by decide +kernel
theorem dX1_lined_20 : decode cX1_lined 20 = .ok (.iload_n 2, 1) := by decide +kernel
theorem dX1_lined_21 : decode cX1_lined 21 = .ok (.aload_n 0, 1) := by decide +kernel
theorem dX1_lined_22 : decode cX1_lined 22 = .ok (.aload_n 1, 1) := by decide +kernel
theorem dX1_lined_23 : decode cX1_lined 23 = .ok (.getfield 70, 3) := by decide +kernel
theorem dX1_lined_26 : decode cX1_lined 26 = .ok (.iconst 0, 1) := by decide +kernel
theorem dX1_lined_27 : decode cX1_lined 27 = .ok (.invokevirtual 80, 3) := by decide +kernel
theorem dX1_lined_30 : decode cX1_lined 30 = .ok (.aload_n 0, 1) := by decide +kernel
theorem dX1_lined_31 : decode cX1_lined 31 = .ok (.aload_n 1, 1) := by decide +kernel
theorem dX1_lined_32 : decode cX1_lined 32 = .ok (.getfield 70, 3) := by decide +kernel
theorem dX1_lined_35 : decode cX1_lined 35 = .ok (.aload_n 1, 1) := by decide +kernel
theorem dX1_lined_36 : decode cX1_lined 36 = .ok (.getfield 95, 3) := by decide +kernel
theorem dX1_lined_39 : decode cX1_lined 39 = .ok (.invokevirtual 80, 3) := by decide +kernel
theorem dX1_lined_42 : decode cX1_lined 42 = .ok (.isub, 1) := by decide +kernel
theorem dX1_lined_43 : decode cX1_lined 43 = .ok (.invokestatic 84, 3) := by decide +kernel
theorem dX1_lined_46 : decode cX1_lined 46 = .ok (.istore_n 2, 1) := by decide +kernel
theorem dX1_lined_47 : decode cX1_lined 47 = .ok (.iinc 3 50, 3) := by decide +kernel
theorem dX1_lined_50 : decode cX1_lined 50 = .ok (.goto (-42), 3) := by decide +kernel
theorem dX1_lined_53 : decode cX1_lined 53 = .ok (.iload_n 2, 1) := by decide +kernel
theorem dX1_lined_54 : decode cX1_lined 54 = .ok (.ireturn, 1) := by decide +kernel
theorem dX1_meetBySlides_0 : decode cX1_meetBySlides 0 = .ok (.aload_n 0, 1) := by decide +kernel
theorem dX1_meetBySlides_1 : decode cX1_meetBySlides 1 = .ok (.getfield 30, 3) := by decide +kernel
theorem dX1_meetBySlides_4 : decode cX1_meetBySlides 4 = .ok (.iconst 2, 1) := by decide +kernel
theorem dX1_meetBySlides_5 : decode cX1_meetBySlides 5 = .ok (.iload_n 2, 1) := by decide +kernel
theorem dX1_meetBySlides_6 : decode cX1_meetBySlides 6 = .ok (.imul, 1) := by decide +kernel
theorem dX1_meetBySlides_7 : decode cX1_meetBySlides 7 = .ok (.iconst 2, 1) := by decide +kernel
theorem dX1_meetBySlides_8 : decode cX1_meetBySlides 8 = .ok (.iadd, 1) := by decide +kernel
theorem dX1_meetBySlides_9 : decode cX1_meetBySlides 9 = .ok (.iconst 0, 1) := by decide +kernel
theorem dX1_meetBySlides_10 : decode cX1_meetBySlides 10 = .ok (.invokevirtual 98, 3) := by decide +kernel
theorem dX1_meetBySlides_13 : decode cX1_meetBySlides 13 = .ok (.iconst 0, 1) := by decide +kernel
theorem dX1_meetBySlides_14 : decode cX1_meetBySlides 14 = .ok (.istore_n 3, 1) := by decide +kernel
theorem dX1_meetBySlides_15 : decode cX1_meetBySlides 15 = .ok (.iload_n 3, 1) := by decide +kernel
theorem dX1_meetBySlides_16 : decode cX1_meetBySlides 16 = .ok (.aload_n 0, 1) := by decide +kernel
theorem dX1_meetBySlides_17 : decode cX1_meetBySlides 17 = .ok (.getfield 12, 3) := by decide +kernel
theorem dX1_meetBySlides_20 : decode cX1_meetBySlides 20 = .ok (.getfield 40, 3) := by decide +kernel
theorem dX1_meetBySlides_23 : decode cX1_meetBySlides 23 = .ok (.invokevirtual 46, 3) := by decide +kernel
theorem dX1_meetBySlides_26 : decode cX1_meetBySlides 26 = .ok (.if_icmp .ge 26, 3) := by decide +kernel
theorem dX1_meetBySlides_29 : decode cX1_meetBySlides 29 = .ok (.aload_n 0, 1) := by decide +kernel
theorem dX1_meetBySlides_30 : decode cX1_meetBySlides 30 = .ok (.aload_n 0, 1) := by decide +kernel
theorem dX1_meetBySlides_31 : decode cX1_meetBySlides 31 = .ok (.getfield 12, 3) := by decide +kernel
theorem dX1_meetBySlides_34 : decode cX1_meetBySlides 34 = .ok (.getfield 40, 3) := by decide +kernel
theorem dX1_meetBySlides_37 : decode cX1_meetBySlides 37 = .ok (.iload_n 3, 1) := by decide +kernel
theorem dX1_meetBySlides_38 : decode cX1_meetBySlides 38 = .ok (.invokevirtual 50, 3) := by decide +kernel
theorem dX1_meetBySlides_41 : decode cX1_meetBySlides 41 = .ok (.iload_n 1, 1) := by decide +kernel
theorem dX1_meetBySlides_42 : decode cX1_meetBySlides 42 = .ok (.iload_n 2, 1) := by decide +kernel
theorem dX1_meetBySlides_43 : decode cX1_meetBySlides 43 = .ok (.invokevirtual 102, 3) := by decide +kernel
theorem dX1_meetBySlides_46 : decode cX1_meetBySlides 46 = .ok (.iinc 3 1, 3) := by decide +kernel
theorem dX1_meetBySlides_49 : decode cX1_meetBySlides 49 = .ok (.goto (-34), 3) := by decide +kernel
theorem dX1_meetBySlides_52 : decode cX1_meetBySlides 52 = .ok (.iconst 1, 1) := by decide +kernel
theorem dX1_meetBySlides_53 : decode cX1_meetBySlides 53 = .ok (.istore_n 3, 1) := by decide +kernel
theorem dX1_meetBySlides_54 : decode cX1_meetBySlides 54 = .ok (.iload_n 3, 1) := by decide +kernel
theorem dX1_meetBySlides_55 : decode cX1_meetBySlides 55 = .ok (.aload_n 0, 1) := by decide +kernel
theorem dX1_meetBySlides_56 : decode cX1_meetBySlides 56 = .ok (.getfield 30, 3) := by decide +kernel
theorem dX1_meetBySlides_59 : decode cX1_meetBySlides 59 = .ok (.invokevirtual 46, 3) := by decide +kernel
theorem dX1_meetBySlides_62 : decode cX1_meetBySlides 62 = .ok (.if_icmp .ge 27, 3) := by decide +kernel
theorem dX1_meetBySlides_65 : decode cX1_meetBySlides 65 = .ok (.aload_n 0, 1) := by decide +kernel
theorem dX1_meetBySlides_66 : decode cX1_meetBySlides 66 = .ok (.getfield 30, 3) := by decide +kernel
theorem dX1_meetBySlides_69 : decode cX1_meetBySlides 69 = .ok (.iload_n 3, 1) := by decide +kernel
theorem dX1_meetBySlides_70 : decode cX1_meetBySlides 70 = .ok (.aload_n 0, 1) := by decide +kernel
theorem dX1_meetBySlides_71 : decode cX1_meetBySlides 71 = .ok (.getfield 30, 3) := by decide +kernel
theorem dX1_meetBySlides_74 : decode cX1_meetBySlides 74 = .ok (.iload_n 3, 1) := by decide +kernel
theorem dX1_meetBySlides_75 : decode cX1_meetBySlides 75 = .ok (.iconst 1, 1) := by decide +kernel
theorem dX1_meetBySlides_76 : decode cX1_meetBySlides 76 = .ok (.isub, 1) := by decide +kernel
theorem dX1_meetBySlides_77 : decode cX1_meetBySlides 77 = .ok (.invokevirtual 50, 3) := by decide +kernel
theorem dX1_meetBySlides_80 : decode cX1_meetBySlides 80 = .ok (.invokevirtual 106, 3) := by decide +kernel
theorem dX1_meetBySlides_83 : decode cX1_meetBySlides 83 = .ok (.iinc 3 1, 3) := by decide +kernel
theorem dX1_meetBySlides_86 : decode cX1_meetBySlides 86 = .ok (.goto (-32), 3) := by decide +kernel
theorem dX1_meetBySlides_89 : decode cX1_meetBySlides 89 = .ok (.return_, 1) := by decide +kernel
theorem dX1_markSlides_0 : decode cX1_markSlides 0 = .ok (.iload_n 3, 1) := by decide +kernel
theorem dX1_markSlides_1 : decode cX1_markSlides 1 = .ok (.ineg, 1) := by decide +kernel
theorem dX1_markSlides_2 : decode cX1_markSlides 2 = .ok (.istore 4, 2) := by decide +kernel
theorem dX1_markSlides_4 : decode cX1_markSlides 4 = .ok (.aload_n 0, 1) := by decide +kernel
theorem dX1_markSlides_5 : decode cX1_markSlides 5 = .ok (.getfield 18, 3) := by decide +kernel
theorem dX1_markSlides_8 : decode cX1_markSlides 8 = .ok (.getfield 40, 3) := by decide +kernel
theorem dX1_markSlides_11 : decode cX1_markSlides 11 = .ok (.invokevirtual 46, 3) := by decide +kernel
theorem dX1_markSlides_14 : decode cX1_markSlides 14 = .ok (.iconst 1, 1) := by decide +kernel
theorem dX1_markSlides_15 : decode cX1_markSlides 15 = .ok (.isub, 1) := by decide +kernel
theorem dX1_markSlides_16 : decode cX1_markSlides 16 = .ok (.istore 5, 2) := by decide +kernel
theorem dX1_markSlides_18 : decode cX1_markSlides 18 = .ok (.iload 5, 2) := by decide +kernel
theorem dX1_markSlides_20 : decode cX1_markSlides 20 = .ok (.ifCond .lt 85, 3) := by decide +kernel
theorem dX1_markSlides_23 : decode cX1_markSlides 23 = .ok (.iload_n 1, 1) := by decide +kernel
theorem dX1_markSlides_24 : decode cX1_markSlides 24 = .ok (.aload_n 0, 1) := by decide +kernel
theorem dX1_markSlides_25 : decode cX1_markSlides 25 = .ok (.getfield 18, 3) := by decide +kernel
theorem dX1_markSlides_28 : decode cX1_markSlides 28 = .ok (.getfield 40, 3) := by decide +kernel
theorem dX1_markSlides_31 : decode cX1_markSlides 31 = .ok (.iload 5, 2) := by decide +kernel
theorem dX1_markSlides_33 : decode cX1_markSlides 33 = .ok (.invokevirtual 50, 3) := by decide +kernel
theorem dX1_markSlides_36 : decode cX1_markSlides 36 = .ok (.isub, 1) := by decide +kernel
theorem dX1_markSlides_37 : decode cX1_markSlides 37 = .ok (.istore 6, 2) := by decide +kernel
theorem dX1_markSlides_39 : decode cX1_markSlides 39 = .ok (.iload 4, 2) := by decide +kernel
theorem dX1_markSlides_41 : decode cX1_markSlides 41 = .ok (.iload 6, 2) := by decide +kernel
theorem dX1_markSlides_43 : decode cX1_markSlides 43 = .ok (.iload_n 2, 1) := by decide +kernel
theorem dX1_markSlides_44 : decode cX1_markSlides 44 = .ok (.isub, 1) := by decide +kernel
theorem dX1_markSlides_45 : decode cX1_markSlides 45 = .ok (.invokestatic 84, 3) := by decide +kernel
theorem dX1_markSlides_48 : decode cX1_markSlides 48 = .ok (.istore 7, 2) := by decide +kernel
theorem dX1_markSlides_50 : decode cX1_markSlides 50 = .ok (.iload_n 3, 1) := by decide +kernel
theorem dX1_markSlides_51 : decode cX1_markSlides 51 = .ok (.iload 6, 2) := by decide +kernel
theorem dX1_markSlides_53 : decode cX1_markSlides 53 = .ok (.iload_n 2, 1) := by decide +kernel
theorem dX1_markSlides_54 : decode cX1_markSlides 54 = .ok (.iadd, 1) := by decide +kernel
theorem dX1_markSlides_55 : decode cX1_markSlides 55 = .ok (.invokestatic 109, 3) := by decide +kernel
theorem dX1_markSlides_58 : decode cX1_markSlides 58 = .ok (.istore 8, 2) := by decide +kernel
theorem dX1_markSlides_60 : decode cX1_markSlides 60 = .ok (.iload 7, 2) := by decide +kernel
theorem dX1_markSlides_62 : decode cX1_markSlides 62 = .ok (.iload 8, 2) := by decide +kernel
theorem dX1_markSlides_64 : decode cX1_markSlides 64 = .ok (.if_icmp .gt 35, 3) := by decide +kernel
theorem dX1_markSlides_67 : decode cX1_markSlides 67 = .ok (.aload_n 0, 1) := by decide +kernel
theorem dX1_markSlides_68 : decode cX1_markSlides 68 = .ok (.getfield 30, 3) := by decide +kernel
theorem dX1_markSlides_71 : decode cX1_markSlides 71 = .ok (.iload 7, 2) := by decide +kernel
theorem dX1_markSlides_73 : decode cX1_markSlides 73 = .ok (.iload_n 3, 1) := by decide +kernel
theorem dX1_markSlides_74 : decode cX1_markSlides 74 = .ok (.iadd, 1) := by decide +kernel
theorem dX1_markSlides_75 : decode cX1_markSlides 75 = .ok (.iconst 1, 1) := by decide +kernel
theorem dX1_markSlides_76 : decode cX1_markSlides 76 = .ok (.invokevirtual 106, 3) := by decide +kernel
theorem dX1_markSlides_79 : decode cX1_markSlides 79 = .ok (.aload_n 0, 1) := by decide +kernel
theorem dX1_markSlides_80 : decode cX1_markSlides 80 = .ok (.getfield 30, 3) := by decide +kernel
theorem dX1_markSlides_83 : decode cX1_markSlides 83 = .ok (.iload 8, 2) := by decide +kernel
theorem dX1_markSlides_85 : decode cX1_markSlides 85 = .ok (.iconst 1, 1) := by decide +kernel
theorem dX1_markSlides_86 : decode cX1_markSlides 86 = .ok (.iadd, 1) := by decide +kernel
theorem dX1_markSlides_87 : decode cX1_markSlides 87 = .ok (.iload_n 3, 1) := by decide +kernel
theorem dX1_markSlides_88 : decode cX1_markSlides 88 = .ok (.iadd, 1) := by decide +kernel
theorem dX1_markSlides_89 : decode cX1_markSlides 89 = .ok (.iconst (-1), 1) := by decide +kernel
theorem dX1_markSlides_90 : decode cX1_markSlides 90 = .ok (.invokevirtual 106, 3) := by decide +kernel
theorem dX1_markSlides_93 : decode cX1_markSlides 93 = .ok (.iload 8, 2) := by decide +kernel
theorem dX1_markSlides_95 : decode cX1_markSlides 95 = .ok (.iconst 1, 1) := by decide +kernel
theorem dX1_markSlides_96 : decode cX1_markSlides 96 = .ok (.iadd, 1) := by decide +kernel
theorem dX1_markSlides_97 : decode cX1_markSlides 97 = .ok (.istore 4, 2) := by decide +kernel
theorem dX1_markSlides_99 : decode cX1_markSlides 99 = .ok (.iinc 5 (-1), 3) := by decide +kernel
theorem dX1_markSlides_102 : decode cX1_markSlides 102 = .ok (.goto (-84), 3) := by decide +kernel
theorem dX1_markSlides_105 : decode cX1_markSlides 105 = .ok (.return_, 1) := by decide +kernel
theorem dX1_metBySlide_0 : decode cX1_metBySlide 0 = .ok (.aload_n 0, 1) := by decide +kernel
theorem dX1_metBySlide_1 : decode cX1_metBySlide 1 = .ok (.getfield 30, 3) := by decide +kernel
theorem dX1_metBySlide_4 : decode cX1_metBySlide 4 = .ok (.iload_n 1, 1) := by decide +kernel
theorem dX1_metBySlide_5 : decode cX1_metBySlide 5 = .ok (.iload_n 2, 1) := by decide +kernel
theorem dX1_metBySlide_6 : decode cX1_metBySlide 6 = .ok (.iadd, 1) := by decide +kernel
theorem dX1_metBySlide_7 : decode cX1_metBySlide 7 = .ok (.invokevirtual 50, 3) := by decide +kernel
theorem dX1_metBySlide_10 : decode cX1_metBySlide 10 = .ok (.ireturn, 1) := by decide +kernel
theorem dX2_init_0 : decode cX2_init 0 = .ok (.aload_n 0, 1) := by decide +kernel
theorem dX2_init_1 : decode cX2_init 1 = .ok (.invokespecial 3, 3) := by decide +kernel
theorem dX2_init_4 : decode cX2_init 4 = .ok (.aload_n 0, 1) := by decide +kernel
theorem dX2_init_5 : decode cX2_init 5 = .ok (.new 9, 3) := by decide +kernel
theorem dX2_init_8 : decode cX2_init 8 = .ok (.dup, 1) := by decide +kernel
theorem dX2_init_9 : decode cX2_init 9 = .ok (.bipush 50, 2) := by decide +kernel
theorem dX2_init_11 : decode cX2_init 11 = .ok (.invokespecial 11, 3) := by decide +kernel
theorem dX2_init_14 : decode cX2_init 14 = .ok (.putfield 14, 3) := by decide +kernel
theorem dX2_init_17 : decode cX2_init 17 = .ok (.aload_n 0, 1) := by decide +kernel
theorem dX2_init_18 : decode cX2_init 18 = .ok (.new 9, 3) := by decide +kernel
theorem dX2_init_21 : decode cX2_init 21 = .ok (.dup, 1) := by decide +kernel
theorem dX2_init_22 : decode cX2_init 22 = .ok (.bipush 50, 2) := by decide +kernel
theorem dX2_init_24 : decode cX2_init 24 = .ok (.invokespecial 11, 3) := by decide +kernel
theorem dX2_init_27 : decode cX2_init 27 = .ok (.putfield 20, 3) := by decide +kernel
theorem dX2_init_30 : decode cX2_init 30 = .ok (.aload_n 0, 1) := by decide +kernel
theorem dX2_init_31 : decode cX2_init 31 = .ok (.ldc 23, 2) := by decide +kernel
theorem dX2_init_33 : decode cX2_init 33 = .ok (.putfield 25, 3) := by decide +kernel
theorem dX2_init_36 : decode cX2_init 36 = .ok (.return_, 1) := by decide +kernel
theorem dX2_read_0 : decode cX2_read 0 = .ok (.aload_n 0, 1) := by decide +kernel
theorem dX2_read_1 : decode cX2_read 1 = .ok (.getfield 14, 3) := by decide +kernel
theorem dX2_read_4 : decode cX2_read 4 = .ok (.invokevirtual 29, 3) := by decide +kernel
theorem dX2_read_7 : decode cX2_read 7 = .ok (.aload_n 0, 1) := by decide +kernel
theorem dX2_read_8 : decode cX2_read 8 = .ok (.getfield 20, 3) := by decide +kernel
theorem dX2_read_11 : decode cX2_read 11 = .ok (.aload_n 1, 1) := by decide +kernel
theorem dX2_read_12 : decode cX2_read 12 = .ok (.invokevirtual 32, 3) := by decide +kernel
theorem dX2_read_15 : decode cX2_read 15 = .ok (.aload_n 0, 1) := by decide +kernel
theorem dX2_read_16 : decode cX2_read 16 = .ok (.aload_n 2, 1) := by decide +kernel
theorem dX2_read_17 : decode cX2_read 17 = .ok (.putfield 25, 3) := by decide +kernel
theorem dX2_read_20 : decode cX2_read 20 = .ok (.aload_n 0, 1) := by decide +kernel
theorem dX2_read_21 : decode cX2_read 21 = .ok (.iconst 0, 1) := by decide +kernel
theorem dX2_read_22 : decode cX2_read 22 = .ok (.putfield 36, 3) := by decide +kernel
theorem dX2_read_25 : decode cX2_read 25 = .ok (.aload_n 0, 1) := by decide +kernel
theorem dX2_read_26 : decode cX2_read 26 = .ok (.iconst 0, 1) := by decide +kernel
theorem dX2_read_27 : decode cX2_read 27 = .ok (.iconst 0, 1) := by decide +kernel
theorem dX2_read_28 : decode cX2_read 28 = .ok (.invokevirtual 40, 3) := by decide +kernel
theorem dX2_read_31 : decode cX2_read 31 = .ok (.ifCond .eq 21, 3) := by decide +kernel
theorem dX2_read_34 : decode cX2_read 34 = .ok (.aload_n 0, 1) := by decide +kernel
theorem dX2_read_35 : decode cX2_read 35 = .ok (.getfield 36, 3) := by decide +kernel
theorem dX2_read_38 : decode cX2_read 38 = .ok (.aload_n 0, 1) := by decide +kernel
theorem dX2_read_39 : decode cX2_read 39 = .ok (.getfield 20, 3) := by decide +kernel
theorem dX2_read_42 : decode cX2_read 42 = .ok (.invokevirtual 44, 3) := by decide +kernel
theorem dX2_read_45 : decode cX2_read 45 = .ok (.if_icmp .ne 7, 3) := by decide +kernel
theorem dX2_read_48 : decode cX2_read 48 = .ok (.iconst 1, 1) := by decide +kernel
theorem dX2_read_49 : decode cX2_read 49 = .ok (.goto 4, 3) := by decide +kernel
theorem dX2_read_52 : decode cX2_read 52 = .ok (.iconst 0, 1) := by decide +kernel
theorem dX2_read_53 : decode cX2_read 53 = .ok (.istore_n 3, 1) := by decide +kernel
theorem dX2_read_54 : decode cX2_read 54 = .ok (.iload_n 3, 1) := by decide +kernel
theorem dX2_read_55 : decode cX2_read 55 = .ok (.ifCond .eq 7, 3) := by decide +kernel
theorem dX2_read_58 : decode cX2_read 58 = .ok (.iconst (-1), 1) := by decide +kernel
theorem dX2_read_59 : decode cX2_read 59 = .ok (.goto 7, 3) := by decide +kernel
theorem dX2_read_62 : decode cX2_read 62 = .ok (.aload_n 0, 1) := by decide +kernel
theorem dX2_read_63 : decode cX2_read 63 = .ok (.getfield 36, 3) := by decide +kernel
theorem dX2_read_66 : decode cX2_read 66 = .ok (.ireturn, 1) := by decide +kernel
theorem dX2_readLevel_0 : decode cX2_readLevel 0 = .ok (.iload_n 1, 1) := by decide +kernel
theorem dX2_readLevel_1 : decode cX2_readLevel 1 = .ok (.iconst 5, 1) := by decide +kernel
theorem dX2_readLevel_2 : decode cX2_readLevel 2 = .ok (.if_icmp .lt 9, 3) := by decide +kernel
theorem dX2_readLevel_5 : decode cX2_readLevel 5 = .ok (.aload_n 0, 1) := by decide +kernel
theorem dX2_readLevel_6 : decode cX2_readLevel 6 = .ok (.iload_n 2, 1) := by decide +kernel
theorem dX2_readLevel_7 : decode cX2_readLevel 7 = .ok (.invokevirtual 48, 3) := by decide +kernel
theorem dX2_readLevel_10 : decode cX2_readLevel 10 = .ok (.ireturn, 1) := by decide +kernel
theorem dX2_readLevel_11 : decode cX2_readLevel 11 = .ok (.aload_n 0, 1) := by decide +kernel
theorem dX2_readLevel_12 : decode cX2_readLevel 12 = .ok (.iload_n 1, 1) := by decide +kernel
theorem dX2_readLevel_13 : decode cX2_readLevel 13 = .ok (.iconst 1, 1) := by decide +kernel
theorem dX2_readLevel_14 : decode cX2_readLevel 14 = .ok (.iadd, 1) := by decide +kernel
theorem dX2_readLevel_15 : decode cX2_readLevel 15 = .ok (.iload_n 2, 1) := by decide +kernel
theorem dX2_readLevel_16 : decode cX2_readLevel 16 = .ok (.invokevirtual 40, 3) := by decide +kernel
theorem dX2_readLevel_19 : decode cX2_readLevel 19 = .ok (.ifCond .ne 5, 3) := by decide +kernel
theorem dX2_readLevel_22 : decode cX2_readLevel 22 = .ok (.iconst 0, 1) := by decide +kernel
theorem dX2_readLevel_23 : decode cX2_readLevel 23 = .ok (.ireturn, 1) := by decide +kernel
theorem dX2_readLevel_24 : decode cX2_readLevel 24 = .ok (.iconst 0, 1) := by decide +kernel
theorem dX2_readLevel_25 : decode cX2_readLevel 25 = .ok (.istore_n 3, 1) := by decide +kernel
theorem dX2_readLevel_26 : decode cX2_readLevel 26 = .ok (.iload_n 3, 1) := by decide +kernel
theorem dX2_readLevel_27 : decode cX2_readLevel 27 = .ok (.bipush 50, 2) := by decide +kernel
theorem dX2_readLevel_29 : decode cX2_readLevel 29 = .ok (.if_icmp .ge 74, 3) := by decide +kernel
theorem dX2_readLevel_32 : decode cX2_readLevel 32 = .ok (.aload_n 0, 1) := by decide +kernel
theorem dX2_readLevel_33 : decode cX2_readLevel 33 = .ok (.iload_n 1, 1) := by decide +kernel
theorem dX2_readLevel_34 : decode cX2_readLevel 34 = .ok (.invokestatic 52, 3) := by decide +kernel
theorem dX2_readLevel_37 : decode cX2_readLevel 37 = .ok (.invokevirtual 56, 3) := by decide +kernel
theorem dX2_readLevel_40 : decode cX2_readLevel 40 = .ok (.ifCond .eq 63, 3) := by decide +kernel
theorem dX2_readLevel_43 : decode cX2_readLevel 43 = .ok (.aload_n 0, 1) := by decide +kernel
theorem dX2_readLevel_44 : decode cX2_readLevel 44 = .ok (.getfield 20, 3) := by decide +kernel
theorem dX2_readLevel_47 : decode cX2_readLevel 47 = .ok (.aload_n 0, 1) := by decide +kernel
theorem dX2_readLevel_48 : decode cX2_readLevel 48 = .ok (.getfield 36, 3) := by decide +kernel
theorem dX2_readLevel_51 : decode cX2_readLevel 51 = .ok (.invokevirtual 60, 3) := by decide +kernel
theorem dX2_readLevel_54 : decode cX2_readLevel 54 = .ok (.istore 4, 2) := by decide +kernel
theorem dX2_readLevel_56 : decode cX2_readLevel 56 = .ok (.aload_n 0, 1) := by decide +kernel
theorem dX2_readLevel_57 : decode cX2_readLevel 57 = .ok (.dup, 1) := by decide +kernel
theorem dX2_readLevel_58 : decode cX2_readLevel 58 = .ok (.getfield 36, 3) := by decide +kernel
theorem dX2_readLevel_61 : decode cX2_readLevel 61 = .ok (.iconst 1, 1) := by decide +kernel
theorem dX2_readLevel_62 : decode cX2_readLevel 62 = .ok (.iadd, 1) := by decide +kernel
theorem dX2_readLevel_63 : decode cX2_readLevel 63 = .ok (.putfield 36, 3) := by decide +kernel
theorem dX2_readLevel_66 : decode cX2_readLevel 66 = .ok (.aload_n 0, 1) := by decide +kernel
theorem dX2_readLevel_67 : decode cX2_readLevel 67 = .ok (.iload_n 1, 1) := by decide +kernel
theorem dX2_readLevel_68 : decode cX2_readLevel 68 = .ok (.iconst 1, 1) := by decide +kernel
theorem dX2_readLevel_69 : decode cX2_readLevel 69 = .ok (.iadd, 1) := by decide +kernel
theorem dX2_readLevel_70 : decode cX2_readLevel 70 = .ok (.iload_n 2, 1) := by decide +kernel
theorem dX2_readLevel_71 : decode cX2_readLevel 71 = .ok (.invokevirtual 40, 3) := by decide +kernel
theorem dX2_readLevel_74 : decode cX2_readLevel 74 = .ok (.ifCond .ne 5, 3) := by decide +kernel
theorem dX2_readLevel_77 : decode cX2_readLevel 77 = .ok (.iconst 0, 1) := by decide +kernel
theorem dX2_readLevel_78 : decode cX2_readLevel 78 = .ok (.ireturn, 1) := by decide +kernel
theorem dX2_readLevel_79 : decode cX2_readLevel 79 = .ok (.aload_n 0, 1) := by decide +kernel
theorem dX2_readLevel_80 : decode cX2_readLevel 80 = .ok (.getfield 14, 3) := by decide +kernel
theorem dX2_readLevel_83 : decode cX2_readLevel 83 = .ok (.iload 4, 2) := by decide +kernel
theorem dX2_readLevel_85 : decode cX2_readLevel 85 = .ok (.ineg, 1) := by decide +kernel
theorem dX2_readLevel_86 : decode cX2_readLevel 86 = .ok (.invokevirtual 64, 3) := by decide +kernel
theorem dX2_readLevel_89 : decode cX2_readLevel 89 = .ok (.pop, 1) := by decide +kernel
theorem dX2_readLevel_90 : decode cX2_readLevel 90 = .ok (.iload_n 1, 1) := by decide +kernel
theorem dX2_readLevel_91 : decode cX2_readLevel 91 = .ok (.iconst 2, 1) := by decide +kernel
theorem dX2_readLevel_92 : decode cX2_readLevel 92 = .ok (.if_icmp .ne 5, 3) := by decide +kernel
theorem dX2_readLevel_95 : decode cX2_readLevel 95 = .ok (.iconst 1, 1) := by decide +kernel
theorem dX2_readLevel_96 : decode cX2_readLevel 96 = .ok (.ireturn, 1) := by decide +kernel
theorem dX2_readLevel_97 : decode cX2_readLevel 97 = .ok (.iinc 3 1, 3) := by decide +kernel
theorem dX2_readLevel_100 : decode cX2_readLevel 100 = .ok (.goto (-74), 3) := by decide +kernel
theorem dX2_readLevel_103 : decode cX2_readLevel 103 = .ok (.iconst 1, 1) := by decide +kernel
theorem dX2_readLevel_104 : decode cX2_readLevel 104 = .ok (.ireturn, 1) := by decide +kernel
theorem dX2_signsOf_0 : decode cX2_signsOf 0 = .ok (.iload_n 0, 1) := by decide +kernel
theorem dX2_signsOf_1 : decode cX2_signsOf 1 = .ok (.tableswitch 43 0 3 #[31, 34, 37, 40], 31) := by decide +kernel
theorem dX2_signsOf_32 : decode cX2_signsOf 32 = .ok (.ldc 67, 2) := by decide +kernel
theorem dX2_signsOf_34 : decode cX2_signsOf 34 = .ok (.areturn, 1) := by decide +kernel
theorem dX2_signsOf_35 : decode cX2_signsOf 35 = .ok (.ldc 69, 2) := by decide +kernel
theorem dX2_signsOf_37 : decode cX2_signsOf 37 = .ok (.areturn, 1) := by decide +kernel
theorem dX2_signsOf_38 : decode cX2_signsOf 38 = .ok (.ldc 71, 2) := by decide +kernel
theorem dX2_signsOf_40 : decode cX2_signsOf 40 = .ok (.areturn, 1) := by decide +kernel
theorem dX2_signsOf_41 : decode cX2_signsOf 41 = .ok (.ldc 73, 2) := by decide +kernel
theorem dX2_signsOf_43 : decode cX2_signsOf 43 = .ok (.areturn, 1) := by decide +kernel
theorem dX2_signsOf_44 : decode cX2_signsOf 44 = .ok (.ldc 75, 2) := by decide +kernel
theorem dX2_signsOf_46 : decode cX2_signsOf 46 = .ok (.areturn, 1) := by decide +kernel
theorem dX2_isNextOneOf_0 : decode cX2_isNextOneOf 0 = .ok (.aload_n 0, 1) := by decide +kernel
theorem dX2_isNextOneOf_1 : decode cX2_isNextOneOf 1 = .ok (.getfield 20, 3) := by decide +kernel
theorem dX2_isNextOneOf_4 : decode cX2_isNextOneOf 4 = .ok (.aload_n 0, 1) := by decide +kernel
theorem dX2_isNextOneOf_5 : decode cX2_isNextOneOf 5 = .ok (.getfield 36, 3) := by decide +kernel
theorem dX2_isNextOneOf_8 : decode cX2_isNextOneOf 8 = .ok (.invokevirtual 77, 3) := by decide +kernel
theorem dX2_isNextOneOf_11 : decode cX2_isNextOneOf 11 = .ok (.ifCond .eq 26, 3) := by decide +kernel
theorem dX2_isNextOneOf_14 : decode cX2_isNextOneOf 14 = .ok (.aload_n 1, 1) := by decide +kernel
theorem dX2_isNextOneOf_15 : decode cX2_isNextOneOf 15 = .ok (.aload_n 0, 1) := by decide +kernel
theorem dX2_isNextOneOf_16 : decode cX2_isNextOneOf 16 = .ok (.getfield 20, 3) := by decide +kernel
theorem dX2_isNextOneOf_19 : decode cX2_isNextOneOf 19 = .ok (.aload_n 0, 1) := by decide +kernel
theorem dX2_isNextOneOf_20 : decode cX2_isNextOneOf 20 = .ok (.getfield 36, 3) := by decide +kernel
theorem dX2_isNextOneOf_23 : decode cX2_isNextOneOf 23 = .ok (.invokevirtual 60, 3) := by decide +kernel
theorem dX2_isNextOneOf_26 : decode cX2_isNextOneOf 26 = .ok (.i2c, 1) := by decide +kernel
theorem dX2_isNextOneOf_27 : decode cX2_isNextOneOf 27 = .ok (.invokevirtual 80, 3) := by decide +kernel
theorem dX2_isNextOneOf_30 : decode cX2_isNextOneOf 30 = .ok (.ifCond .lt 7, 3) := by decide +kernel
theorem dX2_isNextOneOf_33 : decode cX2_isNextOneOf 33 = .ok (.iconst 1, 1) := by decide +kernel
theorem dX2_isNextOneOf_34 : decode cX2_isNextOneOf 34 = .ok (.goto 4, 3) := by decide +kernel
theorem dX2_isNextOneOf_37 : decode cX2_isNextOneOf 37 = .ok (.iconst 0, 1) := by decide +kernel
theorem dX2_isNextOneOf_38 : decode cX2_isNextOneOf 38 = .ok (.ireturn, 1) := by decide +kernel
theorem dX2_readOperand_0 : decode cX2_readOperand 0 = .ok (.aload_n 0, 1) := by decide +kernel
theorem dX2_readOperand_1 : decode cX2_readOperand 1 = .ok (.ldc 85, 2) := by decide +kernel
theorem dX2_readOperand_3 : decode cX2_readOperand 3 = .ok (.invokevirtual 56, 3) := by decide +kernel
theorem dX2_readOperand_6 : decode cX2_readOperand 6 = .ok (.ifCond .eq 24, 3) := by decide +kernel
theorem dX2_readOperand_9 : decode cX2_readOperand 9 = .ok (.iload_n 1, 1) := by decide +kernel
theorem dX2_readOperand_10 : decode cX2_readOperand 10 = .ok (.iconst 5, 1) := by decide +kernel
theorem dX2_readOperand_11 : decode cX2_readOperand 11 = .ok (.if_icmp .ge 17, 3) := by decide +kernel
theorem dX2_readOperand_14 : decode cX2_readOperand 14 = .ok (.aload_n 0, 1) := by decide +kernel
theorem dX2_readOperand_15 : decode cX2_readOperand 15 = .ok (.iload_n 1, 1) := by decide +kernel
theorem dX2_readOperand_16 : decode cX2_readOperand 16 = .ok (.iconst 1, 1) := by decide +kernel
theorem dX2_readOperand_17 : decode cX2_readOperand 17 = .ok (.iadd, 1) := by decide +kernel
theorem dX2_readOperand_18 : decode cX2_readOperand 18 = .ok (.invokevirtual 87, 3) := by decide +kernel
theorem dX2_readOperand_21 : decode cX2_readOperand 21 = .ok (.ifCond .eq 7, 3) := by decide +kernel
theorem dX2_readOperand_24 : decode cX2_readOperand 24 = .ok (.iconst 1, 1) := by decide +kernel
theorem dX2_readOperand_25 : decode cX2_readOperand 25 = .ok (.goto 4, 3) := by decide +kernel
theorem dX2_readOperand_28 : decode cX2_readOperand 28 = .ok (.iconst 0, 1) := by decide +kernel
theorem dX2_readOperand_29 : decode cX2_readOperand 29 = .ok (.ireturn, 1) := by decide +kernel
theorem dX2_readOperand_30 : decode cX2_readOperand 30 = .ok (.aload_n 0, 1) := by decide +kernel
theorem dX2_readOperand_31 : decode cX2_readOperand 31 = .ok (.aload_n 0, 1) := by decide +kernel
theorem dX2_readOperand_32 : decode cX2_readOperand 32 = .ok (.getfield 25, 3) := by decide +kernel
theorem dX2_readOperand_35 : decode cX2_readOperand 35 = .ok (.invokevirtual 56, 3) := by decide +kernel
theorem dX2_readOperand_38 : decode cX2_readOperand 38 = .ok (.ifCond .eq 44, 3) := by decide +kernel
theorem dX2_readOperand_41 : decode cX2_readOperand 41 = .ok (.aload_n 0, 1) := by decide +kernel
theorem dX2_readOperand_42 : decode cX2_readOperand 42 = .ok (.getfield 14, 3) := by decide +kernel
theorem dX2_readOperand_45 : decode cX2_readOperand 45 = .ok (.iconst (-1), 1) := by decide +kernel
theorem dX2_readOperand_46 : decode cX2_readOperand 46 = .ok (.aload_n 0, 1) := by decide +kernel
theorem dX2_readOperand_47 : decode cX2_readOperand 47 = .ok (.getfield 25, 3) := by decide +kernel
theorem dX2_readOperand_50 : decode cX2_readOperand 50 = .ok (.aload_n 0, 1) := by decide +kernel
theorem dX2_readOperand_51 : decode cX2_readOperand 51 = .ok (.getfield 20, 3) := by decide +kernel
theorem dX2_readOperand_54 : decode cX2_readOperand 54 = .ok (.aload_n 0, 1) := by decide +kernel
theorem dX2_readOperand_55 : decode cX2_readOperand 55 = .ok (.getfield 36, 3) := by decide +kernel
theorem dX2_readOperand_58 : decode cX2_readOperand 58 = .ok (.invokevirtual 60, 3) := by decide +kernel
theorem dX2_readOperand_61 : decode cX2_readOperand 61 = .ok (.i2c, 1) := by decide +kernel
theorem dX2_readOperand_62 : decode cX2_readOperand 62 = .ok (.invokevirtual 80, 3) := by decide +kernel
theorem dX2_readOperand_65 : decode cX2_readOperand 65 = .ok (.isub, 1) := by decide +kernel
theorem dX2_readOperand_66 : decode cX2_readOperand 66 = .ok (.invokevirtual 64, 3) := by decide +kernel
theorem dX2_readOperand_69 : decode cX2_readOperand 69 = .ok (.pop, 1) := by decide +kernel
theorem dX2_readOperand_70 : decode cX2_readOperand 70 = .ok (.aload_n 0, 1) := by decide +kernel
theorem dX2_readOperand_71 : decode cX2_readOperand 71 = .ok (.dup, 1) := by decide +kernel
theorem dX2_readOperand_72 : decode cX2_readOperand 72 = .ok (.getfield 36, 3) := by decide +kernel
theorem dX2_readOperand_75 : decode cX2_readOperand 75 = .ok (.iconst 1, 1) := by decide +kernel
theorem dX2_readOperand_76 : decode cX2_readOperand 76 = .ok (.iadd, 1) := by decide +kernel
theorem dX2_readOperand_77 : decode cX2_readOperand 77 = .ok (.putfield 36, 3) := by decide +kernel
theorem dX2_readOperand_80 : decode cX2_readOperand 80 = .ok (.iconst 1, 1) := by decide +kernel
theorem dX2_readOperand_81 : decode cX2_readOperand 81 = .ok (.ireturn, 1) := by decide +kernel
theorem dX2_readOperand_82 : decode cX2_readOperand 82 = .ok (.aload_n 0, 1) := by decide +kernel
theorem dX2_readOperand_83 : decode cX2_readOperand 83 = .ok (.invokevirtual 90, 3) := by decide +kernel
theorem dX2_readOperand_86 : decode cX2_readOperand 86 = .ok (.ireturn, 1) := by decide +kernel
theorem dX2_readOpened_0 : decode cX2_readOpened 0 = .ok (.aload_n 0, 1) := by decide +kernel
theorem dX2_readOpened_1 : decode cX2_readOpened 1 = .ok (.getfield 20, 3) := by decide +kernel
theorem dX2_readOpened_4 : decode cX2_readOpened 4 = .ok (.aload_n 0, 1) := by decide +kernel
theorem dX2_readOpened_5 : decode cX2_readOpened 5 = .ok (.getfield 36, 3) := by decide +kernel
theorem dX2_readOpened_8 : decode cX2_readOpened 8 = .ok (.invokevirtual 60, 3) := by decide +kernel
theorem dX2_readOpened_11 : decode cX2_readOpened 11 = .ok (.istore_n 2, 1) := by decide +kernel
theorem dX2_readOpened_12 : decode cX2_readOpened 12 = .ok (.aload_n 0, 1) := by decide +kernel
theorem dX2_readOpened_13 : decode cX2_readOpened 13 = .ok (.dup, 1) := by decide +kernel
theorem dX2_readOpened_14 : decode cX2_readOpened 14 = .ok (.getfield 36, 3) := by decide +kernel
theorem dX2_readOpened_17 : decode cX2_readOpened 17 = .ok (.iconst 1, 1) := by decide +kernel
theorem dX2_readOpened_18 : decode cX2_readOpened 18 = .ok (.iadd, 1) := by decide +kernel
theorem dX2_readOpened_19 : decode cX2_readOpened 19 = .ok (.putfield 36, 3) := by decide +kernel
theorem dX2_readOpened_22 : decode cX2_readOpened 22 = .ok (.iload_n 2, 1) := by decide +kernel
theorem dX2_readOpened_23 : decode cX2_readOpened 23 = .ok (.bipush 33, 2) := by decide +kernel
theorem dX2_readOpened_25 : decode cX2_readOpened 25 = .ok (.if_icmp .ne 25, 3) := by decide +kernel
theorem dX2_readOpened_28 : decode cX2_readOpened 28 = .ok (.aload_n 0, 1) := by decide +kernel
theorem dX2_readOpened_29 : decode cX2_readOpened 29 = .ok (.iload_n 1, 1) := by decide +kernel
theorem dX2_readOpened_30 : decode cX2_readOpened 30 = .ok (.invokevirtual 48, 3) := by decide +kernel
theorem dX2_readOpened_33 : decode cX2_readOpened 33 = .ok (.ifCond .ne 5, 3) := by decide +kernel
theorem dX2_readOpened_36 : decode cX2_readOpened 36 = .ok (.iconst 0, 1) := by decide +kernel
theorem dX2_readOpened_37 : decode cX2_readOpened 37 = .ok (.ireturn, 1) := by decide +kernel
theorem dX2_readOpened_38 : decode cX2_readOpened 38 = .ok (.aload_n 0, 1) := by decide +kernel
theorem dX2_readOpened_39 : decode cX2_readOpened 39 = .ok (.getfield 14, 3) := by decide +kernel
theorem dX2_readOpened_42 : decode cX2_readOpened 42 = .ok (.iload_n 2, 1) := by decide +kernel
theorem dX2_readOpened_43 : decode cX2_readOpened 43 = .ok (.ineg, 1) := by decide +kernel
theorem dX2_readOpened_44 : decode cX2_readOpened 44 = .ok (.invokevirtual 64, 3) := by decide +kernel
theorem dX2_readOpened_47 : decode cX2_readOpened 47 = .ok (.pop, 1) := by decide +kernel
theorem dX2_readOpened_48 : decode cX2_readOpened 48 = .ok (.iconst 1, 1) := by decide +kernel
theorem dX2_readOpened_49 : decode cX2_readOpened 49 = .ok (.ireturn, 1) := by decide +kernel
theorem dX2_readOpened_50 : decode cX2_readOpened 50 = .ok (.aload_n 0, 1) := by decide +kernel
theorem dX2_readOpened_51 : decode cX2_readOpened 51 = .ok (.iconst 0, 1) := by decide +kernel
theorem dX2_readOpened_52 : decode cX2_readOpened 52 = .ok (.iload_n 1, 1) := by decide +kernel
theorem dX2_readOpened_53 : decode cX2_readOpened 53 = .ok (.invokevirtual 40, 3) := by decide +kernel
theorem dX2_readOpened_56 : decode cX2_readOpened 56 = .ok (.ifCond .eq 12, 3) := by decide +kernel
theorem dX2_readOpened_59 : decode cX2_readOpened 59 = .ok (.aload_n 0, 1) := by decide +kernel
theorem dX2_readOpened_60 : decode cX2_readOpened 60 = .ok (.ldc 94, 2) := by decide +kernel
theorem dX2_readOpened_62 : decode cX2_readOpened 62 = .ok (.invokevirtual 56, 3) := by decide +kernel
theorem dX2_readOpened_65 : decode cX2_readOpened 65 = .ok (.ifCond .ne 5, 3) := by decide +kernel
theorem dX2_readOpened_68 : decode cX2_readOpened 68 = .ok (.iconst 0, 1) := by decide +kernel
theorem dX2_readOpened_69 : decode cX2_readOpened 69 = .ok (.ireturn, 1) := by decide +kernel
theorem dX2_readOpened_70 : decode cX2_readOpened 70 = .ok (.aload_n 0, 1) := by decide +kernel
theorem dX2_readOpened_71 : decode cX2_readOpened 71 = .ok (.dup, 1) := by decide +kernel
theorem dX2_readOpened_72 : decode cX2_readOpened 72 = .ok (.getfield 36, 3) := by decide +kernel
theorem dX2_readOpened_75 : decode cX2_readOpened 75 = .ok (.iconst 1, 1) := by decide +kernel
theorem dX2_readOpened_76 : decode cX2_readOpened 76 = .ok (.iadd, 1) := by decide +kernel
theorem dX2_readOpened_77 : decode cX2_readOpened 77 = .ok (.putfield 36, 3) := by decide +kernel
theorem dX2_readOpened_80 : decode cX2_readOpened 80 = .ok (.iconst 1, 1) := by decide +kernel
theorem dX2_readOpened_81 : decode cX2_readOpened 81 = .ok (.ireturn, 1) := by decide +kernel
theorem dX2_readNumber_0 : decode cX2_readNumber 0 = .ok (.iconst 0, 1) := by decide +kernel
theorem dX2_readNumber_1 : decode cX2_readNumber 1 = .ok (.istore_n 1, 1) := by decide +kernel
theorem dX2_readNumber_2 : decode cX2_readNumber 2 = .ok (.iconst 0, 1) := by decide +kernel
theorem dX2_readNumber_3 : decode cX2_readNumber 3 = .ok (.istore_n 2, 1) := by decide +kernel
theorem dX2_readNumber_4 : decode cX2_readNumber 4 = .ok (.iload_n 2, 1) := by decide +kernel
theorem dX2_readNumber_5 : decode cX2_readNumber 5 = .ok (.iconst 4, 1) := by decide +kernel
theorem dX2_readNumber_6 : decode cX2_readNumber 6 = .ok (.if_icmp .ge 48, 3) := by decide +kernel
theorem dX2_readNumber_9 : decode cX2_readNumber 9 = .ok (.aload_n 0, 1) := by decide +kernel
theorem dX2_readNumber_10 : decode cX2_readNumber 10 = .ok (.ldc 96, 2) := by decide +kernel
theorem dX2_readNumber_12 : decode cX2_readNumber 12 = .ok (.invokevirtual 56, 3) := by decide +kernel
theorem dX2_readNumber_15 : decode cX2_readNumber 15 = .ok (.ifCond .eq 39, 3) := by decide +kernel
theorem dX2_readNumber_18 : decode cX2_readNumber 18 = .ok (.bipush 10, 2) := by decide +kernel
theorem dX2_readNumber_20 : decode cX2_readNumber 20 = .ok (.iload_n 1, 1) := by decide +kernel
theorem dX2_readNumber_21 : decode cX2_readNumber 21 = .ok (.imul, 1) := by decide +kernel
theorem dX2_readNumber_22 : decode cX2_readNumber 22 = .ok (.aload_n 0, 1) := by decide +kernel
theorem dX2_readNumber_23 : decode cX2_readNumber 23 = .ok (.getfield 20, 3) := by decide +kernel
theorem dX2_readNumber_26 : decode cX2_readNumber 26 = .ok (.aload_n 0, 1) := by decide +kernel
theorem dX2_readNumber_27 : decode cX2_readNumber 27 = .ok (.getfield 36, 3) := by decide +kernel
theorem dX2_readNumber_30 : decode cX2_readNumber 30 = .ok (.invokevirtual 60, 3) := by decide +kernel
theorem dX2_readNumber_33 : decode cX2_readNumber 33 = .ok (.iadd, 1) := by decide +kernel
theorem dX2_readNumber_34 : decode cX2_readNumber 34 = .ok (.bipush 48, 2) := by decide +kernel
theorem dX2_readNumber_36 : decode cX2_readNumber 36 = .ok (.isub, 1) := by decide +kernel
theorem dX2_readNumber_37 : decode cX2_readNumber 37 = .ok (.istore_n 1, 1) := by decide +kernel
theorem dX2_readNumber_38 : decode cX2_readNumber 38 = .ok (.aload_n 0, 1) := by decide +kernel
theorem dX2_readNumber_39 : decode cX2_readNumber 39 = .ok (.dup, 1) := by decide +kernel
theorem dX2_readNumber_40 : decode cX2_readNumber 40 = .ok (.getfield 36, 3) := by decide +kernel
theorem dX2_readNumber_43 : decode cX2_readNumber 43 = .ok (.iconst 1, 1) := by decide +kernel
theorem dX2_readNumber_44 : decode cX2_readNumber 44 = .ok (.iadd, 1) := by decide +kernel
theorem dX2_readNumber_45 : decode cX2_readNumber 45 = .ok (.putfield 36, 3) := by decide +kernel
theorem dX2_readNumber_48 : decode cX2_readNumber 48 = .ok (.iinc 2 1, 3) := by decide +kernel
theorem dX2_readNumber_51 : decode cX2_readNumber 51 = .ok (.goto (-47), 3) := by decide +kernel
theorem dX2_readNumber_54 : decode cX2_readNumber 54 = .ok (.iload_n 2, 1) := by decide +kernel
theorem dX2_readNumber_55 : decode cX2_readNumber 55 = .ok (.ifCond .ne 5, 3) := by decide +kernel
theorem dX2_readNumber_58 : decode cX2_readNumber 58 = .ok (.iconst 0, 1) := by decide +kernel
theorem dX2_readNumber_59 : decode cX2_readNumber 59 = .ok (.ireturn, 1) := by decide +kernel
theorem dX2_readNumber_60 : decode cX2_readNumber 60 = .ok (.aload_n 0, 1) := by decide +kernel
theorem dX2_readNumber_61 : decode cX2_readNumber 61 = .ok (.getfield 14, 3) := by decide +kernel
theorem dX2_readNumber_64 : decode cX2_readNumber 64 = .ok (.iload_n 1, 1) := by decide +kernel
theorem dX2_readNumber_65 : decode cX2_readNumber 65 = .ok (.invokevirtual 64, 3) := by decide +kernel
theorem dX2_readNumber_68 : decode cX2_readNumber 68 = .ok (.pop, 1) := by decide +kernel
theorem dX2_readNumber_69 : decode cX2_readNumber 69 = .ok (.iconst 1, 1) := by decide +kernel
theorem dX2_readNumber_70 : decode cX2_readNumber 70 = .ok (.ireturn, 1) := by decide +kernel
theorem dX3_init_0 : decode cX3_init 0 = .ok (.aload_n 0, 1) := by decide +kernel
theorem dX3_init_1 : decode cX3_init 1 = .ok (.invokespecial 1, 3) := by decide +kernel
theorem dX3_init_4 : decode cX3_init 4 = .ok (.aload_n 0, 1) := by decide +kernel
theorem dX3_init_5 : decode cX3_init 5 = .ok (.iconst 0, 1) := by decide +kernel
theorem dX3_init_6 : decode cX3_init 6 = .ok (.iload_n 1, 1) := by decide +kernel
theorem dX3_init_7 : decode cX3_init 7 = .ok (.invokestatic 7, 3) := by decide +kernel
theorem dX3_init_10 : decode cX3_init 10 = .ok (.newarray .int, 2) := by decide +kernel
theorem dX3_init_12 : decode cX3_init 12 = .ok (.putfield 13, 3) := by decide +kernel
theorem dX3_init_15 : decode cX3_init 15 = .ok (.return_, 1) := by decide +kernel
theorem dX3_size_0 : decode cX3_size 0 = .ok (.aload_n 0, 1) := by decide +kernel
theorem dX3_size_1 : decode cX3_size 1 = .ok (.getfield 19, 3) := by decide +kernel
theorem dX3_size_4 : decode cX3_size 4 = .ok (.ireturn, 1) := by decide +kernel
theorem dX3_room_0 : decode cX3_room 0 = .ok (.aload_n 0, 1) := by decide +kernel
theorem dX3_room_1 : decode cX3_room 1 = .ok (.getfield 13, 3) := by decide +kernel
theorem dX3_room_4 : decode cX3_room 4 = .ok (.arraylength, 1) := by decide +kernel
theorem dX3_room_5 : decode cX3_room 5 = .ok (.aload_n 0, 1) := by decide +kernel
theorem dX3_room_6 : decode cX3_room 6 = .ok (.getfield 19, 3) := by decide +kernel
theorem dX3_room_9 : decode cX3_room 9 = .ok (.isub, 1) := by decide +kernel
theorem dX3_room_10 : decode cX3_room 10 = .ok (.ireturn, 1) := by decide +kernel
theorem dX3_clear_0 : decode cX3_clear 0 = .ok (.aload_n 0, 1) := by decide +kernel
theorem dX3_clear_1 : decode cX3_clear 1 = .ok (.iconst 0, 1) := by decide +kernel
theorem dX3_clear_2 : decode cX3_clear 2 = .ok (.putfield 19, 3) := by decide +kernel
theorem dX3_clear_5 : decode cX3_clear 5 = .ok (.return_, 1) := by decide +kernel
theorem dX3_fill_0 : decode cX3_fill 0 = .ok (.aload_n 0, 1) := by decide +kernel
theorem dX3_fill_1 : decode cX3_fill 1 = .ok (.invokevirtual 23, 3) := by decide +kernel
theorem dX3_fill_4 : decode cX3_fill 4 = .ok (.iconst 0, 1) := by decide +kernel
theorem dX3_fill_5 : decode cX3_fill 5 = .ok (.istore_n 3, 1) := by decide +kernel
theorem dX3_fill_6 : decode cX3_fill 6 = .ok (.iload_n 3, 1) := by decide +kernel
theorem dX3_fill_7 : decode cX3_fill 7 = .ok (.iload_n 1, 1) := by decide +kernel
theorem dX3_fill_8 : decode cX3_fill 8 = .ok (.if_icmp .ge 15, 3) := by decide +kernel
theorem dX3_fill_11 : decode cX3_fill 11 = .ok (.aload_n 0, 1) := by decide +kernel
theorem dX3_fill_12 : decode cX3_fill 12 = .ok (.iload_n 2, 1) := by decide +kernel
theorem dX3_fill_13 : decode cX3_fill 13 = .ok (.invokevirtual 26, 3) := by decide +kernel
theorem dX3_fill_16 : decode cX3_fill 16 = .ok (.pop, 1) := by decide +kernel
theorem dX3_fill_17 : decode cX3_fill 17 = .ok (.iinc 3 1, 3) := by decide +kernel
theorem dX3_fill_20 : decode cX3_fill 20 = .ok (.goto (-14), 3) := by decide +kernel
theorem dX3_fill_23 : decode cX3_fill 23 = .ok (.return_, 1) := by decide +kernel
theorem dX3_has_0 : decode cX3_has 0 = .ok (.iload_n 1, 1) := by decide +kernel
theorem dX3_has_1 : decode cX3_has 1 = .ok (.ifCond .lt 24, 3) := by decide +kernel
theorem dX3_has_4 : decode cX3_has 4 = .ok (.iload_n 1, 1) := by decide +kernel
theorem dX3_has_5 : decode cX3_has 5 = .ok (.aload_n 0, 1) := by decide +kernel
theorem dX3_has_6 : decode cX3_has 6 = .ok (.getfield 19, 3) := by decide +kernel
theorem dX3_has_9 : decode cX3_has 9 = .ok (.if_icmp .ge 16, 3) := by decide +kernel
theorem dX3_has_12 : decode cX3_has 12 = .ok (.iload_n 1, 1) := by decide +kernel
theorem dX3_has_13 : decode cX3_has 13 = .ok (.aload_n 0, 1) := by decide +kernel
theorem dX3_has_14 : decode cX3_has 14 = .ok (.getfield 13, 3) := by decide +kernel
theorem dX3_has_17 : decode cX3_has 17 = .ok (.arraylength, 1) := by decide +kernel
theorem dX3_has_18 : decode cX3_has 18 = .ok (.if_icmp .ge 7, 3) := by decide +kernel
theorem dX3_has_21 : decode cX3_has 21 = .ok (.iconst 1, 1) := by decide +kernel
theorem dX3_has_22 : decode cX3_has 22 = .ok (.goto 4, 3) := by decide +kernel
theorem dX3_has_25 : decode cX3_has 25 = .ok (.iconst 0, 1) := by decide +kernel
theorem dX3_has_26 : decode cX3_has 26 = .ok (.ireturn, 1) := by decide +kernel
theorem dX3_at_0 : decode cX3_at 0 = .ok (.iload_n 1, 1) := by decide +kernel
theorem dX3_at_1 : decode cX3_at 1 = .ok (.ifCond .lt 29, 3) := by decide +kernel
theorem dX3_at_4 : decode cX3_at 4 = .ok (.iload_n 1, 1) := by decide +kernel
theorem dX3_at_5 : decode cX3_at 5 = .ok (.aload_n 0, 1) := by decide +kernel
theorem dX3_at_6 : decode cX3_at 6 = .ok (.getfield 19, 3) := by decide +kernel
theorem dX3_at_9 : decode cX3_at 9 = .ok (.if_icmp .ge 21, 3) := by decide +kernel
theorem dX3_at_12 : decode cX3_at 12 = .ok (.iload_n 1, 1) := by decide +kernel
theorem dX3_at_13 : decode cX3_at 13 = .ok (.aload_n 0, 1) := by decide +kernel
theorem dX3_at_14 : decode cX3_at 14 = .ok (.getfield 13, 3) := by decide +kernel
theorem dX3_at_17 : decode cX3_at 17 = .ok (.arraylength, 1) := by decide +kernel
theorem dX3_at_18 : decode cX3_at 18 = .ok (.if_icmp .ge 12, 3) := by decide +kernel
theorem dX3_at_21 : decode cX3_at 21 = .ok (.aload_n 0, 1) := by decide +kernel
theorem dX3_at_22 : decode cX3_at 22 = .ok (.getfield 13, 3) := by decide +kernel
theorem dX3_at_25 : decode cX3_at 25 = .ok (.iload_n 1, 1) := by decide +kernel
theorem dX3_at_26 : decode cX3_at 26 = .ok (.iaload, 1) := by decide +kernel
theorem dX3_at_27 : decode cX3_at 27 = .ok (.goto 4, 3) := by decide +kernel
theorem dX3_at_30 : decode cX3_at 30 = .ok (.iconst 0, 1) := by decide +kernel
theorem dX3_at_31 : decode cX3_at 31 = .ok (.ireturn, 1) := by decide +kernel
theorem dX3_exchange_0 : decode cX3_exchange 0 = .ok (.aload_n 0, 1) := by decide +kernel
theorem dX3_exchange_1 : decode cX3_exchange 1 = .ok (.iload_n 1, 1) := by decide +kernel
theorem dX3_exchange_2 : decode cX3_exchange 2 = .ok (.invokevirtual 30, 3) := by decide +kernel
theorem dX3_exchange_5 : decode cX3_exchange 5 = .ok (.ifCond .ne 5, 3) := by decide +kernel
theorem dX3_exchange_8 : decode cX3_exchange 8 = .ok (.iconst 0, 1) := by decide +kernel
theorem dX3_exchange_9 : decode cX3_exchange 9 = .ok (.ireturn, 1) := by decide +kernel
theorem dX3_exchange_10 : decode cX3_exchange 10 = .ok (.aload_n 0, 1) := by decide +kernel
theorem dX3_exchange_11 : decode cX3_exchange 11 = .ok (.getfield 13, 3) := by decide +kernel
theorem dX3_exchange_14 : decode cX3_exchange 14 = .ok (.iload_n 1, 1) := by decide +kernel
theorem dX3_exchange_15 : decode cX3_exchange 15 = .ok (.iaload, 1) := by decide +kernel
theorem dX3_exchange_16 : decode cX3_exchange 16 = .ok (.istore_n 3, 1) := by decide +kernel
theorem dX3_exchange_17 : decode cX3_exchange 17 = .ok (.aload_n 0, 1) := by decide +kernel
theorem dX3_exchange_18 : decode cX3_exchange 18 = .ok (.getfield 13, 3) := by decide +kernel
theorem dX3_exchange_21 : decode cX3_exchange 21 = .ok (.iload_n 1, 1) := by decide +kernel
theorem dX3_exchange_22 : decode cX3_exchange 22 = .ok (.iload_n 2, 1) := by decide +kernel
theorem dX3_exchange_23 : decode cX3_exchange 23 = .ok (.iastore, 1) := by decide +kernel
theorem dX3_exchange_24 : decode cX3_exchange 24 = .ok (.iload_n 3, 1) := by decide +kernel
theorem dX3_exchange_25 : decode cX3_exchange 25 = .ok (.ireturn, 1) := by decide +kernel
theorem dX3_raise_0 : decode cX3_raise 0 = .ok (.aload_n 0, 1) := by decide +kernel
theorem dX3_raise_1 : decode cX3_raise 1 = .ok (.iload_n 1, 1) := by decide +kernel
theorem dX3_raise_2 : decode cX3_raise 2 = .ok (.invokevirtual 30, 3) := by decide +kernel
theorem dX3_raise_5 : decode cX3_raise 5 = .ok (.ifCond .eq 13, 3) := by decide +kernel
theorem dX3_raise_8 : decode cX3_raise 8 = .ok (.aload_n 0, 1) := by decide +kernel
theorem dX3_raise_9 : decode cX3_raise 9 = .ok (.getfield 13, 3) := by decide +kernel
theorem dX3_raise_12 : decode cX3_raise 12 = .ok (.iload_n 1, 1) := by decide +kernel
theorem dX3_raise_13 : decode cX3_raise 13 = .ok (.dup2, 1) := by decide +kernel
theorem dX3_raise_14 : decode cX3_raise 14 = .ok (.iaload, 1) := by decide +kernel
theorem dX3_raise_15 : decode cX3_raise 15 = .ok (.iload_n 2, 1) := by decide +kernel
theorem dX3_raise_16 : decode cX3_raise 16 = .ok (.iadd, 1) := by decide +kernel
theorem dX3_raise_17 : decode cX3_raise 17 = .ok (.iastore, 1) := by decide +kernel
theorem dX3_raise_18 : decode cX3_raise 18 = .ok (.return_, 1) := by decide +kernel
theorem dX3_add_0 : decode cX3_add 0 = .ok (.aload_n 0, 1) := by decide +kernel
theorem dX3_add_1 : decode cX3_add 1 = .ok (.getfield 19, 3) := by decide +kernel
theorem dX3_add_4 : decode cX3_add 4 = .ok (.ifCond .lt 15, 3) := by decide +kernel
theorem dX3_add_7 : decode cX3_add 7 = .ok (.aload_n 0, 1) := by decide +kernel
theorem dX3_add_8 : decode cX3_add 8 = .ok (.getfield 19, 3) := by decide +kernel
theorem dX3_add_11 : decode cX3_add 11 = .ok (.aload_n 0, 1) := by decide +kernel
theorem dX3_add_12 : decode cX3_add 12 = .ok (.getfield 13, 3) := by decide +kernel
theorem dX3_add_15 : decode cX3_add 15 = .ok (.arraylength, 1) := by decide +kernel
theorem dX3_add_16 : decode cX3_add 16 = .ok (.if_icmp .lt 5, 3) := by decide +kernel
theorem dX3_add_19 : decode cX3_add 19 = .ok (.iconst 0, 1) := by decide +kernel
theorem dX3_add_20 : decode cX3_add 20 = .ok (.ireturn, 1) := by decide +kernel
theorem dX3_add_21 : decode cX3_add 21 = .ok (.aload_n 0, 1) := by decide +kernel
theorem dX3_add_22 : decode cX3_add 22 = .ok (.getfield 13, 3) := by decide +kernel
theorem dX3_add_25 : decode cX3_add 25 = .ok (.aload_n 0, 1) := by decide +kernel
theorem dX3_add_26 : decode cX3_add 26 = .ok (.getfield 19, 3) := by decide +kernel
theorem dX3_add_29 : decode cX3_add 29 = .ok (.iload_n 1, 1) := by decide +kernel
theorem dX3_add_30 : decode cX3_add 30 = .ok (.iastore, 1) := by decide +kernel
theorem dX3_add_31 : decode cX3_add 31 = .ok (.aload_n 0, 1) := by decide +kernel
theorem dX3_add_32 : decode cX3_add 32 = .ok (.dup, 1) := by decide +kernel
theorem dX3_add_33 : decode cX3_add 33 = .ok (.getfield 19, 3) := by decide +kernel
theorem dX3_add_36 : decode cX3_add 36 = .ok (.iconst 1, 1) := by decide +kernel
theorem dX3_add_37 : decode cX3_add 37 = .ok (.iadd, 1) := by decide +kernel
theorem dX3_add_38 : decode cX3_add 38 = .ok (.putfield 19, 3) := by decide +kernel
theorem dX3_add_41 : decode cX3_add 41 = .ok (.iconst 1, 1) := by decide +kernel
theorem dX3_add_42 : decode cX3_add 42 = .ok (.ireturn, 1) := by decide +kernel
theorem dX3_takeLast_0 : decode cX3_takeLast 0 = .ok (.aload_n 0, 1) := by decide +kernel
theorem dX3_takeLast_1 : decode cX3_takeLast 1 = .ok (.getfield 19, 3) := by decide +kernel
theorem dX3_takeLast_4 : decode cX3_takeLast 4 = .ok (.ifCond .le 15, 3) := by decide +kernel
theorem dX3_takeLast_7 : decode cX3_takeLast 7 = .ok (.aload_n 0, 1) := by decide +kernel
theorem dX3_takeLast_8 : decode cX3_takeLast 8 = .ok (.getfield 19, 3) := by decide +kernel
theorem dX3_takeLast_11 : decode cX3_takeLast 11 = .ok (.aload_n 0, 1) := by decide +kernel
theorem dX3_takeLast_12 : decode cX3_takeLast 12 = .ok (.getfield 13, 3) := by decide +kernel
theorem dX3_takeLast_15 : decode cX3_takeLast 15 = .ok (.arraylength, 1) := by decide +kernel
theorem dX3_takeLast_16 : decode cX3_takeLast 16 = .ok (.if_icmp .le 5, 3) := by decide +kernel
theorem dX3_takeLast_19 : decode cX3_takeLast 19 = .ok (.iconst 0, 1) := by decide +kernel
theorem dX3_takeLast_20 : decode cX3_takeLast 20 = .ok (.ireturn, 1) := by decide +kernel
theorem dX3_takeLast_21 : decode cX3_takeLast 21 = .ok (.aload_n 0, 1) := by decide +kernel
theorem dX3_takeLast_22 : decode cX3_takeLast 22 = .ok (.dup, 1) := by decide +kernel
theorem dX3_takeLast_23 : decode cX3_takeLast 23 = .ok (.getfield 19, 3) := by decide +kernel
theorem dX3_takeLast_26 : decode cX3_takeLast 26 = .ok (.iconst 1, 1) := by decide +kernel
theorem dX3_takeLast_27 : decode cX3_takeLast 27 = .ok (.isub, 1) := by decide +kernel
theorem dX3_takeLast_28 : decode cX3_takeLast 28 = .ok (.putfield 19, 3) := by decide +kernel
theorem dX3_takeLast_31 : decode cX3_takeLast 31 = .ok (.aload_n 0, 1) := by decide +kernel
theorem dX3_takeLast_32 : decode cX3_takeLast 32 = .ok (.getfield 13, 3) := by decide +kernel
theorem dX3_takeLast_35 : decode cX3_takeLast 35 = .ok (.aload_n 0, 1) := by decide +kernel
theorem dX3_takeLast_36 : decode cX3_takeLast 36 = .ok (.getfield 19, 3) := by decide +kernel
theorem dX3_takeLast_39 : decode cX3_takeLast 39 = .ok (.iaload, 1) := by decide +kernel
theorem dX3_takeLast_40 : decode cX3_takeLast 40 = .ok (.ireturn, 1) := by decide +kernel
theorem dX3_insert_0 : decode cX3_insert 0 = .ok (.iload_n 1, 1) := by decide +kernel
theorem dX3_insert_1 : decode cX3_insert 1 = .ok (.ifCond .lt 23, 3) := by decide +kernel
theorem dX3_insert_4 : decode cX3_insert 4 = .ok (.iload_n 1, 1) := by decide +kernel
theorem dX3_insert_5 : decode cX3_insert 5 = .ok (.aload_n 0, 1) := by decide +kernel
theorem dX3_insert_6 : decode cX3_insert 6 = .ok (.getfield 19, 3) := by decide +kernel
theorem dX3_insert_9 : decode cX3_insert 9 = .ok (.if_icmp .gt 15, 3) := by decide +kernel
theorem dX3_insert_12 : decode cX3_insert 12 = .ok (.aload_n 0, 1) := by decide +kernel
theorem dX3_insert_13 : decode cX3_insert 13 = .ok (.getfield 19, 3) := by decide +kernel
theorem dX3_insert_16 : decode cX3_insert 16 = .ok (.aload_n 0, 1) := by decide +kernel
theorem dX3_insert_17 : decode cX3_insert 17 = .ok (.getfield 13, 3) := by decide +kernel
theorem dX3_insert_20 : decode cX3_insert 20 = .ok (.arraylength, 1) := by decide +kernel
theorem dX3_insert_21 : decode cX3_insert 21 = .ok (.if_icmp .lt 4, 3) := by decide +kernel
theorem dX3_insert_24 : decode cX3_insert 24 = .ok (.return_, 1) := by decide +kernel
theorem dX3_insert_25 : decode cX3_insert 25 = .ok (.aload_n 0, 1) := by decide +kernel
theorem dX3_insert_26 : decode cX3_insert 26 = .ok (.getfield 13, 3) := by decide +kernel
theorem dX3_insert_29 : decode cX3_insert 29 = .ok (.iload_n 1, 1) := by decide +kernel
theorem dX3_insert_30 : decode cX3_insert 30 = .ok (.aload_n 0, 1) := by decide +kernel
theorem dX3_insert_31 : decode cX3_insert 31 = .ok (.getfield 13, 3) := by decide +kernel
theorem dX3_insert_34 : decode cX3_insert 34 = .ok (.iload_n 1, 1) := by decide +kernel
theorem dX3_insert_35 : decode cX3_insert 35 = .ok (.iconst 1, 1) := by decide +kernel
theorem dX3_insert_36 : decode cX3_insert 36 = .ok (.iadd, 1) := by decide +kernel
theorem dX3_insert_37 : decode cX3_insert 37 = .ok (.aload_n 0, 1) := by decide +kernel
theorem dX3_insert_38 : decode cX3_insert 38 = .ok (.getfield 19, 3) := by decide +kernel
theorem dX3_insert_41 : decode cX3_insert 41 = .ok (.iload_n 1, 1) := by decide +kernel
theorem dX3_insert_42 : decode cX3_insert 42 = .ok (.isub, 1) := by decide +kernel
theorem dX3_insert_43 : decode cX3_insert 43 = .ok (.invokestatic 33, 3) := by decide +kernel
theorem dX3_insert_46 : decode cX3_insert 46 = .ok (.aload_n 0, 1) := by decide +kernel
theorem dX3_insert_47 : decode cX3_insert 47 = .ok (.getfield 13, 3) := by decide +kernel
theorem dX3_insert_50 : decode cX3_insert 50 = .ok (.iload_n 1, 1) := by decide +kernel
theorem dX3_insert_51 : decode cX3_insert 51 = .ok (.iload_n 2, 1) := by decide +kernel
theorem dX3_insert_52 : decode cX3_insert 52 = .ok (.iastore, 1) := by decide +kernel
theorem dX3_insert_53 : decode cX3_insert 53 = .ok (.aload_n 0, 1) := by decide +kernel
theorem dX3_insert_54 : decode cX3_insert 54 = .ok (.dup, 1) := by decide +kernel
theorem dX3_insert_55 : decode cX3_insert 55 = .ok (.getfield 19, 3) := by decide +kernel
theorem dX3_insert_58 : decode cX3_insert 58 = .ok (.iconst 1, 1) := by decide +kernel
theorem dX3_insert_59 : decode cX3_insert 59 = .ok (.iadd, 1) := by decide +kernel
theorem dX3_insert_60 : decode cX3_insert 60 = .ok (.putfield 19, 3) := by decide +kernel
theorem dX3_insert_63 : decode cX3_insert 63 = .ok (.return_, 1) := by decide +kernel
theorem dX3_become_0 : decode cX3_become 0 = .ok (.aload_n 0, 1) := by decide +kernel
theorem dX3_become_1 : decode cX3_become 1 = .ok (.aload_n 1, 1) := by decide +kernel
theorem dX3_become_2 : decode cX3_become 2 = .ok (.getfield 19, 3) := by decide +kernel
theorem dX3_become_5 : decode cX3_become 5 = .ok (.aload_n 0, 1) := by decide +kernel
theorem dX3_become_6 : decode cX3_become 6 = .ok (.getfield 13, 3) := by decide +kernel
theorem dX3_become_9 : decode cX3_become 9 = .ok (.arraylength, 1) := by decide +kernel
theorem dX3_become_10 : decode cX3_become 10 = .ok (.invokestatic 39, 3) := by decide +kernel
theorem dX3_become_13 : decode cX3_become 13 = .ok (.putfield 19, 3) := by decide +kernel
theorem dX3_become_16 : decode cX3_become 16 = .ok (.aload_n 1, 1) := by decide +kernel
theorem dX3_become_17 : decode cX3_become 17 = .ok (.getfield 13, 3) := by decide +kernel
theorem dX3_become_20 : decode cX3_become 20 = .ok (.iconst 0, 1) := by decide +kernel
theorem dX3_become_21 : decode cX3_become 21 = .ok (.aload_n 0, 1) := by decide +kernel
theorem dX3_become_22 : decode cX3_become 22 = .ok (.getfield 13, 3) := by decide +kernel
theorem dX3_become_25 : decode cX3_become 25 = .ok (.iconst 0, 1) := by decide +kernel
theorem dX3_become_26 : decode cX3_become 26 = .ok (.aload_n 0, 1) := by decide +kernel
theorem dX3_become_27 : decode cX3_become 27 = .ok (.getfield 19, 3) := by decide +kernel
theorem dX3_become_30 : decode cX3_become 30 = .ok (.invokestatic 33, 3) := by decide +kernel
theorem dX3_become_33 : decode cX3_become 33 = .ok (.return_, 1) := by decide +kernel
theorem dX3_takeFrom_0 : decode cX3_takeFrom 0 = .ok (.iload 4, 2) := by decide +kernel
theorem dX3_takeFrom_2 : decode cX3_takeFrom 2 = .ok (.ifCond .lt 48, 3) := by decide +kernel
theorem dX3_takeFrom_5 : decode cX3_takeFrom 5 = .ok (.iload_n 2, 1) := by decide +kernel
theorem dX3_takeFrom_6 : decode cX3_takeFrom 6 = .ok (.ifCond .lt 44, 3) := by decide +kernel
theorem dX3_takeFrom_9 : decode cX3_takeFrom 9 = .ok (.iload_n 3, 1) := by decide +kernel
theorem dX3_takeFrom_10 : decode cX3_takeFrom 10 = .ok (.ifCond .lt 40, 3) := by decide +kernel
theorem dX3_takeFrom_13 : decode cX3_takeFrom 13 = .ok (.iload_n 2, 1) := by decide +kernel
theorem dX3_takeFrom_14 : decode cX3_takeFrom 14 = .ok (.aload_n 1, 1) := by decide +kernel
theorem dX3_takeFrom_15 : decode cX3_takeFrom 15 = .ok (.getfield 19, 3) := by decide +kernel
theorem dX3_takeFrom_18 : decode cX3_takeFrom 18 = .ok (.iload 4, 2) := by decide +kernel
theorem dX3_takeFrom_20 : decode cX3_takeFrom 20 = .ok (.isub, 1) := by decide +kernel
theorem dX3_takeFrom_21 : decode cX3_takeFrom 21 = .ok (.if_icmp .gt 29, 3) := by decide +kernel
theorem dX3_takeFrom_24 : decode cX3_takeFrom 24 = .ok (.iload_n 3, 1) := by decide +kernel
theorem dX3_takeFrom_25 : decode cX3_takeFrom 25 = .ok (.aload_n 0, 1) := by decide +kernel
theorem dX3_takeFrom_26 : decode cX3_takeFrom 26 = .ok (.getfield 19, 3) := by decide +kernel
theorem dX3_takeFrom_29 : decode cX3_takeFrom 29 = .ok (.iload 4, 2) := by decide +kernel
theorem dX3_takeFrom_31 : decode cX3_takeFrom 31 = .ok (.isub, 1) := by decide +kernel
theorem dX3_takeFrom_32 : decode cX3_takeFrom 32 = .ok (.if_icmp .gt 18, 3) := by decide +kernel
theorem dX3_takeFrom_35 : decode cX3_takeFrom 35 = .ok (.aload_n 1, 1) := by decide +kernel
theorem dX3_takeFrom_36 : decode cX3_takeFrom 36 = .ok (.getfield 13, 3) := by decide +kernel
theorem dX3_takeFrom_39 : decode cX3_takeFrom 39 = .ok (.iload_n 2, 1) := by decide +kernel
theorem dX3_takeFrom_40 : decode cX3_takeFrom 40 = .ok (.aload_n 0, 1) := by decide +kernel
theorem dX3_takeFrom_41 : decode cX3_takeFrom 41 = .ok (.getfield 13, 3) := by decide +kernel
theorem dX3_takeFrom_44 : decode cX3_takeFrom 44 = .ok (.iload_n 3, 1) := by decide +kernel
theorem dX3_takeFrom_45 : decode cX3_takeFrom 45 = .ok (.iload 4, 2) := by decide +kernel
theorem dX3_takeFrom_47 : decode cX3_takeFrom 47 = .ok (.invokestatic 33, 3) := by decide +kernel
theorem dX3_takeFrom_50 : decode cX3_takeFrom 50 = .ok (.return_, 1) := by decide +kernel
theorem dX3_hasNear_0 : decode cX3_hasNear 0 = .ok (.iconst 0, 1) := by decide +kernel
theorem dX3_hasNear_1 : decode cX3_hasNear 1 = .ok (.istore_n 3, 1) := by decide +kernel
theorem dX3_hasNear_2 : decode cX3_hasNear 2 = .ok (.iload_n 3, 1) := by decide +kernel
theorem dX3_hasNear_3 : decode cX3_hasNear 3 = .ok (.aload_n 0, 1) := by decide +kernel
theorem dX3_hasNear_4 : decode cX3_hasNear 4 = .ok (.getfield 19, 3) := by decide +kernel
theorem dX3_hasNear_7 : decode cX3_hasNear 7 = .ok (.if_icmp .ge 25, 3) := by decide +kernel
theorem dX3_hasNear_10 : decode cX3_hasNear 10 = .ok (.aload_n 0, 1) := by decide +kernel
theorem dX3_hasNear_11 : decode cX3_hasNear 11 = .ok (.iload_n 3, 1) := by decide +kernel
theorem dX3_hasNear_12 : decode cX3_hasNear 12 = .ok (.invokevirtual 42, 3) := by decide +kernel
theorem dX3_hasNear_15 : decode cX3_hasNear 15 = .ok (.iload_n 1, 1) := by decide +kernel
theorem dX3_hasNear_16 : decode cX3_hasNear 16 = .ok (.isub, 1) := by decide +kernel
theorem dX3_hasNear_17 : decode cX3_hasNear 17 = .ok (.invokestatic 46, 3) := by decide +kernel
theorem dX3_hasNear_20 : decode cX3_hasNear 20 = .ok (.iload_n 2, 1) := by decide +kernel
theorem dX3_hasNear_21 : decode cX3_hasNear 21 = .ok (.if_icmp .gt 5, 3) := by decide +kernel
theorem dX3_hasNear_24 : decode cX3_hasNear 24 = .ok (.iconst 1, 1) := by decide +kernel
theorem dX3_hasNear_25 : decode cX3_hasNear 25 = .ok (.ireturn, 1) := by decide +kernel
theorem dX3_hasNear_26 : decode cX3_hasNear 26 = .ok (.iinc 3 1, 3) := by decide +kernel
theorem dX3_hasNear_29 : decode cX3_hasNear 29 = .ok (.goto (-27), 3) := by decide +kernel
theorem dX3_hasNear_32 : decode cX3_hasNear 32 = .ok (.iconst 0, 1) := by decide +kernel
theorem dX3_hasNear_33 : decode cX3_hasNear 33 = .ok (.ireturn, 1) := by decide +kernel
theorem dX3_firstUnlike_0 : decode cX3_firstUnlike 0 = .ok (.aload_n 0, 1) := by decide +kernel
theorem dX3_firstUnlike_1 : decode cX3_firstUnlike 1 = .ok (.getfield 19, 3) := by decide +kernel
theorem dX3_firstUnlike_4 : decode cX3_firstUnlike 4 = .ok (.aload_n 1, 1) := by decide +kernel
theorem dX3_firstUnlike_5 : decode cX3_firstUnlike 5 = .ok (.getfield 19, 3) := by decide +kernel
theorem dX3_firstUnlike_8 : decode cX3_firstUnlike 8 = .ok (.invokestatic 7, 3) := by decide +kernel
theorem dX3_firstUnlike_11 : decode cX3_firstUnlike 11 = .ok (.istore_n 2, 1) := by decide +kernel
theorem dX3_firstUnlike_12 : decode cX3_firstUnlike 12 = .ok (.iconst 0, 1) := by decide +kernel
theorem dX3_firstUnlike_13 : decode cX3_firstUnlike 13 = .ok (.istore_n 3, 1) := by decide +kernel
theorem dX3_firstUnlike_14 : decode cX3_firstUnlike 14 = .ok (.iload_n 3, 1) := by decide +kernel
theorem dX3_firstUnlike_15 : decode cX3_firstUnlike 15 = .ok (.iload_n 2, 1) := by decide +kernel
theorem dX3_firstUnlike_16 : decode cX3_firstUnlike 16 = .ok (.if_icmp .ge 40, 3) := by decide +kernel
theorem dX3_firstUnlike_19 : decode cX3_firstUnlike 19 = .ok (.aload_n 0, 1) := by decide +kernel
theorem dX3_firstUnlike_20 : decode cX3_firstUnlike 20 = .ok (.iload_n 3, 1) := by decide +kernel
theorem dX3_firstUnlike_21 : decode cX3_firstUnlike 21 = .ok (.invokevirtual 30, 3) := by decide +kernel
theorem dX3_firstUnlike_24 : decode cX3_firstUnlike 24 = .ok (.ifCond .eq 24, 3) := by decide +kernel
theorem dX3_firstUnlike_27 : decode cX3_firstUnlike 27 = .ok (.aload_n 1, 1) := by decide +kernel
theorem dX3_firstUnlike_28 : decode cX3_firstUnlike 28 = .ok (.iload_n 3, 1) := by decide +kernel
theorem dX3_firstUnlike_29 : decode cX3_firstUnlike 29 = .ok (.invokevirtual 30, 3) := by decide +kernel
theorem dX3_firstUnlike_32 : decode cX3_firstUnlike 32 = .ok (.ifCond .eq 16, 3) := by decide +kernel
theorem dX3_firstUnlike_35 : decode cX3_firstUnlike 35 = .ok (.aload_n 0, 1) := by decide +kernel
theorem dX3_firstUnlike_36 : decode cX3_firstUnlike 36 = .ok (.iload_n 3, 1) := by decide +kernel
theorem dX3_firstUnlike_37 : decode cX3_firstUnlike 37 = .ok (.invokevirtual 42, 3) := by decide +kernel
theorem dX3_firstUnlike_40 : decode cX3_firstUnlike 40 = .ok (.aload_n 1, 1) := by decide +kernel
theorem dX3_firstUnlike_41 : decode cX3_firstUnlike 41 = .ok (.iload_n 3, 1) := by decide +kernel
theorem dX3_firstUnlike_42 : decode cX3_firstUnlike 42 = .ok (.invokevirtual 42, 3) := by decide +kernel
theorem dX3_firstUnlike_45 : decode cX3_firstUnlike 45 = .ok (.if_icmp .eq 5, 3) := by decide +kernel
theorem dX3_firstUnlike_48 : decode cX3_firstUnlike 48 = .ok (.iload_n 3, 1) := by decide +kernel
theorem dX3_firstUnlike_49 : decode cX3_firstUnlike 49 = .ok (.ireturn, 1) := by decide +kernel
theorem dX3_firstUnlike_50 : decode cX3_firstUnlike 50 = .ok (.iinc 3 1, 3) := by decide +kernel
theorem dX3_firstUnlike_53 : decode cX3_firstUnlike 53 = .ok (.goto (-39), 3) := by decide +kernel
theorem dX3_firstUnlike_56 : decode cX3_firstUnlike 56 = .ok (.iconst (-1), 1) := by decide +kernel
theorem dX3_firstUnlike_57 : decode cX3_firstUnlike 57 = .ok (.ireturn, 1) := by decide +kernel
theorem dX4_init_0 : decode cX4_init 0 = .ok (.aload_n 0, 1) := by decide +kernel
theorem dX4_init_1 : decode cX4_init 1 = .ok (.invokespecial 3, 3) := by decide +kernel
theorem dX4_init_4 : decode cX4_init 4 = .ok (.aload_n 0, 1) := by decide +kernel
theorem dX4_init_5 : decode cX4_init 5 = .ok (.new 9, 3) := by decide +kernel
theorem dX4_init_8 : decode cX4_init 8 = .ok (.dup, 1) := by decide +kernel
theorem dX4_init_9 : decode cX4_init 9 = .ok (.bipush 40, 2) := by decide +kernel
theorem dX4_init_11 : decode cX4_init 11 = .ok (.invokespecial 11, 3) := by decide +kernel
theorem dX4_init_14 : decode cX4_init 14 = .ok (.putfield 14, 3) := by decide +kernel
theorem dX4_init_17 : decode cX4_init 17 = .ok (.return_, 1) := by decide +kernel
theorem dX4_isMissing_0 : decode cX4_isMissing 0 = .ok (.aload_n 0, 1) := by decide +kernel
theorem dX4_isMissing_1 : decode cX4_isMissing 1 = .ok (.getfield 20, 3) := by decide +kernel
theorem dX4_isMissing_4 : decode cX4_isMissing 4 = .ok (.ifCond .ne 7, 3) := by decide +kernel
theorem dX4_isMissing_7 : decode cX4_isMissing 7 = .ok (.iconst 1, 1) := by decide +kernel
theorem dX4_isMissing_8 : decode cX4_isMissing 8 = .ok (.goto 4, 3) := by decide +kernel
theorem dX4_isMissing_11 : decode cX4_isMissing 11 = .ok (.iconst 0, 1) := by decide +kernel
theorem dX4_isMissing_12 : decode cX4_isMissing 12 = .ok (.ireturn, 1) := by decide +kernel
theorem dX4_become_0 : decode cX4_become 0 = .ok (.aload_n 0, 1) := by decide +kernel
theorem dX4_become_1 : decode cX4_become 1 = .ok (.iload_n 1, 1) := by decide +kernel
theorem dX4_become_2 : decode cX4_become 2 = .ok (.putfield 20, 3) := by decide +kernel
theorem dX4_become_5 : decode cX4_become 5 = .ok (.aload_n 0, 1) := by decide +kernel
theorem dX4_become_6 : decode cX4_become 6 = .ok (.getfield 14, 3) := by decide +kernel
theorem dX4_become_9 : decode cX4_become 9 = .ok (.iload_n 2, 1) := by decide +kernel
theorem dX4_become_10 : decode cX4_become 10 = .ok (.iconst 0, 1) := by decide +kernel
theorem dX4_become_11 : decode cX4_become 11 = .ok (.invokevirtual 24, 3) := by decide +kernel
theorem dX4_become_14 : decode cX4_become 14 = .ok (.return_, 1) := by decide +kernel
theorem dX4_hasNumber_0 : decode cX4_hasNumber 0 = .ok (.aload_n 0, 1) := by decide +kernel
theorem dX4_hasNumber_1 : decode cX4_hasNumber 1 = .ok (.getfield 14, 3) := by decide +kernel
theorem dX4_hasNumber_4 : decode cX4_hasNumber 4 = .ok (.iload_n 1, 1) := by decide +kernel
theorem dX4_hasNumber_5 : decode cX4_hasNumber 5 = .ok (.invokevirtual 28, 3) := by decide +kernel
theorem dX4_hasNumber_8 : decode cX4_hasNumber 8 = .ok (.ireturn, 1) := by decide +kernel
theorem dX4_hasNumbers_0 : decode cX4_hasNumbers 0 = .ok (.iload_n 2, 1) := by decide +kernel
theorem dX4_hasNumbers_1 : decode cX4_hasNumbers 1 = .ok (.ifCond .lt 35, 3) := by decide +kernel
theorem dX4_hasNumbers_4 : decode cX4_hasNumbers 4 = .ok (.iload_n 1, 1) := by decide +kernel
theorem dX4_hasNumbers_5 : decode cX4_hasNumbers 5 = .ok (.ifCond .lt 31, 3) := by decide +kernel
theorem dX4_hasNumbers_8 : decode cX4_hasNumbers 8 = .ok (.iload_n 2, 1) := by decide +kernel
theorem dX4_hasNumbers_9 : decode cX4_hasNumbers 9 = .ok (.aload_n 0, 1) := by decide +kernel
theorem dX4_hasNumbers_10 : decode cX4_hasNumbers 10 = .ok (.getfield 14, 3) := by decide +kernel
theorem dX4_hasNumbers_13 : decode cX4_hasNumbers 13 = .ok (.invokevirtual 32, 3) := by decide +kernel
theorem dX4_hasNumbers_16 : decode cX4_hasNumbers 16 = .ok (.if_icmp .gt 20, 3) := by decide +kernel
theorem dX4_hasNumbers_19 : decode cX4_hasNumbers 19 = .ok (.iload_n 1, 1) := by decide +kernel
theorem dX4_hasNumbers_20 : decode cX4_hasNumbers 20 = .ok (.aload_n 0, 1) := by decide +kernel
theorem dX4_hasNumbers_21 : decode cX4_hasNumbers 21 = .ok (.getfield 14, 3) := by decide +kernel
theorem dX4_hasNumbers_24 : decode cX4_hasNumbers 24 = .ok (.invokevirtual 32, 3) := by decide +kernel
theorem dX4_hasNumbers_27 : decode cX4_hasNumbers 27 = .ok (.iload_n 2, 1) := by decide +kernel
theorem dX4_hasNumbers_28 : decode cX4_hasNumbers 28 = .ok (.isub, 1) := by decide +kernel
theorem dX4_hasNumbers_29 : decode cX4_hasNumbers 29 = .ok (.if_icmp .gt 7, 3) := by decide +kernel
theorem dX4_hasNumbers_32 : decode cX4_hasNumbers 32 = .ok (.iconst 1, 1) := by decide +kernel
theorem dX4_hasNumbers_33 : decode cX4_hasNumbers 33 = .ok (.goto 4, 3) := by decide +kernel
theorem dX4_hasNumbers_36 : decode cX4_hasNumbers 36 = .ok (.iconst 0, 1) := by decide +kernel
theorem dX4_hasNumbers_37 : decode cX4_hasNumbers 37 = .ok (.ireturn, 1) := by decide +kernel
theorem dX4_numberAt_0 : decode cX4_numberAt 0 = .ok (.aload_n 0, 1) := by decide +kernel
theorem dX4_numberAt_1 : decode cX4_numberAt 1 = .ok (.getfield 14, 3) := by decide +kernel
theorem dX4_numberAt_4 : decode cX4_numberAt 4 = .ok (.iload_n 1, 1) := by decide +kernel
theorem dX4_numberAt_5 : decode cX4_numberAt 5 = .ok (.invokevirtual 36, 3) := by decide +kernel
theorem dX4_numberAt_8 : decode cX4_numberAt 8 = .ok (.ireturn, 1) := by decide +kernel
theorem dX4_write_0 : decode cX4_write 0 = .ok (.aload_n 0, 1) := by decide +kernel
theorem dX4_write_1 : decode cX4_write 1 = .ok (.getfield 14, 3) := by decide +kernel
theorem dX4_write_4 : decode cX4_write 4 = .ok (.iload_n 1, 1) := by decide +kernel
theorem dX4_write_5 : decode cX4_write 5 = .ok (.aload_n 0, 1) := by decide +kernel
theorem dX4_write_6 : decode cX4_write 6 = .ok (.getfield 20, 3) := by decide +kernel
theorem dX4_write_9 : decode cX4_write 9 = .ok (.bipush 8, 2) := by decide +kernel
theorem dX4_write_11 : decode cX4_write 11 = .ok (.if_icmp .ne 8, 3) := by decide +kernel
theorem dX4_write_14 : decode cX4_write 14 = .ok (.iload_n 2, 1) := by decide +kernel
theorem dX4_write_15 : decode cX4_write 15 = .ok (.i2b, 1) := by decide +kernel
theorem dX4_write_16 : decode cX4_write 16 = .ok (.goto 18, 3) := by decide +kernel
theorem dX4_write_19 : decode cX4_write 19 = .ok (.aload_n 0, 1) := by decide +kernel
theorem dX4_write_20 : decode cX4_write 20 = .ok (.getfield 20, 3) := by decide +kernel
theorem dX4_write_23 : decode cX4_write 23 = .ok (.bipush 16, 2) := by decide +kernel
theorem dX4_write_25 : decode cX4_write 25 = .ok (.if_icmp .ne 8, 3) := by decide +kernel
theorem dX4_write_28 : decode cX4_write 28 = .ok (.iload_n 2, 1) := by decide +kernel
theorem dX4_write_29 : decode cX4_write 29 = .ok (.i2s, 1) := by decide +kernel
theorem dX4_write_30 : decode cX4_write 30 = .ok (.goto 4, 3) := by decide +kernel
theorem dX4_write_33 : decode cX4_write 33 = .ok (.iload_n 2, 1) := by decide +kernel
theorem dX4_write_34 : decode cX4_write 34 = .ok (.invokevirtual 40, 3) := by decide +kernel
theorem dX4_write_37 : decode cX4_write 37 = .ok (.pop, 1) := by decide +kernel
theorem dX4_write_38 : decode cX4_write 38 = .ok (.return_, 1) := by decide +kernel
theorem dX5_init_0 : decode cX5_init 0 = .ok (.aload_n 0, 1) := by decide +kernel
theorem dX5_init_1 : decode cX5_init 1 = .ok (.invokespecial 3, 3) := by decide +kernel
theorem dX5_init_4 : decode cX5_init 4 = .ok (.aload_n 0, 1) := by decide +kernel
theorem dX5_init_5 : decode cX5_init 5 = .ok (.new 9, 3) := by decide +kernel
theorem dX5_init_8 : decode cX5_init 8 = .ok (.dup, 1) := by decide +kernel
theorem dX5_init_9 : decode cX5_init 9 = .ok (.bipush 41, 2) := by decide +kernel
theorem dX5_init_11 : decode cX5_init 11 = .ok (.invokespecial 11, 3) := by decide +kernel
theorem dX5_init_14 : decode cX5_init 14 = .ok (.putfield 14, 3) := by decide +kernel
theorem dX5_init_17 : decode cX5_init 17 = .ok (.aload_n 0, 1) := by decide +kernel
theorem dX5_init_18 : decode cX5_init 18 = .ok (.new 9, 3) := by decide +kernel
theorem dX5_init_21 : decode cX5_init 21 = .ok (.dup, 1) := by decide +kernel
theorem dX5_init_22 : decode cX5_init 22 = .ok (.bipush 41, 2) := by decide +kernel
theorem dX5_init_24 : decode cX5_init 24 = .ok (.invokespecial 11, 3) := by decide +kernel
theorem dX5_init_27 : decode cX5_init 27 = .ok (.putfield 20, 3) := by decide +kernel
theorem dX5_init_30 : decode cX5_init 30 = .ok (.return_, 1) := by decide +kernel
theorem dX5_take_0 : decode cX5_take 0 = .ok (.aload_n 1, 1) := by decide +kernel
theorem dX5_take_1 : decode cX5_take 1 = .ok (.iload_n 3, 1) := by decide +kernel
theorem dX5_take_2 : decode cX5_take 2 = .ok (.invokevirtual 23, 3) := by decide +kernel
theorem dX5_take_5 : decode cX5_take 5 = .ok (.aload_n 0, 1) := by decide +kernel
theorem dX5_take_6 : decode cX5_take 6 = .ok (.iload 4, 2) := by decide +kernel
theorem dX5_take_8 : decode cX5_take 8 = .ok (.putfield 28, 3) := by decide +kernel
theorem dX5_take_11 : decode cX5_take 11 = .ok (.aload_n 0, 1) := by decide +kernel
theorem dX5_take_12 : decode cX5_take 12 = .ok (.getfield 14, 3) := by decide +kernel
theorem dX5_take_15 : decode cX5_take 15 = .ok (.invokevirtual 32, 3) := by decide +kernel
theorem dX5_take_18 : decode cX5_take 18 = .ok (.aload_n 0, 1) := by decide +kernel
theorem dX5_take_19 : decode cX5_take 19 = .ok (.getfield 14, 3) := by decide +kernel
theorem dX5_take_22 : decode cX5_take 22 = .ok (.aload_n 1, 1) := by decide +kernel
theorem dX5_take_23 : decode cX5_take 23 = .ok (.aload_n 2, 1) := by decide +kernel
theorem dX5_take_24 : decode cX5_take 24 = .ok (.getfield 35, 3) := by decide +kernel
theorem dX5_take_27 : decode cX5_take 27 = .ok (.iconst 0, 1) := by decide +kernel
theorem dX5_take_28 : decode cX5_take 28 = .ok (.invokevirtual 40, 3) := by decide +kernel
theorem dX5_take_31 : decode cX5_take 31 = .ok (.invokevirtual 44, 3) := by decide +kernel
theorem dX5_take_34 : decode cX5_take 34 = .ok (.pop, 1) := by decide +kernel
theorem dX5_take_35 : decode cX5_take 35 = .ok (.aload_n 0, 1) := by decide +kernel
theorem dX5_take_36 : decode cX5_take 36 = .ok (.iconst 0, 1) := by decide +kernel
theorem dX5_take_37 : decode cX5_take 37 = .ok (.putfield 48, 3) := by decide +kernel
theorem dX5_take_40 : decode cX5_take 40 = .ok (.iconst 1, 1) := by decide +kernel
theorem dX5_take_41 : decode cX5_take 41 = .ok (.istore 5, 2) := by decide +kernel
theorem dX5_take_43 : decode cX5_take 43 = .ok (.iload 5, 2) := by decide +kernel
theorem dX5_take_45 : decode cX5_take 45 = .ok (.aload_n 0, 1) := by decide +kernel
theorem dX5_take_46 : decode cX5_take 46 = .ok (.getfield 28, 3) := by decide +kernel
theorem dX5_take_49 : decode cX5_take 49 = .ok (.if_icmp .gt 47, 3) := by decide +kernel
theorem dX5_take_52 : decode cX5_take 52 = .ok (.aload_n 1, 1) := by decide +kernel
theorem dX5_take_53 : decode cX5_take 53 = .ok (.aload_n 2, 1) := by decide +kernel
theorem dX5_take_54 : decode cX5_take 54 = .ok (.getfield 35, 3) := by decide +kernel
theorem dX5_take_57 : decode cX5_take 57 = .ok (.iload 5, 2) := by decide +kernel
theorem dX5_take_59 : decode cX5_take 59 = .ok (.aload_n 2, 1) := by decide +kernel
theorem dX5_take_60 : decode cX5_take 60 = .ok (.getfield 51, 3) := by decide +kernel
theorem dX5_take_63 : decode cX5_take 63 = .ok (.imul, 1) := by decide +kernel
theorem dX5_take_64 : decode cX5_take 64 = .ok (.invokevirtual 40, 3) := by decide +kernel
theorem dX5_take_67 : decode cX5_take 67 = .ok (.istore 6, 2) := by decide +kernel
theorem dX5_take_69 : decode cX5_take 69 = .ok (.aload_n 0, 1) := by decide +kernel
theorem dX5_take_70 : decode cX5_take 70 = .ok (.getfield 14, 3) := by decide +kernel
theorem dX5_take_73 : decode cX5_take 73 = .ok (.iload 6, 2) := by decide +kernel
theorem dX5_take_75 : decode cX5_take 75 = .ok (.invokevirtual 44, 3) := by decide +kernel
theorem dX5_take_78 : decode cX5_take 78 = .ok (.pop, 1) := by decide +kernel
theorem dX5_take_79 : decode cX5_take 79 = .ok (.aload_n 0, 1) := by decide +kernel
theorem dX5_take_80 : decode cX5_take 80 = .ok (.dup, 1) := by decide +kernel
theorem dX5_take_81 : decode cX5_take 81 = .ok (.getfield 48, 3) := by decide +kernel
theorem dX5_take_84 : decode cX5_take 84 = .ok (.iload 6, 2) := by decide +kernel
theorem dX5_take_86 : decode cX5_take 86 = .ok (.iadd, 1) := by decide +kernel
theorem dX5_take_87 : decode cX5_take 87 = .ok (.putfield 48, 3) := by decide +kernel
theorem dX5_take_90 : decode cX5_take 90 = .ok (.iinc 5 1, 3) := by decide +kernel
theorem dX5_take_93 : decode cX5_take 93 = .ok (.goto (-50), 3) := by decide +kernel
theorem dX5_take_96 : decode cX5_take 96 = .ok (.return_, 1) := by decide +kernel
theorem dX5_noFewer_0 : decode cX5_noFewer 0 = .ok (.aload_n 0, 1) := by decide +kernel
theorem dX5_noFewer_1 : decode cX5_noFewer 1 = .ok (.aload_n 0, 1) := by decide +kernel
theorem dX5_noFewer_2 : decode cX5_noFewer 2 = .ok (.getfield 14, 3) := by decide +kernel
theorem dX5_noFewer_5 : decode cX5_noFewer 5 = .ok (.iconst 0, 1) := by decide +kernel
theorem dX5_noFewer_6 : decode cX5_noFewer 6 = .ok (.invokevirtual 54, 3) := by decide +kernel
theorem dX5_noFewer_9 : decode cX5_noFewer 9 = .ok (.invokevirtual 58, 3) := by decide +kernel
theorem dX5_noFewer_12 : decode cX5_noFewer 12 = .ok (.ireturn, 1) := by decide +kernel
theorem dX5_slidWith_0 : decode cX5_slidWith 0 = .ok (.iconst 0, 1) := by decide +kernel
theorem dX5_slidWith_1 : decode cX5_slidWith 1 = .ok (.istore_n 2, 1) := by decide +kernel
theorem dX5_slidWith_2 : decode cX5_slidWith 2 = .ok (.iconst 1, 1) := by decide +kernel
theorem dX5_slidWith_3 : decode cX5_slidWith 3 = .ok (.istore_n 3, 1) := by decide +kernel
theorem dX5_slidWith_4 : decode cX5_slidWith 4 = .ok (.iload_n 3, 1) := by decide +kernel
theorem dX5_slidWith_5 : decode cX5_slidWith 5 = .ok (.aload_n 0, 1) := by decide +kernel
theorem dX5_slidWith_6 : decode cX5_slidWith 6 = .ok (.getfield 28, 3) := by decide +kernel
theorem dX5_slidWith_9 : decode cX5_slidWith 9 = .ok (.if_icmp .gt 24, 3) := by decide +kernel
theorem dX5_slidWith_12 : decode cX5_slidWith 12 = .ok (.aload_n 0, 1) := by decide +kernel
theorem dX5_slidWith_13 : decode cX5_slidWith 13 = .ok (.getfield 14, 3) := by decide +kernel
theorem dX5_slidWith_16 : decode cX5_slidWith 16 = .ok (.iload_n 3, 1) := by decide +kernel
theorem dX5_slidWith_17 : decode cX5_slidWith 17 = .ok (.invokevirtual 54, 3) := by decide +kernel
theorem dX5_slidWith_20 : decode cX5_slidWith 20 = .ok (.iload_n 1, 1) := by decide +kernel
theorem dX5_slidWith_21 : decode cX5_slidWith 21 = .ok (.if_icmp .lt 6, 3) := by decide +kernel
theorem dX5_slidWith_24 : decode cX5_slidWith 24 = .ok (.iinc 2 1, 3) := by decide +kernel
theorem dX5_slidWith_27 : decode cX5_slidWith 27 = .ok (.iinc 3 1, 3) := by decide +kernel
theorem dX5_slidWith_30 : decode cX5_slidWith 30 = .ok (.goto (-26), 3) := by decide +kernel
theorem dX5_slidWith_33 : decode cX5_slidWith 33 = .ok (.iload_n 2, 1) := by decide +kernel
theorem dX5_slidWith_34 : decode cX5_slidWith 34 = .ok (.ireturn, 1) := by decide +kernel
theorem dX5_leastRare_0 : decode cX5_leastRare 0 = .ok (.iconst 0, 1) := by decide +kernel
theorem dX5_leastRare_1 : decode cX5_leastRare 1 = .ok (.istore_n 2, 1) := by decide +kernel
theorem dX5_leastRare_2 : decode cX5_leastRare 2 = .ok (.iload_n 2, 1) := by decide +kernel
theorem dX5_leastRare_3 : decode cX5_leastRare 3 = .ok (.bipush 96, 2) := by decide +kernel
theorem dX5_leastRare_5 : decode cX5_leastRare 5 = .ok (.if_icmp .gt 26, 3) := by decide +kernel
theorem dX5_leastRare_8 : decode cX5_leastRare 8 = .ok (.bipush 100, 2) := by decide +kernel
theorem dX5_leastRare_10 : decode cX5_leastRare 10 = .ok (.aload_n 0, 1) := by decide +kernel
theorem dX5_leastRare_11 : decode cX5_leastRare 11 = .ok (.iload_n 2, 1) := by decide +kernel
theorem dX5_leastRare_12 : decode cX5_leastRare 12 = .ok (.invokevirtual 58, 3) := by decide +kernel
theorem dX5_leastRare_15 : decode cX5_leastRare 15 = .ok (.imul, 1) := by decide +kernel
theorem dX5_leastRare_16 : decode cX5_leastRare 16 = .ok (.iload_n 1, 1) := by decide +kernel
theorem dX5_leastRare_17 : decode cX5_leastRare 17 = .ok (.aload_n 0, 1) := by decide +kernel
theorem dX5_leastRare_18 : decode cX5_leastRare 18 = .ok (.getfield 28, 3) := by decide +kernel
theorem dX5_leastRare_21 : decode cX5_leastRare 21 = .ok (.imul, 1) := by decide +kernel
theorem dX5_leastRare_22 : decode cX5_leastRare 22 = .ok (.if_icmp .le 9, 3) := by decide +kernel
theorem dX5_leastRare_25 : decode cX5_leastRare 25 = .ok (.iinc 2 1, 3) := by decide +kernel
theorem dX5_leastRare_28 : decode cX5_leastRare 28 = .ok (.goto (-26), 3) := by decide +kernel
theorem dX5_leastRare_31 : decode cX5_leastRare 31 = .ok (.iload_n 2, 1) := by decide +kernel
theorem dX5_leastRare_32 : decode cX5_leastRare 32 = .ok (.ireturn, 1) := by decide +kernel
theorem dX5_scoreAt_0 : decode cX5_scoreAt 0 = .ok (.aload_n 0, 1) := by decide +kernel
theorem dX5_scoreAt_1 : decode cX5_scoreAt 1 = .ok (.getfield 28, 3) := by decide +kernel
theorem dX5_scoreAt_4 : decode cX5_scoreAt 4 = .ok (.aload_n 0, 1) := by decide +kernel
theorem dX5_scoreAt_5 : decode cX5_scoreAt 5 = .ok (.getfield 14, 3) := by decide +kernel
theorem dX5_scoreAt_8 : decode cX5_scoreAt 8 = .ok (.iload_n 1, 1) := by decide +kernel
theorem dX5_scoreAt_9 : decode cX5_scoreAt 9 = .ok (.invokevirtual 54, 3) := by decide +kernel
theorem dX5_scoreAt_12 : decode cX5_scoreAt 12 = .ok (.imul, 1) := by decide +kernel
theorem dX5_scoreAt_13 : decode cX5_scoreAt 13 = .ok (.aload_n 0, 1) := by decide +kernel
theorem dX5_scoreAt_14 : decode cX5_scoreAt 14 = .ok (.getfield 48, 3) := by decide +kernel
theorem dX5_scoreAt_17 : decode cX5_scoreAt 17 = .ok (.isub, 1) := by decide +kernel
theorem dX5_scoreAt_18 : decode cX5_scoreAt 18 = .ok (.ireturn, 1) := by decide +kernel
theorem dX5_takeLines_0 : decode cX5_takeLines 0 = .ok (.iconst 0, 1) := by decide +kernel
theorem dX5_takeLines_1 : decode cX5_takeLines 1 = .ok (.istore 5, 2) := by decide +kernel
theorem dX5_takeLines_3 : decode cX5_takeLines 3 = .ok (.aload_n 0, 1) := by decide +kernel
theorem dX5_takeLines_4 : decode cX5_takeLines 4 = .ok (.getfield 20, 3) := by decide +kernel
theorem dX5_takeLines_7 : decode cX5_takeLines 7 = .ok (.invokevirtual 32, 3) := by decide +kernel
theorem dX5_takeLines_10 : decode cX5_takeLines 10 = .ok (.iconst 0, 1) := by decide +kernel
theorem dX5_takeLines_11 : decode cX5_takeLines 11 = .ok (.istore 6, 2) := by decide +kernel
theorem dX5_takeLines_13 : decode cX5_takeLines 13 = .ok (.iload 6, 2) := by decide +kernel
theorem dX5_takeLines_15 : decode cX5_takeLines 15 = .ok (.aload_n 3, 1) := by decide +kernel
theorem dX5_takeLines_16 : decode cX5_takeLines 16 = .ok (.invokevirtual 61, 3) := by decide +kernel
theorem dX5_takeLines_19 : decode cX5_takeLines 19 = .ok (.if_icmp .ge 46, 3) := by decide +kernel
theorem dX5_takeLines_22 : decode cX5_takeLines 22 = .ok (.aload_n 0, 1) := by decide +kernel
theorem dX5_takeLines_23 : decode cX5_takeLines 23 = .ok (.aload_n 1, 1) := by decide +kernel
theorem dX5_takeLines_24 : decode cX5_takeLines 24 = .ok (.aload_n 2, 1) := by decide +kernel
theorem dX5_takeLines_25 : decode cX5_takeLines 25 = .ok (.aload_n 3, 1) := by decide +kernel
theorem dX5_takeLines_26 : decode cX5_takeLines 26 = .ok (.iload 6, 2) := by decide +kernel
theorem dX5_takeLines_28 : decode cX5_takeLines 28 = .ok (.invokevirtual 54, 3) := by decide +kernel
theorem dX5_takeLines_31 : decode cX5_takeLines 31 = .ok (.iload 4, 2) := by decide +kernel
theorem dX5_takeLines_33 : decode cX5_takeLines 33 = .ok (.invokevirtual 65, 3) := by decide +kernel
theorem dX5_takeLines_36 : decode cX5_takeLines 36 = .ok (.iload 6, 2) := by decide +kernel
theorem dX5_takeLines_38 : decode cX5_takeLines 38 = .ok (.ifCond .ne 10, 3) := by decide +kernel
theorem dX5_takeLines_41 : decode cX5_takeLines 41 = .ok (.aload_n 0, 1) := by decide +kernel
theorem dX5_takeLines_42 : decode cX5_takeLines 42 = .ok (.invokevirtual 69, 3) := by decide +kernel
theorem dX5_takeLines_45 : decode cX5_takeLines 45 = .ok (.goto 14, 3) := by decide +kernel
theorem dX5_takeLines_48 : decode cX5_takeLines 48 = .ok (.aload_n 0, 1) := by decide +kernel
theorem dX5_takeLines_49 : decode cX5_takeLines 49 = .ok (.invokevirtual 72, 3) := by decide +kernel
theorem dX5_takeLines_52 : decode cX5_takeLines 52 = .ok (.ifCond .eq 7, 3) := by decide +kernel
theorem dX5_takeLines_55 : decode cX5_takeLines 55 = .ok (.iload 6, 2) := by decide +kernel
theorem dX5_takeLines_57 : decode cX5_takeLines 57 = .ok (.istore 5, 2) := by decide +kernel
theorem dX5_takeLines_59 : decode cX5_takeLines 59 = .ok (.iinc 6 1, 3) := by decide +kernel
theorem dX5_takeLines_62 : decode cX5_takeLines 62 = .ok (.goto (-49), 3) := by decide +kernel
theorem dX5_takeLines_65 : decode cX5_takeLines 65 = .ok (.iload 5, 2) := by decide +kernel
theorem dX5_takeLines_67 : decode cX5_takeLines 67 = .ok (.ireturn, 1) := by decide +kernel
theorem dX5_keepAll_0 : decode cX5_keepAll 0 = .ok (.iconst 0, 1) := by decide +kernel
theorem dX5_keepAll_1 : decode cX5_keepAll 1 = .ok (.istore_n 1, 1) := by decide +kernel
theorem dX5_keepAll_2 : decode cX5_keepAll 2 = .ok (.iload_n 1, 1) := by decide +kernel
theorem dX5_keepAll_3 : decode cX5_keepAll 3 = .ok (.aload_n 0, 1) := by decide +kernel
theorem dX5_keepAll_4 : decode cX5_keepAll 4 = .ok (.getfield 28, 3) := by decide +kernel
theorem dX5_keepAll_7 : decode cX5_keepAll 7 = .ok (.if_icmp .gt 22, 3) := by decide +kernel
theorem dX5_keepAll_10 : decode cX5_keepAll 10 = .ok (.aload_n 0, 1) := by decide +kernel
theorem dX5_keepAll_11 : decode cX5_keepAll 11 = .ok (.getfield 20, 3) := by decide +kernel
theorem dX5_keepAll_14 : decode cX5_keepAll 14 = .ok (.aload_n 0, 1) := by decide +kernel
theorem dX5_keepAll_15 : decode cX5_keepAll 15 = .ok (.iload_n 1, 1) := by decide +kernel
theorem dX5_keepAll_16 : decode cX5_keepAll 16 = .ok (.invokevirtual 76, 3) := by decide +kernel
theorem dX5_keepAll_19 : decode cX5_keepAll 19 = .ok (.invokevirtual 44, 3) := by decide +kernel
theorem dX5_keepAll_22 : decode cX5_keepAll 22 = .ok (.pop, 1) := by decide +kernel
theorem dX5_keepAll_23 : decode cX5_keepAll 23 = .ok (.iinc 1 1, 3) := by decide +kernel
theorem dX5_keepAll_26 : decode cX5_keepAll 26 = .ok (.goto (-24), 3) := by decide +kernel
theorem dX5_keepAll_29 : decode cX5_keepAll 29 = .ok (.return_, 1) := by decide +kernel
theorem dX5_keepGreater_0 : decode cX5_keepGreater 0 = .ok (.aload_n 0, 1) := by decide +kernel
theorem dX5_keepGreater_1 : decode cX5_keepGreater 1 = .ok (.iconst 0, 1) := by decide +kernel
theorem dX5_keepGreater_2 : decode cX5_keepGreater 2 = .ok (.invokevirtual 76, 3) := by decide +kernel
theorem dX5_keepGreater_5 : decode cX5_keepGreater 5 = .ok (.aload_n 0, 1) := by decide +kernel
theorem dX5_keepGreater_6 : decode cX5_keepGreater 6 = .ok (.getfield 20, 3) := by decide +kernel
theorem dX5_keepGreater_9 : decode cX5_keepGreater 9 = .ok (.iconst 0, 1) := by decide +kernel
theorem dX5_keepGreater_10 : decode cX5_keepGreater 10 = .ok (.invokevirtual 54, 3) := by decide +kernel
theorem dX5_keepGreater_13 : decode cX5_keepGreater 13 = .ok (.if_icmp .le 7, 3) := by decide +kernel
theorem dX5_keepGreater_16 : decode cX5_keepGreater 16 = .ok (.iconst 1, 1) := by decide +kernel
theorem dX5_keepGreater_17 : decode cX5_keepGreater 17 = .ok (.goto 4, 3) := by decide +kernel
theorem dX5_keepGreater_20 : decode cX5_keepGreater 20 = .ok (.iconst 0, 1) := by decide +kernel
theorem dX5_keepGreater_21 : decode cX5_keepGreater 21 = .ok (.istore_n 1, 1) := by decide +kernel
theorem dX5_keepGreater_22 : decode cX5_keepGreater 22 = .ok (.iconst 0, 1) := by decide +kernel
theorem dX5_keepGreater_23 : decode cX5_keepGreater 23 = .ok (.istore_n 2, 1) := by decide +kernel
theorem dX5_keepGreater_24 : decode cX5_keepGreater 24 = .ok (.iload_n 2, 1) := by decide +kernel
theorem dX5_keepGreater_25 : decode cX5_keepGreater 25 = .ok (.aload_n 0, 1) := by decide +kernel
theorem dX5_keepGreater_26 : decode cX5_keepGreater 26 = .ok (.getfield 28, 3) := by decide +kernel
theorem dX5_keepGreater_29 : decode cX5_keepGreater 29 = .ok (.if_icmp .gt 34, 3) := by decide +kernel
theorem dX5_keepGreater_32 : decode cX5_keepGreater 32 = .ok (.aload_n 0, 1) := by decide +kernel
theorem dX5_keepGreater_33 : decode cX5_keepGreater 33 = .ok (.getfield 20, 3) := by decide +kernel
theorem dX5_keepGreater_36 : decode cX5_keepGreater 36 = .ok (.iload_n 2, 1) := by decide +kernel
theorem dX5_keepGreater_37 : decode cX5_keepGreater 37 = .ok (.aload_n 0, 1) := by decide +kernel
theorem dX5_keepGreater_38 : decode cX5_keepGreater 38 = .ok (.getfield 20, 3) := by decide +kernel
theorem dX5_keepGreater_41 : decode cX5_keepGreater 41 = .ok (.iload_n 2, 1) := by decide +kernel
theorem dX5_keepGreater_42 : decode cX5_keepGreater 42 = .ok (.invokevirtual 54, 3) := by decide +kernel
theorem dX5_keepGreater_45 : decode cX5_keepGreater 45 = .ok (.aload_n 0, 1) := by decide +kernel
theorem dX5_keepGreater_46 : decode cX5_keepGreater 46 = .ok (.iload_n 2, 1) := by decide +kernel
theorem dX5_keepGreater_47 : decode cX5_keepGreater 47 = .ok (.invokevirtual 76, 3) := by decide +kernel
theorem dX5_keepGreater_50 : decode cX5_keepGreater 50 = .ok (.invokestatic 79, 3) := by decide +kernel
theorem dX5_keepGreater_53 : decode cX5_keepGreater 53 = .ok (.invokevirtual 84, 3) := by decide +kernel
theorem dX5_keepGreater_56 : decode cX5_keepGreater 56 = .ok (.pop, 1) := by decide +kernel
theorem dX5_keepGreater_57 : decode cX5_keepGreater 57 = .ok (.iinc 2 1, 3) := by decide +kernel
theorem dX5_keepGreater_60 : decode cX5_keepGreater 60 = .ok (.goto (-36), 3) := by decide +kernel
theorem dX5_keepGreater_63 : decode cX5_keepGreater 63 = .ok (.iload_n 1, 1) := by decide +kernel
theorem dX5_keepGreater_64 : decode cX5_keepGreater 64 = .ok (.ireturn, 1) := by decide +kernel
theorem dX5_noLess_0 : decode cX5_noLess 0 = .ok (.iconst 0, 1) := by decide +kernel
theorem dX5_noLess_1 : decode cX5_noLess 1 = .ok (.istore_n 1, 1) := by decide +kernel
theorem dX5_noLess_2 : decode cX5_noLess 2 = .ok (.iconst 1, 1) := by decide +kernel
theorem dX5_noLess_3 : decode cX5_noLess 3 = .ok (.istore_n 2, 1) := by decide +kernel
theorem dX5_noLess_4 : decode cX5_noLess 4 = .ok (.iload_n 2, 1) := by decide +kernel
theorem dX5_noLess_5 : decode cX5_noLess 5 = .ok (.aload_n 0, 1) := by decide +kernel
theorem dX5_noLess_6 : decode cX5_noLess 6 = .ok (.getfield 28, 3) := by decide +kernel
theorem dX5_noLess_9 : decode cX5_noLess 9 = .ok (.if_icmp .gt 31, 3) := by decide +kernel
theorem dX5_noLess_12 : decode cX5_noLess 12 = .ok (.aload_n 0, 1) := by decide +kernel
theorem dX5_noLess_13 : decode cX5_noLess 13 = .ok (.getfield 20, 3) := by decide +kernel
theorem dX5_noLess_16 : decode cX5_noLess 16 = .ok (.iload_n 2, 1) := by decide +kernel
theorem dX5_noLess_17 : decode cX5_noLess 17 = .ok (.invokevirtual 54, 3) := by decide +kernel
theorem dX5_noLess_20 : decode cX5_noLess 20 = .ok (.aload_n 0, 1) := by decide +kernel
theorem dX5_noLess_21 : decode cX5_noLess 21 = .ok (.getfield 20, 3) := by decide +kernel
theorem dX5_noLess_24 : decode cX5_noLess 24 = .ok (.iconst 0, 1) := by decide +kernel
theorem dX5_noLess_25 : decode cX5_noLess 25 = .ok (.invokevirtual 54, 3) := by decide +kernel
theorem dX5_noLess_28 : decode cX5_noLess 28 = .ok (.if_icmp .lt 6, 3) := by decide +kernel
theorem dX5_noLess_31 : decode cX5_noLess 31 = .ok (.iinc 1 1, 3) := by decide +kernel
theorem dX5_noLess_34 : decode cX5_noLess 34 = .ok (.iinc 2 1, 3) := by decide +kernel
theorem dX5_noLess_37 : decode cX5_noLess 37 = .ok (.goto (-33), 3) := by decide +kernel
theorem dX5_noLess_40 : decode cX5_noLess 40 = .ok (.iload_n 1, 1) := by decide +kernel
theorem dX5_noLess_41 : decode cX5_noLess 41 = .ok (.ireturn, 1) := by decide +kernel
theorem dX6_init_0 : decode cX6_init 0 = .ok (.aload_n 0, 1) := by decide +kernel
theorem dX6_init_1 : decode cX6_init 1 = .ok (.invokespecial 3, 3) := by decide +kernel
theorem dX6_init_4 : decode cX6_init 4 = .ok (.aload_n 0, 1) := by decide +kernel
theorem dX6_init_5 : decode cX6_init 5 = .ok (.new 9, 3) := by decide +kernel
theorem dX6_init_8 : decode cX6_init 8 = .ok (.dup, 1) := by decide +kernel
theorem dX6_init_9 : decode cX6_init 9 = .ok (.iconst 3, 1) := by decide +kernel
theorem dX6_init_10 : decode cX6_init 10 = .ok (.invokespecial 11, 3) := by decide +kernel
theorem dX6_init_13 : decode cX6_init 13 = .ok (.putfield 14, 3) := by decide +kernel
theorem dX6_init_16 : decode cX6_init 16 = .ok (.aload_n 0, 1) := by decide +kernel
theorem dX6_init_17 : decode cX6_init 17 = .ok (.new 9, 3) := by decide +kernel
theorem dX6_init_20 : decode cX6_init 20 = .ok (.dup, 1) := by decide +kernel
theorem dX6_init_21 : decode cX6_init 21 = .ok (.bipush 6, 2) := by decide +kernel
theorem dX6_init_23 : decode cX6_init 23 = .ok (.invokespecial 11, 3) := by decide +kernel
theorem dX6_init_26 : decode cX6_init 26 = .ok (.putfield 20, 3) := by decide +kernel
theorem dX6_init_29 : decode cX6_init 29 = .ok (.aload_n 0, 1) := by decide +kernel
theorem dX6_init_30 : decode cX6_init 30 = .ok (.new 9, 3) := by decide +kernel
theorem dX6_init_33 : decode cX6_init 33 = .ok (.dup, 1) := by decide +kernel
theorem dX6_init_34 : decode cX6_init 34 = .ok (.bipush 96, 2) := by decide +kernel
theorem dX6_init_36 : decode cX6_init 36 = .ok (.invokespecial 11, 3) := by decide +kernel
theorem dX6_init_39 : decode cX6_init 39 = .ok (.putfield 23, 3) := by decide +kernel
theorem dX6_init_42 : decode cX6_init 42 = .ok (.aload_n 0, 1) := by decide +kernel
theorem dX6_init_43 : decode cX6_init 43 = .ok (.new 9, 3) := by decide +kernel
theorem dX6_init_46 : decode cX6_init 46 = .ok (.dup, 1) := by decide +kernel
theorem dX6_init_47 : decode cX6_init 47 = .ok (.bipush 96, 2) := by decide +kernel
theorem dX6_init_49 : decode cX6_init 49 = .ok (.invokespecial 11, 3) := by decide +kernel
theorem dX6_init_52 : decode cX6_init 52 = .ok (.putfield 26, 3) := by decide +kernel
theorem dX6_init_55 : decode cX6_init 55 = .ok (.aload_n 0, 1) := by decide +kernel
theorem dX6_init_56 : decode cX6_init 56 = .ok (.new 9, 3) := by decide +kernel
theorem dX6_init_59 : decode cX6_init 59 = .ok (.dup, 1) := by decide +kernel
theorem dX6_init_60 : decode cX6_init 60 = .ok (.bipush 96, 2) := by decide +kernel
theorem dX6_init_62 : decode cX6_init 62 = .ok (.invokespecial 11, 3) := by decide +kernel
theorem dX6_init_65 : decode cX6_init 65 = .ok (.putfield 29, 3) := by decide +kernel
theorem dX6_init_68 : decode cX6_init 68 = .ok (.aload_n 0, 1) := by decide +kernel
theorem dX6_init_69 : decode cX6_init 69 = .ok (.new 9, 3) := by decide +kernel
theorem dX6_init_72 : decode cX6_init 72 = .ok (.dup, 1) := by decide +kernel
theorem dX6_init_73 : decode cX6_init 73 = .ok (.bipush 50, 2) := by decide +kernel
theorem dX6_init_75 : decode cX6_init 75 = .ok (.invokespecial 11, 3) := by decide +kernel
theorem dX6_init_78 : decode cX6_init 78 = .ok (.putfield 32, 3) := by decide +kernel
theorem dX6_init_81 : decode cX6_init 81 = .ok (.aload_n 0, 1) := by decide +kernel
theorem dX6_init_82 : decode cX6_init 82 = .ok (.bipush 9, 2) := by decide +kernel
theorem dX6_init_84 : decode cX6_init 84 = .ok (.anewarray 35, 3) := by decide +kernel
theorem dX6_init_87 : decode cX6_init 87 = .ok (.putfield 37, 3) := by decide +kernel
theorem dX6_init_90 : decode cX6_init 90 = .ok (.aload_n 0, 1) := by decide +kernel
theorem dX6_init_91 : decode cX6_init 91 = .ok (.bipush 12, 2) := by decide +kernel
theorem dX6_init_93 : decode cX6_init 93 = .ok (.anewarray 41, 3) := by decide +kernel
theorem dX6_init_96 : decode cX6_init 96 = .ok (.putfield 43, 3) := by decide +kernel
theorem dX6_init_99 : decode cX6_init 99 = .ok (.aload_n 0, 1) := by decide +kernel
theorem dX6_init_100 : decode cX6_init 100 = .ok (.new 9, 3) := by decide +kernel
theorem dX6_init_103 : decode cX6_init 103 = .ok (.dup, 1) := by decide +kernel
theorem dX6_init_104 : decode cX6_init 104 = .ok (.bipush 6, 2) := by decide +kernel
theorem dX6_init_106 : decode cX6_init 106 = .ok (.invokespecial 11, 3) := by decide +kernel
theorem dX6_init_109 : decode cX6_init 109 = .ok (.putfield 47, 3) := by decide +kernel
theorem dX6_init_112 : decode cX6_init 112 = .ok (.aload_n 0, 1) := by decide +kernel
theorem dX6_init_113 : decode cX6_init 113 = .ok (.new 9, 3) := by decide +kernel
theorem dX6_init_116 : decode cX6_init 116 = .ok (.dup, 1) := by decide +kernel
theorem dX6_init_117 : decode cX6_init 117 = .ok (.bipush 10, 2) := by decide +kernel
theorem dX6_init_119 : decode cX6_init 119 = .ok (.invokespecial 11, 3) := by decide +kernel
theorem dX6_init_122 : decode cX6_init 122 = .ok (.putfield 50, 3) := by decide +kernel
theorem dX6_init_125 : decode cX6_init 125 = .ok (.aload_n 0, 1) := by decide +kernel
theorem dX6_init_126 : decode cX6_init 126 = .ok (.new 9, 3) := by decide +kernel
theorem dX6_init_129 : decode cX6_init 129 = .ok (.dup, 1) := by decide +kernel
theorem dX6_init_130 : decode cX6_init 130 = .ok (.bipush 6, 2) := by decide +kernel
theorem dX6_init_132 : decode cX6_init 132 = .ok (.invokespecial 11, 3) := by decide +kernel
theorem dX6_init_135 : decode cX6_init 135 = .ok (.putfield 53, 3) := by decide +kernel
theorem dX6_init_138 : decode cX6_init 138 = .ok (.aload_n 0, 1) := by decide +kernel
theorem dX6_init_139 : decode cX6_init 139 = .ok (.new 9, 3) := by decide +kernel
theorem dX6_init_142 : decode cX6_init 142 = .ok (.dup, 1) := by decide +kernel
theorem dX6_init_143 : decode cX6_init 143 = .ok (.bipush 8, 2) := by decide +kernel
theorem dX6_init_145 : decode cX6_init 145 = .ok (.invokespecial 11, 3) := by decide +kernel
theorem dX6_init_148 : decode cX6_init 148 = .ok (.putfield 56, 3) := by decide +kernel
theorem dX6_init_151 : decode cX6_init 151 = .ok (.aload_n 0, 1) := by decide +kernel
theorem dX6_init_152 : decode cX6_init 152 = .ok (.new 9, 3) := by decide +kernel
theorem dX6_init_155 : decode cX6_init 155 = .ok (.dup, 1) := by decide +kernel
theorem dX6_init_156 : decode cX6_init 156 = .ok (.bipush 8, 2) := by decide +kernel
theorem dX6_init_158 : decode cX6_init 158 = .ok (.invokespecial 11, 3) := by decide +kernel
theorem dX6_init_161 : decode cX6_init 161 = .ok (.putfield 59, 3) := by decide +kernel
theorem dX6_init_164 : decode cX6_init 164 = .ok (.aload_n 0, 1) := by decide +kernel
theorem dX6_init_165 : decode cX6_init 165 = .ok (.new 9, 3) := by decide +kernel
theorem dX6_init_168 : decode cX6_init 168 = .ok (.dup, 1) := by decide +kernel
theorem dX6_init_169 : decode cX6_init 169 = .ok (.bipush 8, 2) := by decide +kernel
theorem dX6_init_171 : decode cX6_init 171 = .ok (.invokespecial 11, 3) := by decide +kernel
theorem dX6_init_174 : decode cX6_init 174 = .ok (.putfield 62, 3) := by decide +kernel
theorem dX6_init_177 : decode cX6_init 177 = .ok (.aload_n 0, 1) := by decide +kernel
theorem dX6_init_178 : decode cX6_init 178 = .ok (.new 9, 3) := by decide +kernel
theorem dX6_init_181 : decode cX6_init 181 = .ok (.dup, 1) := by decide +kernel
theorem dX6_init_182 : decode cX6_init 182 = .ok (.bipush 20, 2) := by decide +kernel
theorem dX6_init_184 : decode cX6_init 184 = .ok (.invokespecial 11, 3) := by decide +kernel
theorem dX6_init_187 : decode cX6_init 187 = .ok (.putfield 65, 3) := by decide +kernel
theorem dX6_init_190 : decode cX6_init 190 = .ok (.aload_n 0, 1) := by decide +kernel
theorem dX6_init_191 : decode cX6_init 191 = .ok (.iconst 1, 1) := by decide +kernel
theorem dX6_init_192 : decode cX6_init 192 = .ok (.putfield 68, 3) := by decide +kernel
theorem dX6_init_195 : decode cX6_init 195 = .ok (.aload_n 0, 1) := by decide +kernel
theorem dX6_init_196 : decode cX6_init 196 = .ok (.getfield 14, 3) := by decide +kernel
theorem dX6_init_199 : decode cX6_init 199 = .ok (.iconst 3, 1) := by decide +kernel
theorem dX6_init_200 : decode cX6_init 200 = .ok (.iconst 0, 1) := by decide +kernel
theorem dX6_init_201 : decode cX6_init 201 = .ok (.invokevirtual 72, 3) := by decide +kernel
theorem dX6_init_204 : decode cX6_init 204 = .ok (.aload_n 0, 1) := by decide +kernel
theorem dX6_init_205 : decode cX6_init 205 = .ok (.getfield 53, 3) := by decide +kernel
theorem dX6_init_208 : decode cX6_init 208 = .ok (.bipush 6, 2) := by decide +kernel
theorem dX6_init_210 : decode cX6_init 210 = .ok (.iconst 1, 1) := by decide +kernel
theorem dX6_init_211 : decode cX6_init 211 = .ok (.invokevirtual 72, 3) := by decide +kernel
theorem dX6_init_214 : decode cX6_init 214 = .ok (.aload_n 0, 1) := by decide +kernel
theorem dX6_init_215 : decode cX6_init 215 = .ok (.getfield 56, 3) := by decide +kernel
theorem dX6_init_218 : decode cX6_init 218 = .ok (.bipush 8, 2) := by decide +kernel
theorem dX6_init_220 : decode cX6_init 220 = .ok (.iconst 0, 1) := by decide +kernel
theorem dX6_init_221 : decode cX6_init 221 = .ok (.invokevirtual 72, 3) := by decide +kernel
theorem dX6_init_224 : decode cX6_init 224 = .ok (.return_, 1) := by decide +kernel
theorem dX6_become_0 : decode cX6_become 0 = .ok (.aload_n 0, 1) := by decide +kernel
theorem dX6_become_1 : decode cX6_become 1 = .ok (.getfield 14, 3) := by decide +kernel
theorem dX6_become_4 : decode cX6_become 4 = .ok (.aload_n 1, 1) := by decide +kernel
theorem dX6_become_5 : decode cX6_become 5 = .ok (.getfield 14, 3) := by decide +kernel
theorem dX6_become_8 : decode cX6_become 8 = .ok (.invokevirtual 76, 3) := by decide +kernel
theorem dX6_become_11 : decode cX6_become 11 = .ok (.aload_n 0, 1) := by decide +kernel
theorem dX6_become_12 : decode cX6_become 12 = .ok (.getfield 20, 3) := by decide +kernel
theorem dX6_become_15 : decode cX6_become 15 = .ok (.aload_n 1, 1) := by decide +kernel
theorem dX6_become_16 : decode cX6_become 16 = .ok (.getfield 20, 3) := by decide +kernel
theorem dX6_become_19 : decode cX6_become 19 = .ok (.invokevirtual 76, 3) := by decide +kernel
theorem dX6_become_22 : decode cX6_become 22 = .ok (.aload_n 0, 1) := by decide +kernel
theorem dX6_become_23 : decode cX6_become 23 = .ok (.getfield 23, 3) := by decide +kernel
theorem dX6_become_26 : decode cX6_become 26 = .ok (.aload_n 1, 1) := by decide +kernel
theorem dX6_become_27 : decode cX6_become 27 = .ok (.getfield 23, 3) := by decide +kernel
theorem dX6_become_30 : decode cX6_become 30 = .ok (.invokevirtual 76, 3) := by decide +kernel
theorem dX6_become_33 : decode cX6_become 33 = .ok (.aload_n 0, 1) := by decide +kernel
theorem dX6_become_34 : decode cX6_become 34 = .ok (.getfield 26, 3) := by decide +kernel
theorem dX6_become_37 : decode cX6_become 37 = .ok (.aload_n 1, 1) := by decide +kernel
theorem dX6_become_38 : decode cX6_become 38 = .ok (.getfield 26, 3) := by decide +kernel
theorem dX6_become_41 : decode cX6_become 41 = .ok (.invokevirtual 76, 3) := by decide +kernel
theorem dX6_become_44 : decode cX6_become 44 = .ok (.aload_n 0, 1) := by decide +kernel
theorem dX6_become_45 : decode cX6_become 45 = .ok (.getfield 29, 3) := by decide +kernel
theorem dX6_become_48 : decode cX6_become 48 = .ok (.aload_n 1, 1) := by decide +kernel
theorem dX6_become_49 : decode cX6_become 49 = .ok (.getfield 29, 3) := by decide +kernel
theorem dX6_become_52 : decode cX6_become 52 = .ok (.invokevirtual 76, 3) := by decide +kernel
theorem dX6_become_55 : decode cX6_become 55 = .ok (.aload_n 0, 1) := by decide +kernel
theorem dX6_become_56 : decode cX6_become 56 = .ok (.getfield 32, 3) := by decide +kernel
theorem dX6_become_59 : decode cX6_become 59 = .ok (.aload_n 1, 1) := by decide +kernel
theorem dX6_become_60 : decode cX6_become 60 = .ok (.getfield 32, 3) := by decide +kernel
theorem dX6_become_63 : decode cX6_become 63 = .ok (.invokevirtual 76, 3) := by decide +kernel
theorem dX6_become_66 : decode cX6_become 66 = .ok (.iconst 0, 1) := by decide +kernel
theorem dX6_become_67 : decode cX6_become 67 = .ok (.istore_n 2, 1) := by decide +kernel
theorem dX6_become_68 : decode cX6_become 68 = .ok (.iload_n 2, 1) := by decide +kernel
theorem dX6_become_69 : decode cX6_become 69 = .ok (.aload_n 0, 1) := by decide +kernel
theorem dX6_become_70 : decode cX6_become 70 = .ok (.getfield 37, 3) := by decide +kernel
theorem dX6_become_73 : decode cX6_become 73 = .ok (.arraylength, 1) := by decide +kernel
theorem dX6_become_74 : decode cX6_become 74 = .ok (.if_icmp .ge 30, 3) := by decide +kernel
theorem dX6_become_77 : decode cX6_become 77 = .ok (.iload_n 2, 1) := by decide +kernel
theorem dX6_become_78 : decode cX6_become 78 = .ok (.aload_n 1, 1) := by decide +kernel
theorem dX6_become_79 : decode cX6_become 79 = .ok (.getfield 37, 3) := by decide +kernel
theorem dX6_become_82 : decode cX6_become 82 = .ok (.arraylength, 1) := by decide +kernel
theorem dX6_become_83 : decode cX6_become 83 = .ok (.if_icmp .ge 21, 3) := by decide +kernel
theorem dX6_become_86 : decode cX6_become 86 = .ok (.aload_n 0, 1) := by decide +kernel
theorem dX6_become_87 : decode cX6_become 87 = .ok (.getfield 37, 3) := by decide +kernel
theorem dX6_become_90 : decode cX6_become 90 = .ok (.iload_n 2, 1) := by decide +kernel
theorem dX6_become_91 : decode cX6_become 91 = .ok (.aload_n 1, 1) := by decide +kernel
theorem dX6_become_92 : decode cX6_become 92 = .ok (.getfield 37, 3) := by decide +kernel
theorem dX6_become_95 : decode cX6_become 95 = .ok (.iload_n 2, 1) := by decide +kernel
theorem dX6_become_96 : decode cX6_become 96 = .ok (.aaload, 1) := by decide +kernel
theorem dX6_become_97 : decode cX6_become 97 = .ok (.aastore, 1) := by decide +kernel
theorem dX6_become_98 : decode cX6_become 98 = .ok (.iinc 2 1, 3) := by decide +kernel
theorem dX6_become_101 : decode cX6_become 101 = .ok (.goto (-33), 3) := by decide +kernel
theorem dX6_become_104 : decode cX6_become 104 = .ok (.iconst 0, 1) := by decide +kernel
theorem dX6_become_105 : decode cX6_become 105 = .ok (.istore_n 2, 1) := by decide +kernel
theorem dX6_become_106 : decode cX6_become 106 = .ok (.iload_n 2, 1) := by decide +kernel
theorem dX6_become_107 : decode cX6_become 107 = .ok (.aload_n 0, 1) := by decide +kernel
theorem dX6_become_108 : decode cX6_become 108 = .ok (.getfield 43, 3) := by decide +kernel
theorem dX6_become_111 : decode cX6_become 111 = .ok (.arraylength, 1) := by decide +kernel
theorem dX6_become_112 : decode cX6_become 112 = .ok (.if_icmp .ge 30, 3) := by decide +kernel
theorem dX6_become_115 : decode cX6_become 115 = .ok (.iload_n 2, 1) := by decide +kernel
theorem dX6_become_116 : decode cX6_become 116 = .ok (.aload_n 1, 1) := by decide +kernel
theorem dX6_become_117 : decode cX6_become 117 = .ok (.getfield 43, 3) := by decide +kernel
theorem dX6_become_120 : decode cX6_become 120 = .ok (.arraylength, 1) := by decide +kernel
theorem dX6_become_121 : decode cX6_become 121 = .ok (.if_icmp .ge 21, 3) := by decide +kernel
theorem dX6_become_124 : decode cX6_become 124 = .ok (.aload_n 0, 1) := by decide +kernel
theorem dX6_become_125 : decode cX6_become 125 = .ok (.getfield 43, 3) := by decide +kernel
theorem dX6_become_128 : decode cX6_become 128 = .ok (.iload_n 2, 1) := by decide +kernel
theorem dX6_become_129 : decode cX6_become 129 = .ok (.aload_n 1, 1) := by decide +kernel
theorem dX6_become_130 : decode cX6_become 130 = .ok (.getfield 43, 3) := by decide +kernel
theorem dX6_become_133 : decode cX6_become 133 = .ok (.iload_n 2, 1) := by decide +kernel
theorem dX6_become_134 : decode cX6_become 134 = .ok (.aaload, 1) := by decide +kernel
theorem dX6_become_135 : decode cX6_become 135 = .ok (.aastore, 1) := by decide +kernel
theorem dX6_become_136 : decode cX6_become 136 = .ok (.iinc 2 1, 3) := by decide +kernel
theorem dX6_become_139 : decode cX6_become 139 = .ok (.goto (-33), 3) := by decide +kernel
theorem dX6_become_142 : decode cX6_become 142 = .ok (.aload_n 0, 1) := by decide +kernel
theorem dX6_become_143 : decode cX6_become 143 = .ok (.aload_n 1, 1) := by decide +kernel
theorem dX6_become_144 : decode cX6_become 144 = .ok (.getfield 80, 3) := by decide +kernel
theorem dX6_become_147 : decode cX6_become 147 = .ok (.putfield 80, 3) := by decide +kernel
theorem dX6_become_150 : decode cX6_become 150 = .ok (.aload_n 0, 1) := by decide +kernel
theorem dX6_become_151 : decode cX6_become 151 = .ok (.getfield 47, 3) := by decide +kernel
theorem dX6_become_154 : decode cX6_become 154 = .ok (.aload_n 1, 1) := by decide +kernel
theorem dX6_become_155 : decode cX6_become 155 = .ok (.getfield 47, 3) := by decide +kernel
theorem dX6_become_158 : decode cX6_become 158 = .ok (.invokevirtual 76, 3) := by decide +kernel
theorem dX6_become_161 : decode cX6_become 161 = .ok (.aload_n 0, 1) := by decide +kernel
theorem dX6_become_162 : decode cX6_become 162 = .ok (.getfield 50, 3) := by decide +kernel
theorem dX6_become_165 : decode cX6_become 165 = .ok (.aload_n 1, 1) := by decide +kernel
theorem dX6_become_166 : decode cX6_become 166 = .ok (.getfield 50, 3) := by decide +kernel
theorem dX6_become_169 : decode cX6_become 169 = .ok (.invokevirtual 76, 3) := by decide +kernel
theorem dX6_become_172 : decode cX6_become 172 = .ok (.aload_n 0, 1) := by decide +kernel
theorem dX6_become_173 : decode cX6_become 173 = .ok (.getfield 53, 3) := by decide +kernel
theorem dX6_become_176 : decode cX6_become 176 = .ok (.aload_n 1, 1) := by decide +kernel
theorem dX6_become_177 : decode cX6_become 177 = .ok (.getfield 53, 3) := by decide +kernel
theorem dX6_become_180 : decode cX6_become 180 = .ok (.invokevirtual 76, 3) := by decide +kernel
theorem dX6_become_183 : decode cX6_become 183 = .ok (.aload_n 0, 1) := by decide +kernel
theorem dX6_become_184 : decode cX6_become 184 = .ok (.getfield 56, 3) := by decide +kernel
theorem dX6_become_187 : decode cX6_become 187 = .ok (.aload_n 1, 1) := by decide +kernel
theorem dX6_become_188 : decode cX6_become 188 = .ok (.getfield 56, 3) := by decide +kernel
theorem dX6_become_191 : decode cX6_become 191 = .ok (.invokevirtual 76, 3) := by decide +kernel
theorem dX6_become_194 : decode cX6_become 194 = .ok (.aload_n 0, 1) := by decide +kernel
theorem dX6_become_195 : decode cX6_become 195 = .ok (.getfield 59, 3) := by decide +kernel
theorem dX6_become_198 : decode cX6_become 198 = .ok (.aload_n 1, 1) := by decide +kernel
theorem dX6_become_199 : decode cX6_become 199 = .ok (.getfield 59, 3) := by decide +kernel
theorem dX6_become_202 : decode cX6_become 202 = .ok (.invokevirtual 76, 3) := by decide +kernel
theorem dX6_become_205 : decode cX6_become 205 = .ok (.aload_n 0, 1) := by decide +kernel
theorem dX6_become_206 : decode cX6_become 206 = .ok (.getfield 62, 3) := by decide +kernel
theorem dX6_become_209 : decode cX6_become 209 = .ok (.aload_n 1, 1) := by decide +kernel
theorem dX6_become_210 : decode cX6_become 210 = .ok (.getfield 62, 3) := by decide +kernel
theorem dX6_become_213 : decode cX6_become 213 = .ok (.invokevirtual 76, 3) := by decide +kernel
theorem dX6_become_216 : decode cX6_become 216 = .ok (.aload_n 0, 1) := by decide +kernel
theorem dX6_become_217 : decode cX6_become 217 = .ok (.getfield 65, 3) := by decide +kernel
theorem dX6_become_220 : decode cX6_become 220 = .ok (.aload_n 1, 1) := by decide +kernel
theorem dX6_become_221 : decode cX6_become 221 = .ok (.getfield 65, 3) := by decide +kernel
theorem dX6_become_224 : decode cX6_become 224 = .ok (.invokevirtual 76, 3) := by decide +kernel
theorem dX6_become_227 : decode cX6_become 227 = .ok (.aload_n 0, 1) := by decide +kernel
theorem dX6_become_228 : decode cX6_become 228 = .ok (.aload_n 1, 1) := by decide +kernel
theorem dX6_become_229 : decode cX6_become 229 = .ok (.getfield 68, 3) := by decide +kernel
theorem dX6_become_232 : decode cX6_become 232 = .ok (.putfield 68, 3) := by decide +kernel
theorem dX6_become_235 : decode cX6_become 235 = .ok (.return_, 1) := by decide +kernel
theorem dX6_rings_0 : decode cX6_rings 0 = .ok (.aload_n 0, 1) := by decide +kernel
theorem dX6_rings_1 : decode cX6_rings 1 = .ok (.getfield 23, 3) := by decide +kernel
theorem dX6_rings_4 : decode cX6_rings 4 = .ok (.invokevirtual 83, 3) := by decide +kernel
theorem dX6_rings_7 : decode cX6_rings 7 = .ok (.ireturn, 1) := by decide +kernel
theorem dX6_addRing_0 : decode cX6_addRing 0 = .ok (.aload_n 0, 1) := by decide +kernel
theorem dX6_addRing_1 : decode cX6_addRing 1 = .ok (.getfield 23, 3) := by decide +kernel
theorem dX6_addRing_4 : decode cX6_addRing 4 = .ok (.iload_n 1, 1) := by decide +kernel
theorem dX6_addRing_5 : decode cX6_addRing 5 = .ok (.invokevirtual 87, 3) := by decide +kernel
theorem dX6_addRing_8 : decode cX6_addRing 8 = .ok (.ifCond .eq 29, 3) := by decide +kernel
theorem dX6_addRing_11 : decode cX6_addRing 11 = .ok (.aload_n 0, 1) := by decide +kernel
theorem dX6_addRing_12 : decode cX6_addRing 12 = .ok (.getfield 26, 3) := by decide +kernel
theorem dX6_addRing_15 : decode cX6_addRing 15 = .ok (.iload_n 2, 1) := by decide +kernel
theorem dX6_addRing_16 : decode cX6_addRing 16 = .ok (.invokevirtual 87, 3) := by decide +kernel
theorem dX6_addRing_19 : decode cX6_addRing 19 = .ok (.ifCond .eq 18, 3) := by decide +kernel
theorem dX6_addRing_22 : decode cX6_addRing 22 = .ok (.aload_n 0, 1) := by decide +kernel
theorem dX6_addRing_23 : decode cX6_addRing 23 = .ok (.getfield 29, 3) := by decide +kernel
theorem dX6_addRing_26 : decode cX6_addRing 26 = .ok (.iload_n 3, 1) := by decide +kernel
theorem dX6_addRing_27 : decode cX6_addRing 27 = .ok (.invokevirtual 87, 3) := by decide +kernel
theorem dX6_addRing_30 : decode cX6_addRing 30 = .ok (.ifCond .eq 7, 3) := by decide +kernel
theorem dX6_addRing_33 : decode cX6_addRing 33 = .ok (.iconst 1, 1) := by decide +kernel
theorem dX6_addRing_34 : decode cX6_addRing 34 = .ok (.goto 4, 3) := by decide +kernel
theorem dX6_addRing_37 : decode cX6_addRing 37 = .ok (.iconst 0, 1) := by decide +kernel
theorem dX6_addRing_38 : decode cX6_addRing 38 = .ok (.ireturn, 1) := by decide +kernel
theorem dX6_clockOf_0 : decode cX6_clockOf 0 = .ok (.aload_n 0, 1) := by decide +kernel
theorem dX6_clockOf_1 : decode cX6_clockOf 1 = .ok (.getfield 14, 3) := by decide +kernel
theorem dX6_clockOf_4 : decode cX6_clockOf 4 = .ok (.aload_n 0, 1) := by decide +kernel
theorem dX6_clockOf_5 : decode cX6_clockOf 5 = .ok (.getfield 20, 3) := by decide +kernel
theorem dX6_clockOf_8 : decode cX6_clockOf 8 = .ok (.iload_n 1, 1) := by decide +kernel
theorem dX6_clockOf_9 : decode cX6_clockOf 9 = .ok (.invokevirtual 91, 3) := by decide +kernel
theorem dX6_clockOf_12 : decode cX6_clockOf 12 = .ok (.invokevirtual 91, 3) := by decide +kernel
theorem dX6_clockOf_15 : decode cX6_clockOf 15 = .ok (.ireturn, 1) := by decide +kernel
theorem dX6_shownAt_0 : decode cX6_shownAt 0 = .ok (.aload_n 0, 1) := by decide +kernel
theorem dX6_shownAt_1 : decode cX6_shownAt 1 = .ok (.getfield 26, 3) := by decide +kernel
theorem dX6_shownAt_4 : decode cX6_shownAt 4 = .ok (.iload_n 1, 1) := by decide +kernel
theorem dX6_shownAt_5 : decode cX6_shownAt 5 = .ok (.invokevirtual 91, 3) := by decide +kernel
theorem dX6_shownAt_8 : decode cX6_shownAt 8 = .ok (.aload_n 0, 1) := by decide +kernel
theorem dX6_shownAt_9 : decode cX6_shownAt 9 = .ok (.aload_n 0, 1) := by decide +kernel
theorem dX6_shownAt_10 : decode cX6_shownAt 10 = .ok (.getfield 23, 3) := by decide +kernel
theorem dX6_shownAt_13 : decode cX6_shownAt 13 = .ok (.iload_n 1, 1) := by decide +kernel
theorem dX6_shownAt_14 : decode cX6_shownAt 14 = .ok (.invokevirtual 91, 3) := by decide +kernel
theorem dX6_shownAt_17 : decode cX6_shownAt 17 = .ok (.invokevirtual 95, 3) := by decide +kernel
theorem dX6_shownAt_20 : decode cX6_shownAt 20 = .ok (.iadd, 1) := by decide +kernel
theorem dX6_shownAt_21 : decode cX6_shownAt 21 = .ok (.ireturn, 1) := by decide +kernel
theorem dX6_textOf_0 : decode cX6_textOf 0 = .ok (.iload_n 1, 1) := by decide +kernel
theorem dX6_textOf_1 : decode cX6_textOf 1 = .ok (.ifCond .lt 21, 3) := by decide +kernel
theorem dX6_textOf_4 : decode cX6_textOf 4 = .ok (.iload_n 1, 1) := by decide +kernel
theorem dX6_textOf_5 : decode cX6_textOf 5 = .ok (.aload_n 0, 1) := by decide +kernel
theorem dX6_textOf_6 : decode cX6_textOf 6 = .ok (.getfield 37, 3) := by decide +kernel
theorem dX6_textOf_9 : decode cX6_textOf 9 = .ok (.arraylength, 1) := by decide +kernel
theorem dX6_textOf_10 : decode cX6_textOf 10 = .ok (.if_icmp .ge 12, 3) := by decide +kernel
theorem dX6_textOf_13 : decode cX6_textOf 13 = .ok (.aload_n 0, 1) := by decide +kernel
theorem dX6_textOf_14 : decode cX6_textOf 14 = .ok (.getfield 37, 3) := by decide +kernel
theorem dX6_textOf_17 : decode cX6_textOf 17 = .ok (.iload_n 1, 1) := by decide +kernel
theorem dX6_textOf_18 : decode cX6_textOf 18 = .ok (.aaload, 1) := by decide +kernel
theorem dX6_textOf_19 : decode cX6_textOf 19 = .ok (.goto 4, 3) := by decide +kernel
theorem dX6_textOf_22 : decode cX6_textOf 22 = .ok (.aconst_null, 1) := by decide +kernel
theorem dX6_textOf_23 : decode cX6_textOf 23 = .ok (.areturn, 1) := by decide +kernel
theorem dX6_setText_0 : decode cX6_setText 0 = .ok (.iload_n 1, 1) := by decide +kernel
theorem dX6_setText_1 : decode cX6_setText 1 = .ok (.ifCond .lt 19, 3) := by decide +kernel
theorem dX6_setText_4 : decode cX6_setText 4 = .ok (.iload_n 1, 1) := by decide +kernel
theorem dX6_setText_5 : decode cX6_setText 5 = .ok (.aload_n 0, 1) := by decide +kernel
theorem dX6_setText_6 : decode cX6_setText 6 = .ok (.getfield 37, 3) := by decide +kernel
theorem dX6_setText_9 : decode cX6_setText 9 = .ok (.arraylength, 1) := by decide +kernel
theorem dX6_setText_10 : decode cX6_setText 10 = .ok (.if_icmp .ge 10, 3) := by decide +kernel
theorem dX6_setText_13 : decode cX6_setText 13 = .ok (.aload_n 0, 1) := by decide +kernel
theorem dX6_setText_14 : decode cX6_setText 14 = .ok (.getfield 37, 3) := by decide +kernel
theorem dX6_setText_17 : decode cX6_setText 17 = .ok (.iload_n 1, 1) := by decide +kernel
theorem dX6_setText_18 : decode cX6_setText 18 = .ok (.aload_n 2, 1) := by decide +kernel
theorem dX6_setText_19 : decode cX6_setText 19 = .ok (.aastore, 1) := by decide +kernel
theorem dX6_setText_20 : decode cX6_setText 20 = .ok (.return_, 1) := by decide +kernel
theorem dX6_countings_0 : decode cX6_countings 0 = .ok (.aload_n 0, 1) := by decide +kernel
theorem dX6_countings_1 : decode cX6_countings 1 = .ok (.getfield 80, 3) := by decide +kernel
theorem dX6_countings_4 : decode cX6_countings 4 = .ok (.ireturn, 1) := by decide +kernel
theorem dX6_addCounting_0 : decode cX6_addCounting 0 = .ok (.aload_n 0, 1) := by decide +kernel
theorem dX6_addCounting_1 : decode cX6_addCounting 1 = .ok (.getfield 80, 3) := by decide +kernel
theorem dX6_addCounting_4 : decode cX6_addCounting 4 = .ok (.ifCond .lt 35, 3) := by decide +kernel
theorem dX6_addCounting_7 : decode cX6_addCounting 7 = .ok (.aload_n 0, 1) := by decide +kernel
theorem dX6_addCounting_8 : decode cX6_addCounting 8 = .ok (.getfield 80, 3) := by decide +kernel
theorem dX6_addCounting_11 : decode cX6_addCounting 11 = .ok (.aload_n 0, 1) := by decide +kernel
theorem dX6_addCounting_12 : decode cX6_addCounting 12 = .ok (.getfield 43, 3) := by decide +kernel
theorem dX6_addCounting_15 : decode cX6_addCounting 15 = .ok (.arraylength, 1) := by decide +kernel
theorem dX6_addCounting_16 : decode cX6_addCounting 16 = .ok (.if_icmp .ge 23, 3) := by decide +kernel
theorem dX6_addCounting_19 : decode cX6_addCounting 19 = .ok (.aload_n 0, 1) := by decide +kernel
theorem dX6_addCounting_20 : decode cX6_addCounting 20 = .ok (.getfield 43, 3) := by decide +kernel
theorem dX6_addCounting_23 : decode cX6_addCounting 23 = .ok (.aload_n 0, 1) := by decide +kernel
theorem dX6_addCounting_24 : decode cX6_addCounting 24 = .ok (.getfield 80, 3) := by decide +kernel
theorem dX6_addCounting_27 : decode cX6_addCounting 27 = .ok (.aload_n 1, 1) := by decide +kernel
theorem dX6_addCounting_28 : decode cX6_addCounting 28 = .ok (.aastore, 1) := by decide +kernel
theorem dX6_addCounting_29 : decode cX6_addCounting 29 = .ok (.aload_n 0, 1) := by decide +kernel
theorem dX6_addCounting_30 : decode cX6_addCounting 30 = .ok (.dup, 1) := by decide +kernel
theorem dX6_addCounting_31 : decode cX6_addCounting 31 = .ok (.getfield 80, 3) := by decide +kernel
theorem dX6_addCounting_34 : decode cX6_addCounting 34 = .ok (.iconst 1, 1) := by decide +kernel
theorem dX6_addCounting_35 : decode cX6_addCounting 35 = .ok (.iadd, 1) := by decide +kernel
theorem dX6_addCounting_36 : decode cX6_addCounting 36 = .ok (.putfield 80, 3) := by decide +kernel
theorem dX6_addCounting_39 : decode cX6_addCounting 39 = .ok (.return_, 1) := by decide +kernel
theorem dX6_countingAt_0 : decode cX6_countingAt 0 = .ok (.iload_n 1, 1) := by decide +kernel
theorem dX6_countingAt_1 : decode cX6_countingAt 1 = .ok (.ifCond .lt 29, 3) := by decide +kernel
theorem dX6_countingAt_4 : decode cX6_countingAt 4 = .ok (.iload_n 1, 1) := by decide +kernel
theorem dX6_countingAt_5 : decode cX6_countingAt 5 = .ok (.aload_n 0, 1) := by decide +kernel
theorem dX6_countingAt_6 : decode cX6_countingAt 6 = .ok (.getfield 80, 3) := by decide +kernel
theorem dX6_countingAt_9 : decode cX6_countingAt 9 = .ok (.if_icmp .ge 21, 3) := by decide +kernel
theorem dX6_countingAt_12 : decode cX6_countingAt 12 = .ok (.iload_n 1, 1) := by decide +kernel
theorem dX6_countingAt_13 : decode cX6_countingAt 13 = .ok (.aload_n 0, 1) := by decide +kernel
theorem dX6_countingAt_14 : decode cX6_countingAt 14 = .ok (.getfield 43, 3) := by decide +kernel
theorem dX6_countingAt_17 : decode cX6_countingAt 17 = .ok (.arraylength, 1) := by decide +kernel
theorem dX6_countingAt_18 : decode cX6_countingAt 18 = .ok (.if_icmp .ge 12, 3) := by decide +kernel
theorem dX6_countingAt_21 : decode cX6_countingAt 21 = .ok (.aload_n 0, 1) := by decide +kernel
theorem dX6_countingAt_22 : decode cX6_countingAt 22 = .ok (.getfield 43, 3) := by decide +kernel
theorem dX6_countingAt_25 : decode cX6_countingAt 25 = .ok (.iload_n 1, 1) := by decide +kernel
theorem dX6_countingAt_26 : decode cX6_countingAt 26 = .ok (.aaload, 1) := by decide +kernel
theorem dX6_countingAt_27 : decode cX6_countingAt 27 = .ok (.goto 4, 3) := by decide +kernel
theorem dX6_countingAt_30 : decode cX6_countingAt 30 = .ok (.aconst_null, 1) := by decide +kernel
theorem dX6_countingAt_31 : decode cX6_countingAt 31 = .ok (.areturn, 1) := by decide +kernel
theorem dX6_lawGives_0 : decode cX6_lawGives 0 = .ok (.aload_n 0, 1) := by decide +kernel
theorem dX6_lawGives_1 : decode cX6_lawGives 1 = .ok (.iconst 3, 1) := by decide +kernel
theorem dX6_lawGives_2 : decode cX6_lawGives 2 = .ok (.iload_n 1, 1) := by decide +kernel
theorem dX6_lawGives_3 : decode cX6_lawGives 3 = .ok (.iadd, 1) := by decide +kernel
theorem dX6_lawGives_4 : decode cX6_lawGives 4 = .ok (.invokevirtual 98, 3) := by decide +kernel
theorem dX6_lawGives_7 : decode cX6_lawGives 7 = .ok (.astore 4, 2) := by decide +kernel
theorem dX6_lawGives_9 : decode cX6_lawGives 9 = .ok (.aload 4, 2) := by decide +kernel
theorem dX6_lawGives_11 : decode cX6_lawGives 11 = .ok (.ifnonnull 5, 3) := by decide +kernel
theorem dX6_lawGives_14 : decode cX6_lawGives 14 = .ok (.iconst 1, 1) := by decide +kernel
theorem dX6_lawGives_15 : decode cX6_lawGives 15 = .ok (.ireturn, 1) := by decide +kernel
theorem dX6_lawGives_16 : decode cX6_lawGives 16 = .ok (.iconst 0, 1) := by decide +kernel
theorem dX6_lawGives_17 : decode cX6_lawGives 17 = .ok (.bipush 9, 2) := by decide +kernel
theorem dX6_lawGives_19 : decode cX6_lawGives 19 = .ok (.aload 4, 2) := by decide +kernel
theorem dX6_lawGives_21 : decode cX6_lawGives 21 = .ok (.iload_n 2, 1) := by decide +kernel
theorem dX6_lawGives_22 : decode cX6_lawGives 22 = .ok (.iload_n 3, 1) := by decide +kernel
theorem dX6_lawGives_23 : decode cX6_lawGives 23 = .ok (.iconst 0, 1) := by decide +kernel
theorem dX6_lawGives_24 : decode cX6_lawGives 24 = .ok (.iconst 0, 1) := by decide +kernel
theorem dX6_lawGives_25 : decode cX6_lawGives 25 = .ok (.invokevirtual 102, 3) := by decide +kernel
theorem dX6_lawGives_28 : decode cX6_lawGives 28 = .ok (.invokestatic 106, 3) := by decide +kernel
theorem dX6_lawGives_31 : decode cX6_lawGives 31 = .ok (.invokestatic 112, 3) := by decide +kernel
theorem dX6_lawGives_34 : decode cX6_lawGives 34 = .ok (.ireturn, 1) := by decide +kernel
theorem dX6_shareOf_0 : decode cX6_shareOf 0 = .ok (.aload_n 0, 1) := by decide +kernel
theorem dX6_shareOf_1 : decode cX6_shareOf 1 = .ok (.getfield 53, 3) := by decide +kernel
theorem dX6_shareOf_4 : decode cX6_shareOf 4 = .ok (.iload_n 1, 1) := by decide +kernel
theorem dX6_shareOf_5 : decode cX6_shareOf 5 = .ok (.invokevirtual 91, 3) := by decide +kernel
theorem dX6_shareOf_8 : decode cX6_shareOf 8 = .ok (.i2l, 1) := by decide +kernel
theorem dX6_shareOf_9 : decode cX6_shareOf 9 = .ok (.lstore_n 3, 1) := by decide +kernel
theorem dX6_shareOf_10 : decode cX6_shareOf 10 = .ok (.iconst 0, 1) := by decide +kernel
theorem dX6_shareOf_11 : decode cX6_shareOf 11 = .ok (.istore 5, 2) := by decide +kernel
theorem dX6_shareOf_13 : decode cX6_shareOf 13 = .ok (.iload 5, 2) := by decide +kernel
theorem dX6_shareOf_15 : decode cX6_shareOf 15 = .ok (.iload_n 2, 1) := by decide +kernel
theorem dX6_shareOf_16 : decode cX6_shareOf 16 = .ok (.if_icmp .gt 36, 3) := by decide +kernel
theorem dX6_shareOf_19 : decode cX6_shareOf 19 = .ok (.iload 5, 2) := by decide +kernel
theorem dX6_shareOf_21 : decode cX6_shareOf 21 = .ok (.bipush 8, 2) := by decide +kernel
theorem dX6_shareOf_23 : decode cX6_shareOf 23 = .ok (.if_icmp .ge 29, 3) := by decide +kernel
theorem dX6_shareOf_26 : decode cX6_shareOf 26 = .ok (.lload_n 3, 1) := by decide +kernel
theorem dX6_shareOf_27 : decode cX6_shareOf 27 = .ok (.aload_n 0, 1) := by decide +kernel
theorem dX6_shareOf_28 : decode cX6_shareOf 28 = .ok (.iload_n 1, 1) := by decide +kernel
theorem dX6_shareOf_29 : decode cX6_shareOf 29 = .ok (.aload_n 0, 1) := by decide +kernel
theorem dX6_shareOf_30 : decode cX6_shareOf 30 = .ok (.getfield 56, 3) := by decide +kernel
theorem dX6_shareOf_33 : decode cX6_shareOf 33 = .ok (.iload 5, 2) := by decide +kernel
theorem dX6_shareOf_35 : decode cX6_shareOf 35 = .ok (.invokevirtual 91, 3) := by decide +kernel
theorem dX6_shareOf_38 : decode cX6_shareOf 38 = .ok (.iload 5, 2) := by decide +kernel
theorem dX6_shareOf_40 : decode cX6_shareOf 40 = .ok (.invokevirtual 115, 3) := by decide +kernel
theorem dX6_shareOf_43 : decode cX6_shareOf 43 = .ok (.i2l, 1) := by decide +kernel
theorem dX6_shareOf_44 : decode cX6_shareOf 44 = .ok (.lmul, 1) := by decide +kernel
theorem dX6_shareOf_45 : decode cX6_shareOf 45 = .ok (.lstore_n 3, 1) := by decide +kernel
theorem dX6_shareOf_46 : decode cX6_shareOf 46 = .ok (.iinc 5 1, 3) := by decide +kernel
theorem dX6_shareOf_49 : decode cX6_shareOf 49 = .ok (.goto (-36), 3) := by decide +kernel
theorem dX6_shareOf_52 : decode cX6_shareOf 52 = .ok (.lload_n 3, 1) := by decide +kernel
theorem dX6_shareOf_53 : decode cX6_shareOf 53 = .ok (.lreturn, 1) := by decide +kernel
theorem dX6_sharesTogether_0 : decode cX6_sharesTogether 0 = .ok (.lconst 0, 1) := by decide +kernel
theorem dX6_sharesTogether_1 : decode cX6_sharesTogether 1 = .ok (.lstore_n 2, 1) := by decide +kernel
theorem dX6_sharesTogether_2 : decode cX6_sharesTogether 2 = .ok (.iconst 0, 1) := by decide +kernel
theorem dX6_sharesTogether_3 : decode cX6_sharesTogether 3 = .ok (.istore 4, 2) := by decide +kernel
theorem dX6_sharesTogether_5 : decode cX6_sharesTogether 5 = .ok (.iload 4, 2) := by decide +kernel
theorem dX6_sharesTogether_7 : decode cX6_sharesTogether 7 = .ok (.bipush 6, 2) := by decide +kernel
theorem dX6_sharesTogether_9 : decode cX6_sharesTogether 9 = .ok (.if_icmp .ge 19, 3) := by decide +kernel
theorem dX6_sharesTogether_12 : decode cX6_sharesTogether 12 = .ok (.lload_n 2, 1) := by decide +kernel
theorem dX6_sharesTogether_13 : decode cX6_sharesTogether 13 = .ok (.aload_n 0, 1) := by decide +kernel
theorem dX6_sharesTogether_14 : decode cX6_sharesTogether 14 = .ok (.iload 4, 2) := by decide +kernel
theorem dX6_sharesTogether_16 : decode cX6_sharesTogether 16 = .ok (.iload_n 1, 1) := by decide +kernel
theorem dX6_sharesTogether_17 : decode cX6_sharesTogether 17 = .ok (.invokevirtual 119, 3) := by decide +kernel
theorem dX6_sharesTogether_20 : decode cX6_sharesTogether 20 = .ok (.ladd, 1) := by decide +kernel
theorem dX6_sharesTogether_21 : decode cX6_sharesTogether 21 = .ok (.lstore_n 2, 1) := by decide +kernel
theorem dX6_sharesTogether_22 : decode cX6_sharesTogether 22 = .ok (.iinc 4 1, 3) := by decide +kernel
theorem dX6_sharesTogether_25 : decode cX6_sharesTogether 25 = .ok (.goto (-20), 3) := by decide +kernel
theorem dX6_sharesTogether_28 : decode cX6_sharesTogether 28 = .ok (.lload_n 2, 1) := by decide +kernel
theorem dX6_sharesTogether_29 : decode cX6_sharesTogether 29 = .ok (.lreturn, 1) := by decide +kernel
theorem dX6_draw_0 : decode cX6_draw 0 = .ok (.aload_n 0, 1) := by decide +kernel
theorem dX6_draw_1 : decode cX6_draw 1 = .ok (.aload_n 0, 1) := by decide +kernel
theorem dX6_draw_2 : decode cX6_draw 2 = .ok (.getfield 68, 3) := by decide +kernel
theorem dX6_draw_5 : decode cX6_draw 5 = .ok (.ldc 123, 2) := by decide +kernel
theorem dX6_draw_7 : decode cX6_draw 7 = .ok (.imul, 1) := by decide +kernel
theorem dX6_draw_8 : decode cX6_draw 8 = .ok (.sipush 12345, 3) := by decide +kernel
theorem dX6_draw_11 : decode cX6_draw 11 = .ok (.iadd, 1) := by decide +kernel
theorem dX6_draw_12 : decode cX6_draw 12 = .ok (.putfield 68, 3) := by decide +kernel
theorem dX6_draw_15 : decode cX6_draw 15 = .ok (.aload_n 0, 1) := by decide +kernel
theorem dX6_draw_16 : decode cX6_draw 16 = .ok (.getfield 68, 3) := by decide +kernel
theorem dX6_draw_19 : decode cX6_draw 19 = .ok (.bipush 8, 2) := by decide +kernel
theorem dX6_draw_21 : decode cX6_draw 21 = .ok (.iushr, 1) := by decide +kernel
theorem dX6_draw_22 : decode cX6_draw 22 = .ok (.ireturn, 1) := by decide +kernel
theorem dX6_drawTenth_0 : decode cX6_drawTenth 0 = .ok (.aload_n 0, 1) := by decide +kernel
theorem dX6_drawTenth_1 : decode cX6_drawTenth 1 = .ok (.invokevirtual 124, 3) := by decide +kernel
theorem dX6_drawTenth_4 : decode cX6_drawTenth 4 = .ok (.sipush 2400, 3) := by decide +kernel
theorem dX6_drawTenth_7 : decode cX6_drawTenth 7 = .ok (.irem, 1) := by decide +kernel
theorem dX6_drawTenth_8 : decode cX6_drawTenth 8 = .ok (.ireturn, 1) := by decide +kernel
theorem dX6_drawHeight_0 : decode cX6_drawHeight 0 = .ok (.aload_n 0, 1) := by decide +kernel
theorem dX6_drawHeight_1 : decode cX6_drawHeight 1 = .ok (.invokevirtual 124, 3) := by decide +kernel
theorem dX6_drawHeight_4 : decode cX6_drawHeight 4 = .ok (.sipush 999, 3) := by decide +kernel
theorem dX6_drawHeight_7 : decode cX6_drawHeight 7 = .ok (.irem, 1) := by decide +kernel
theorem dX6_drawHeight_8 : decode cX6_drawHeight 8 = .ok (.iconst 1, 1) := by decide +kernel
theorem dX6_drawHeight_9 : decode cX6_drawHeight 9 = .ok (.iadd, 1) := by decide +kernel
theorem dX6_drawHeight_10 : decode cX6_drawHeight 10 = .ok (.ireturn, 1) := by decide +kernel
theorem dX7_init_0 : decode cX7_init 0 = .ok (.aload_n 0, 1) := by decide +kernel
theorem dX7_init_1 : decode cX7_init 1 = .ok (.invokespecial 3, 3) := by decide +kernel
theorem dX7_init_4 : decode cX7_init 4 = .ok (.aload_n 0, 1) := by decide +kernel
theorem dX7_init_5 : decode cX7_init 5 = .ok (.new 9, 3) := by decide +kernel
theorem dX7_init_8 : decode cX7_init 8 = .ok (.dup, 1) := by decide +kernel
theorem dX7_init_9 : decode cX7_init 9 = .ok (.bipush 96, 2) := by decide +kernel
theorem dX7_init_11 : decode cX7_init 11 = .ok (.invokespecial 11, 3) := by decide +kernel
theorem dX7_init_14 : decode cX7_init 14 = .ok (.putfield 14, 3) := by decide +kernel
theorem dX7_init_17 : decode cX7_init 17 = .ok (.aload_n 0, 1) := by decide +kernel
theorem dX7_init_18 : decode cX7_init 18 = .ok (.new 9, 3) := by decide +kernel
theorem dX7_init_21 : decode cX7_init 21 = .ok (.dup, 1) := by decide +kernel
theorem dX7_init_22 : decode cX7_init 22 = .ok (.bipush 96, 2) := by decide +kernel
theorem dX7_init_24 : decode cX7_init 24 = .ok (.invokespecial 11, 3) := by decide +kernel
theorem dX7_init_27 : decode cX7_init 27 = .ok (.putfield 20, 3) := by decide +kernel
theorem dX7_init_30 : decode cX7_init 30 = .ok (.aload_n 0, 1) := by decide +kernel
theorem dX7_init_31 : decode cX7_init 31 = .ok (.new 9, 3) := by decide +kernel
theorem dX7_init_34 : decode cX7_init 34 = .ok (.dup, 1) := by decide +kernel
theorem dX7_init_35 : decode cX7_init 35 = .ok (.bipush 96, 2) := by decide +kernel
theorem dX7_init_37 : decode cX7_init 37 = .ok (.invokespecial 11, 3) := by decide +kernel
theorem dX7_init_40 : decode cX7_init 40 = .ok (.putfield 23, 3) := by decide +kernel
theorem dX7_init_43 : decode cX7_init 43 = .ok (.aload_n 0, 1) := by decide +kernel
theorem dX7_init_44 : decode cX7_init 44 = .ok (.new 9, 3) := by decide +kernel
theorem dX7_init_47 : decode cX7_init 47 = .ok (.dup, 1) := by decide +kernel
theorem dX7_init_48 : decode cX7_init 48 = .ok (.bipush 96, 2) := by decide +kernel
theorem dX7_init_50 : decode cX7_init 50 = .ok (.invokespecial 11, 3) := by decide +kernel
theorem dX7_init_53 : decode cX7_init 53 = .ok (.putfield 26, 3) := by decide +kernel
theorem dX7_init_56 : decode cX7_init 56 = .ok (.aload_n 0, 1) := by decide +kernel
theorem dX7_init_57 : decode cX7_init 57 = .ok (.new 9, 3) := by decide +kernel
theorem dX7_init_60 : decode cX7_init 60 = .ok (.dup, 1) := by decide +kernel
theorem dX7_init_61 : decode cX7_init 61 = .ok (.bipush 96, 2) := by decide +kernel
theorem dX7_init_63 : decode cX7_init 63 = .ok (.invokespecial 11, 3) := by decide +kernel
theorem dX7_init_66 : decode cX7_init 66 = .ok (.putfield 29, 3) := by decide +kernel
theorem dX7_init_69 : decode cX7_init 69 = .ok (.aload_n 0, 1) := by decide +kernel
theorem dX7_init_70 : decode cX7_init 70 = .ok (.new 9, 3) := by decide +kernel
theorem dX7_init_73 : decode cX7_init 73 = .ok (.dup, 1) := by decide +kernel
theorem dX7_init_74 : decode cX7_init 74 = .ok (.bipush 96, 2) := by decide +kernel
theorem dX7_init_76 : decode cX7_init 76 = .ok (.invokespecial 11, 3) := by decide +kernel
theorem dX7_init_79 : decode cX7_init 79 = .ok (.putfield 32, 3) := by decide +kernel
theorem dX7_init_82 : decode cX7_init 82 = .ok (.aload_n 0, 1) := by decide +kernel
theorem dX7_init_83 : decode cX7_init 83 = .ok (.new 9, 3) := by decide +kernel
theorem dX7_init_86 : decode cX7_init 86 = .ok (.dup, 1) := by decide +kernel
theorem dX7_init_87 : decode cX7_init 87 = .ok (.bipush 12, 2) := by decide +kernel
theorem dX7_init_89 : decode cX7_init 89 = .ok (.invokespecial 11, 3) := by decide +kernel
theorem dX7_init_92 : decode cX7_init 92 = .ok (.putfield 35, 3) := by decide +kernel
theorem dX7_init_95 : decode cX7_init 95 = .ok (.return_, 1) := by decide +kernel
theorem dX7_lay_0 : decode cX7_lay 0 = .ok (.aload_n 0, 1) := by decide +kernel
theorem dX7_lay_1 : decode cX7_lay 1 = .ok (.getfield 14, 3) := by decide +kernel
theorem dX7_lay_4 : decode cX7_lay 4 = .ok (.invokevirtual 38, 3) := by decide +kernel
theorem dX7_lay_7 : decode cX7_lay 7 = .ok (.aload_n 0, 1) := by decide +kernel
theorem dX7_lay_8 : decode cX7_lay 8 = .ok (.getfield 20, 3) := by decide +kernel
theorem dX7_lay_11 : decode cX7_lay 11 = .ok (.invokevirtual 38, 3) := by decide +kernel
theorem dX7_lay_14 : decode cX7_lay 14 = .ok (.aload_n 0, 1) := by decide +kernel
theorem dX7_lay_15 : decode cX7_lay 15 = .ok (.getfield 23, 3) := by decide +kernel
theorem dX7_lay_18 : decode cX7_lay 18 = .ok (.invokevirtual 38, 3) := by decide +kernel
theorem dX7_lay_21 : decode cX7_lay 21 = .ok (.iconst 0, 1) := by decide +kernel
theorem dX7_lay_22 : decode cX7_lay 22 = .ok (.istore_n 3, 1) := by decide +kernel
theorem dX7_lay_23 : decode cX7_lay 23 = .ok (.iload_n 3, 1) := by decide +kernel
theorem dX7_lay_24 : decode cX7_lay 24 = .ok (.aload_n 1, 1) := by decide +kernel
theorem dX7_lay_25 : decode cX7_lay 25 = .ok (.invokevirtual 41, 3) := by decide +kernel
theorem dX7_lay_28 : decode cX7_lay 28 = .ok (.if_icmp .ge 39, 3) := by decide +kernel
theorem dX7_lay_31 : decode cX7_lay 31 = .ok (.aload_n 1, 1) := by decide +kernel
theorem dX7_lay_32 : decode cX7_lay 32 = .ok (.getfield 46, 3) := by decide +kernel
theorem dX7_lay_35 : decode cX7_lay 35 = .ok (.iload_n 3, 1) := by decide +kernel
theorem dX7_lay_36 : decode cX7_lay 36 = .ok (.invokevirtual 49, 3) := by decide +kernel
theorem dX7_lay_39 : decode cX7_lay 39 = .ok (.iload_n 2, 1) := by decide +kernel
theorem dX7_lay_40 : decode cX7_lay 40 = .ok (.if_icmp .ne 21, 3) := by decide +kernel
theorem dX7_lay_43 : decode cX7_lay 43 = .ok (.aload_n 0, 1) := by decide +kernel
theorem dX7_lay_44 : decode cX7_lay 44 = .ok (.iload_n 3, 1) := by decide +kernel
theorem dX7_lay_45 : decode cX7_lay 45 = .ok (.aload_n 1, 1) := by decide +kernel
theorem dX7_lay_46 : decode cX7_lay 46 = .ok (.iload_n 3, 1) := by decide +kernel
theorem dX7_lay_47 : decode cX7_lay 47 = .ok (.invokevirtual 53, 3) := by decide +kernel
theorem dX7_lay_50 : decode cX7_lay 50 = .ok (.aload_n 1, 1) := by decide +kernel
theorem dX7_lay_51 : decode cX7_lay 51 = .ok (.getfield 56, 3) := by decide +kernel
theorem dX7_lay_54 : decode cX7_lay 54 = .ok (.iload_n 3, 1) := by decide +kernel
theorem dX7_lay_55 : decode cX7_lay 55 = .ok (.invokevirtual 49, 3) := by decide +kernel
theorem dX7_lay_58 : decode cX7_lay 58 = .ok (.invokevirtual 59, 3) := by decide +kernel
theorem dX7_lay_61 : decode cX7_lay 61 = .ok (.iinc 3 1, 3) := by decide +kernel
theorem dX7_lay_64 : decode cX7_lay 64 = .ok (.goto (-41), 3) := by decide +kernel
theorem dX7_lay_67 : decode cX7_lay 67 = .ok (.return_, 1) := by decide +kernel
theorem dX7_layRing_0 : decode cX7_layRing 0 = .ok (.aload_n 0, 1) := by decide +kernel
theorem dX7_layRing_1 : decode cX7_layRing 1 = .ok (.getfield 20, 3) := by decide +kernel
theorem dX7_layRing_4 : decode cX7_layRing 4 = .ok (.invokevirtual 63, 3) := by decide +kernel
theorem dX7_layRing_7 : decode cX7_layRing 7 = .ok (.istore 4, 2) := by decide +kernel
theorem dX7_layRing_9 : decode cX7_layRing 9 = .ok (.iload 4, 2) := by decide +kernel
theorem dX7_layRing_11 : decode cX7_layRing 11 = .ok (.ifCond .le 24, 3) := by decide +kernel
theorem dX7_layRing_14 : decode cX7_layRing 14 = .ok (.aload_n 0, 1) := by decide +kernel
theorem dX7_layRing_15 : decode cX7_layRing 15 = .ok (.getfield 20, 3) := by decide +kernel
theorem dX7_layRing_18 : decode cX7_layRing 18 = .ok (.iload 4, 2) := by decide +kernel
theorem dX7_layRing_20 : decode cX7_layRing 20 = .ok (.iconst 1, 1) := by decide +kernel
theorem dX7_layRing_21 : decode cX7_layRing 21 = .ok (.isub, 1) := by decide +kernel
theorem dX7_layRing_22 : decode cX7_layRing 22 = .ok (.invokevirtual 49, 3) := by decide +kernel
theorem dX7_layRing_25 : decode cX7_layRing 25 = .ok (.iload_n 2, 1) := by decide +kernel
theorem dX7_layRing_26 : decode cX7_layRing 26 = .ok (.if_icmp .le 9, 3) := by decide +kernel
theorem dX7_layRing_29 : decode cX7_layRing 29 = .ok (.iinc 4 (-1), 3) := by decide +kernel
theorem dX7_layRing_32 : decode cX7_layRing 32 = .ok (.goto (-23), 3) := by decide +kernel
theorem dX7_layRing_35 : decode cX7_layRing 35 = .ok (.aload_n 0, 1) := by decide +kernel
theorem dX7_layRing_36 : decode cX7_layRing 36 = .ok (.getfield 14, 3) := by decide +kernel
theorem dX7_layRing_39 : decode cX7_layRing 39 = .ok (.iload 4, 2) := by decide +kernel
theorem dX7_layRing_41 : decode cX7_layRing 41 = .ok (.iload_n 1, 1) := by decide +kernel
theorem dX7_layRing_42 : decode cX7_layRing 42 = .ok (.invokevirtual 66, 3) := by decide +kernel
theorem dX7_layRing_45 : decode cX7_layRing 45 = .ok (.aload_n 0, 1) := by decide +kernel
theorem dX7_layRing_46 : decode cX7_layRing 46 = .ok (.getfield 20, 3) := by decide +kernel
theorem dX7_layRing_49 : decode cX7_layRing 49 = .ok (.iload 4, 2) := by decide +kernel
theorem dX7_layRing_51 : decode cX7_layRing 51 = .ok (.iload_n 2, 1) := by decide +kernel
theorem dX7_layRing_52 : decode cX7_layRing 52 = .ok (.invokevirtual 66, 3) := by decide +kernel
theorem dX7_layRing_55 : decode cX7_layRing 55 = .ok (.aload_n 0, 1) := by decide +kernel
theorem dX7_layRing_56 : decode cX7_layRing 56 = .ok (.getfield 23, 3) := by decide +kernel
theorem dX7_layRing_59 : decode cX7_layRing 59 = .ok (.iload 4, 2) := by decide +kernel
theorem dX7_layRing_61 : decode cX7_layRing 61 = .ok (.iload_n 3, 1) := by decide +kernel
theorem dX7_layRing_62 : decode cX7_layRing 62 = .ok (.invokevirtual 66, 3) := by decide +kernel
theorem dX7_layRing_65 : decode cX7_layRing 65 = .ok (.return_, 1) := by decide +kernel
theorem dX7_hear_0 : decode cX7_hear 0 = .ok (.aload_n 0, 1) := by decide +kernel
theorem dX7_hear_1 : decode cX7_hear 1 = .ok (.aload_n 1, 1) := by decide +kernel
theorem dX7_hear_2 : decode cX7_hear 2 = .ok (.iload_n 2, 1) := by decide +kernel
theorem dX7_hear_3 : decode cX7_hear 3 = .ok (.invokevirtual 70, 3) := by decide +kernel
theorem dX7_hear_6 : decode cX7_hear 6 = .ok (.aload_n 0, 1) := by decide +kernel
theorem dX7_hear_7 : decode cX7_hear 7 = .ok (.getfield 26, 3) := by decide +kernel
theorem dX7_hear_10 : decode cX7_hear 10 = .ok (.invokevirtual 38, 3) := by decide +kernel
theorem dX7_hear_13 : decode cX7_hear 13 = .ok (.aload_n 1, 1) := by decide +kernel
theorem dX7_hear_14 : decode cX7_hear 14 = .ok (.aload_n 1, 1) := by decide +kernel
theorem dX7_hear_15 : decode cX7_hear 15 = .ok (.getfield 74, 3) := by decide +kernel
theorem dX7_hear_18 : decode cX7_hear 18 = .ok (.iload_n 2, 1) := by decide +kernel
theorem dX7_hear_19 : decode cX7_hear 19 = .ok (.invokevirtual 49, 3) := by decide +kernel
theorem dX7_hear_22 : decode cX7_hear 22 = .ok (.invokevirtual 77, 3) := by decide +kernel
theorem dX7_hear_25 : decode cX7_hear 25 = .ok (.astore_n 3, 1) := by decide +kernel
theorem dX7_hear_26 : decode cX7_hear 26 = .ok (.iconst 0, 1) := by decide +kernel
theorem dX7_hear_27 : decode cX7_hear 27 = .ok (.istore 4, 2) := by decide +kernel
theorem dX7_hear_29 : decode cX7_hear 29 = .ok (.iload 4, 2) := by decide +kernel
theorem dX7_hear_31 : decode cX7_hear 31 = .ok (.aload_n 0, 1) := by decide +kernel
theorem dX7_hear_32 : decode cX7_hear 32 = .ok (.getfield 14, 3) := by decide +kernel
theorem dX7_hear_35 : decode cX7_hear 35 = .ok (.invokevirtual 63, 3) := by decide +kernel
theorem dX7_hear_38 : decode cX7_hear 38 = .ok (.if_icmp .ge 60, 3) := by decide +kernel
theorem dX7_hear_41 : decode cX7_hear 41 = .ok (.aload_n 0, 1) := by decide +kernel
theorem dX7_hear_42 : decode cX7_hear 42 = .ok (.getfield 26, 3) := by decide +kernel
theorem dX7_hear_45 : decode cX7_hear 45 = .ok (.aload_n 3, 1) := by decide +kernel
theorem dX7_hear_46 : decode cX7_hear 46 = .ok (.ifnonnull 7, 3) := by decide +kernel
theorem dX7_hear_49 : decode cX7_hear 49 = .ok (.iconst 1, 1) := by decide +kernel
theorem dX7_hear_50 : decode cX7_hear 50 = .ok (.goto 38, 3) := by decide +kernel
theorem dX7_hear_53 : decode cX7_hear 53 = .ok (.aload_n 3, 1) := by decide +kernel
theorem dX7_hear_54 : decode cX7_hear 54 = .ok (.aload_n 0, 1) := by decide +kernel
theorem dX7_hear_55 : decode cX7_hear 55 = .ok (.getfield 23, 3) := by decide +kernel
theorem dX7_hear_58 : decode cX7_hear 58 = .ok (.iload 4, 2) := by decide +kernel
theorem dX7_hear_60 : decode cX7_hear 60 = .ok (.invokevirtual 49, 3) := by decide +kernel
theorem dX7_hear_63 : decode cX7_hear 63 = .ok (.aload_n 0, 1) := by decide +kernel
theorem dX7_hear_64 : decode cX7_hear 64 = .ok (.iload 4, 2) := by decide +kernel
theorem dX7_hear_66 : decode cX7_hear 66 = .ok (.invokevirtual 81, 3) := by decide +kernel
theorem dX7_hear_69 : decode cX7_hear 69 = .ok (.aload_n 0, 1) := by decide +kernel
theorem dX7_hear_70 : decode cX7_hear 70 = .ok (.getfield 20, 3) := by decide +kernel
theorem dX7_hear_73 : decode cX7_hear 73 = .ok (.iload 4, 2) := by decide +kernel
theorem dX7_hear_75 : decode cX7_hear 75 = .ok (.invokevirtual 49, 3) := by decide +kernel
theorem dX7_hear_78 : decode cX7_hear 78 = .ok (.sipush 240, 3) := by decide +kernel
theorem dX7_hear_81 : decode cX7_hear 81 = .ok (.invokestatic 84, 3) := by decide +kernel
theorem dX7_hear_84 : decode cX7_hear 84 = .ok (.iload_n 2, 1) := by decide +kernel
theorem dX7_hear_85 : decode cX7_hear 85 = .ok (.invokevirtual 90, 3) := by decide +kernel
theorem dX7_hear_88 : decode cX7_hear 88 = .ok (.invokevirtual 96, 3) := by decide +kernel
theorem dX7_hear_91 : decode cX7_hear 91 = .ok (.pop, 1) := by decide +kernel
theorem dX7_hear_92 : decode cX7_hear 92 = .ok (.iinc 4 1, 3) := by decide +kernel
theorem dX7_hear_95 : decode cX7_hear 95 = .ok (.goto (-66), 3) := by decide +kernel
theorem dX7_hear_98 : decode cX7_hear 98 = .ok (.return_, 1) := by decide +kernel
theorem dX7_placeOf_0 : decode cX7_placeOf 0 = .ok (.iconst 0, 1) := by decide +kernel
theorem dX7_placeOf_1 : decode cX7_placeOf 1 = .ok (.istore_n 2, 1) := by decide +kernel
theorem dX7_placeOf_2 : decode cX7_placeOf 2 = .ok (.iload_n 2, 1) := by decide +kernel
theorem dX7_placeOf_3 : decode cX7_placeOf 3 = .ok (.aload_n 0, 1) := by decide +kernel
theorem dX7_placeOf_4 : decode cX7_placeOf 4 = .ok (.getfield 14, 3) := by decide +kernel
theorem dX7_placeOf_7 : decode cX7_placeOf 7 = .ok (.invokevirtual 63, 3) := by decide +kernel
theorem dX7_placeOf_10 : decode cX7_placeOf 10 = .ok (.if_icmp .ge 21, 3) := by decide +kernel
theorem dX7_placeOf_13 : decode cX7_placeOf 13 = .ok (.aload_n 0, 1) := by decide +kernel
theorem dX7_placeOf_14 : decode cX7_placeOf 14 = .ok (.getfield 14, 3) := by decide +kernel
theorem dX7_placeOf_17 : decode cX7_placeOf 17 = .ok (.iload_n 2, 1) := by decide +kernel
theorem dX7_placeOf_18 : decode cX7_placeOf 18 = .ok (.invokevirtual 49, 3) := by decide +kernel
theorem dX7_placeOf_21 : decode cX7_placeOf 21 = .ok (.iload_n 1, 1) := by decide +kernel
theorem dX7_placeOf_22 : decode cX7_placeOf 22 = .ok (.if_icmp .eq 9, 3) := by decide +kernel
theorem dX7_placeOf_25 : decode cX7_placeOf 25 = .ok (.iinc 2 1, 3) := by decide +kernel
theorem dX7_placeOf_28 : decode cX7_placeOf 28 = .ok (.goto (-26), 3) := by decide +kernel
theorem dX7_placeOf_31 : decode cX7_placeOf 31 = .ok (.iload_n 2, 1) := by decide +kernel
theorem dX7_placeOf_32 : decode cX7_placeOf 32 = .ok (.ireturn, 1) := by decide +kernel
theorem dX7_gapAt_0 : decode cX7_gapAt 0 = .ok (.iload_n 1, 1) := by decide +kernel
theorem dX7_gapAt_1 : decode cX7_gapAt 1 = .ok (.ifCond .gt 9, 3) := by decide +kernel
theorem dX7_gapAt_4 : decode cX7_gapAt 4 = .ok (.sipush 999, 3) := by decide +kernel
theorem dX7_gapAt_7 : decode cX7_gapAt 7 = .ok (.goto 28, 3) := by decide +kernel
theorem dX7_gapAt_10 : decode cX7_gapAt 10 = .ok (.sipush 999, 3) := by decide +kernel
theorem dX7_gapAt_13 : decode cX7_gapAt 13 = .ok (.aload_n 0, 1) := by decide +kernel
theorem dX7_gapAt_14 : decode cX7_gapAt 14 = .ok (.getfield 20, 3) := by decide +kernel
theorem dX7_gapAt_17 : decode cX7_gapAt 17 = .ok (.iload_n 1, 1) := by decide +kernel
theorem dX7_gapAt_18 : decode cX7_gapAt 18 = .ok (.invokevirtual 49, 3) := by decide +kernel
theorem dX7_gapAt_21 : decode cX7_gapAt 21 = .ok (.aload_n 0, 1) := by decide +kernel
theorem dX7_gapAt_22 : decode cX7_gapAt 22 = .ok (.getfield 20, 3) := by decide +kernel
theorem dX7_gapAt_25 : decode cX7_gapAt 25 = .ok (.iload_n 1, 1) := by decide +kernel
theorem dX7_gapAt_26 : decode cX7_gapAt 26 = .ok (.iconst 1, 1) := by decide +kernel
theorem dX7_gapAt_27 : decode cX7_gapAt 27 = .ok (.isub, 1) := by decide +kernel
theorem dX7_gapAt_28 : decode cX7_gapAt 28 = .ok (.invokevirtual 49, 3) := by decide +kernel
theorem dX7_gapAt_31 : decode cX7_gapAt 31 = .ok (.isub, 1) := by decide +kernel
theorem dX7_gapAt_32 : decode cX7_gapAt 32 = .ok (.invokestatic 100, 3) := by decide +kernel
theorem dX7_gapAt_35 : decode cX7_gapAt 35 = .ok (.ireturn, 1) := by decide +kernel
theorem dX7_isCounted_0 : decode cX7_isCounted 0 = .ok (.aload_n 0, 1) := by decide +kernel
theorem dX7_isCounted_1 : decode cX7_isCounted 1 = .ok (.getfield 23, 3) := by decide +kernel
theorem dX7_isCounted_4 : decode cX7_isCounted 4 = .ok (.iload_n 1, 1) := by decide +kernel
theorem dX7_isCounted_5 : decode cX7_isCounted 5 = .ok (.invokevirtual 49, 3) := by decide +kernel
theorem dX7_isCounted_8 : decode cX7_isCounted 8 = .ok (.iload_n 2, 1) := by decide +kernel
theorem dX7_isCounted_9 : decode cX7_isCounted 9 = .ok (.if_icmp .le 18, 3) := by decide +kernel
theorem dX7_isCounted_12 : decode cX7_isCounted 12 = .ok (.aload_n 0, 1) := by decide +kernel
theorem dX7_isCounted_13 : decode cX7_isCounted 13 = .ok (.getfield 26, 3) := by decide +kernel
theorem dX7_isCounted_16 : decode cX7_isCounted 16 = .ok (.iload_n 1, 1) := by decide +kernel
theorem dX7_isCounted_17 : decode cX7_isCounted 17 = .ok (.invokevirtual 49, 3) := by decide +kernel
theorem dX7_isCounted_20 : decode cX7_isCounted 20 = .ok (.ifCond .eq 7, 3) := by decide +kernel
theorem dX7_isCounted_23 : decode cX7_isCounted 23 = .ok (.iconst 1, 1) := by decide +kernel
theorem dX7_isCounted_24 : decode cX7_isCounted 24 = .ok (.goto 4, 3) := by decide +kernel
theorem dX7_isCounted_27 : decode cX7_isCounted 27 = .ok (.iconst 0, 1) := by decide +kernel
theorem dX7_isCounted_28 : decode cX7_isCounted 28 = .ok (.ireturn, 1) := by decide +kernel
theorem dX7_keepAbove_0 : decode cX7_keepAbove 0 = .ok (.aload_n 0, 1) := by decide +kernel
theorem dX7_keepAbove_1 : decode cX7_keepAbove 1 = .ok (.getfield 29, 3) := by decide +kernel
theorem dX7_keepAbove_4 : decode cX7_keepAbove 4 = .ok (.invokevirtual 38, 3) := by decide +kernel
theorem dX7_keepAbove_7 : decode cX7_keepAbove 7 = .ok (.aload_n 0, 1) := by decide +kernel
theorem dX7_keepAbove_8 : decode cX7_keepAbove 8 = .ok (.getfield 32, 3) := by decide +kernel
theorem dX7_keepAbove_11 : decode cX7_keepAbove 11 = .ok (.invokevirtual 38, 3) := by decide +kernel
theorem dX7_keepAbove_14 : decode cX7_keepAbove 14 = .ok (.iconst 0, 1) := by decide +kernel
theorem dX7_keepAbove_15 : decode cX7_keepAbove 15 = .ok (.istore_n 2, 1) := by decide +kernel
theorem dX7_keepAbove_16 : decode cX7_keepAbove 16 = .ok (.iload_n 2, 1) := by decide +kernel
theorem dX7_keepAbove_17 : decode cX7_keepAbove 17 = .ok (.aload_n 0, 1) := by decide +kernel
theorem dX7_keepAbove_18 : decode cX7_keepAbove 18 = .ok (.getfield 14, 3) := by decide +kernel
theorem dX7_keepAbove_21 : decode cX7_keepAbove 21 = .ok (.invokevirtual 63, 3) := by decide +kernel
theorem dX7_keepAbove_24 : decode cX7_keepAbove 24 = .ok (.if_icmp .ge 50, 3) := by decide +kernel
theorem dX7_keepAbove_27 : decode cX7_keepAbove 27 = .ok (.aload_n 0, 1) := by decide +kernel
theorem dX7_keepAbove_28 : decode cX7_keepAbove 28 = .ok (.iload_n 2, 1) := by decide +kernel
theorem dX7_keepAbove_29 : decode cX7_keepAbove 29 = .ok (.iload_n 1, 1) := by decide +kernel
theorem dX7_keepAbove_30 : decode cX7_keepAbove 30 = .ok (.invokevirtual 103, 3) := by decide +kernel
theorem dX7_keepAbove_33 : decode cX7_keepAbove 33 = .ok (.ifCond .eq 35, 3) := by decide +kernel
theorem dX7_keepAbove_36 : decode cX7_keepAbove 36 = .ok (.aload_n 0, 1) := by decide +kernel
theorem dX7_keepAbove_37 : decode cX7_keepAbove 37 = .ok (.getfield 29, 3) := by decide +kernel
theorem dX7_keepAbove_40 : decode cX7_keepAbove 40 = .ok (.aload_n 0, 1) := by decide +kernel
theorem dX7_keepAbove_41 : decode cX7_keepAbove 41 = .ok (.getfield 14, 3) := by decide +kernel
theorem dX7_keepAbove_44 : decode cX7_keepAbove 44 = .ok (.iload_n 2, 1) := by decide +kernel
theorem dX7_keepAbove_45 : decode cX7_keepAbove 45 = .ok (.invokevirtual 49, 3) := by decide +kernel
theorem dX7_keepAbove_48 : decode cX7_keepAbove 48 = .ok (.invokevirtual 96, 3) := by decide +kernel
theorem dX7_keepAbove_51 : decode cX7_keepAbove 51 = .ok (.pop, 1) := by decide +kernel
theorem dX7_keepAbove_52 : decode cX7_keepAbove 52 = .ok (.aload_n 0, 1) := by decide +kernel
theorem dX7_keepAbove_53 : decode cX7_keepAbove 53 = .ok (.getfield 32, 3) := by decide +kernel
theorem dX7_keepAbove_56 : decode cX7_keepAbove 56 = .ok (.aload_n 0, 1) := by decide +kernel
theorem dX7_keepAbove_57 : decode cX7_keepAbove 57 = .ok (.getfield 20, 3) := by decide +kernel
theorem dX7_keepAbove_60 : decode cX7_keepAbove 60 = .ok (.iload_n 2, 1) := by decide +kernel
theorem dX7_keepAbove_61 : decode cX7_keepAbove 61 = .ok (.invokevirtual 49, 3) := by decide +kernel
theorem dX7_keepAbove_64 : decode cX7_keepAbove 64 = .ok (.invokevirtual 96, 3) := by decide +kernel
theorem dX7_keepAbove_67 : decode cX7_keepAbove 67 = .ok (.pop, 1) := by decide +kernel
theorem dX7_keepAbove_68 : decode cX7_keepAbove 68 = .ok (.iinc 2 1, 3) := by decide +kernel
theorem dX7_keepAbove_71 : decode cX7_keepAbove 71 = .ok (.goto (-55), 3) := by decide +kernel
theorem dX7_keepAbove_74 : decode cX7_keepAbove 74 = .ok (.return_, 1) := by decide +kernel
theorem dX7_spreadBy_0 : decode cX7_spreadBy 0 = .ok (.iload_n 1, 1) := by decide +kernel
theorem dX7_spreadBy_1 : decode cX7_spreadBy 1 = .ok (.ifCond .gt 5, 3) := by decide +kernel
theorem dX7_spreadBy_4 : decode cX7_spreadBy 4 = .ok (.iconst 0, 1) := by decide +kernel
theorem dX7_spreadBy_5 : decode cX7_spreadBy 5 = .ok (.ireturn, 1) := by decide +kernel
theorem dX7_spreadBy_6 : decode cX7_spreadBy 6 = .ok (.aload_n 0, 1) := by decide +kernel
theorem dX7_spreadBy_7 : decode cX7_spreadBy 7 = .ok (.getfield 35, 3) := by decide +kernel
theorem dX7_spreadBy_10 : decode cX7_spreadBy 10 = .ok (.bipush 12, 2) := by decide +kernel
theorem dX7_spreadBy_12 : decode cX7_spreadBy 12 = .ok (.iconst 0, 1) := by decide +kernel
theorem dX7_spreadBy_13 : decode cX7_spreadBy 13 = .ok (.invokevirtual 107, 3) := by decide +kernel
theorem dX7_spreadBy_16 : decode cX7_spreadBy 16 = .ok (.iconst 0, 1) := by decide +kernel
theorem dX7_spreadBy_17 : decode cX7_spreadBy 17 = .ok (.istore_n 2, 1) := by decide +kernel
theorem dX7_spreadBy_18 : decode cX7_spreadBy 18 = .ok (.iload_n 2, 1) := by decide +kernel
theorem dX7_spreadBy_19 : decode cX7_spreadBy 19 = .ok (.aload_n 0, 1) := by decide +kernel
theorem dX7_spreadBy_20 : decode cX7_spreadBy 20 = .ok (.getfield 32, 3) := by decide +kernel
theorem dX7_spreadBy_23 : decode cX7_spreadBy 23 = .ok (.invokevirtual 63, 3) := by decide +kernel
theorem dX7_spreadBy_26 : decode cX7_spreadBy 26 = .ok (.if_icmp .ge 34, 3) := by decide +kernel
theorem dX7_spreadBy_29 : decode cX7_spreadBy 29 = .ok (.aload_n 0, 1) := by decide +kernel
theorem dX7_spreadBy_30 : decode cX7_spreadBy 30 = .ok (.getfield 35, 3) := by decide +kernel
theorem dX7_spreadBy_33 : decode cX7_spreadBy 33 = .ok (.bipush 12, 2) := by decide +kernel
theorem dX7_spreadBy_35 : decode cX7_spreadBy 35 = .ok (.aload_n 0, 1) := by decide +kernel
theorem dX7_spreadBy_36 : decode cX7_spreadBy 36 = .ok (.getfield 32, 3) := by decide +kernel
theorem dX7_spreadBy_39 : decode cX7_spreadBy 39 = .ok (.iload_n 2, 1) := by decide +kernel
theorem dX7_spreadBy_40 : decode cX7_spreadBy 40 = .ok (.invokevirtual 49, 3) := by decide +kernel
theorem dX7_spreadBy_43 : decode cX7_spreadBy 43 = .ok (.iload_n 1, 1) := by decide +kernel
theorem dX7_spreadBy_44 : decode cX7_spreadBy 44 = .ok (.invokestatic 84, 3) := by decide +kernel
theorem dX7_spreadBy_47 : decode cX7_spreadBy 47 = .ok (.imul, 1) := by decide +kernel
theorem dX7_spreadBy_48 : decode cX7_spreadBy 48 = .ok (.iload_n 1, 1) := by decide +kernel
theorem dX7_spreadBy_49 : decode cX7_spreadBy 49 = .ok (.idiv, 1) := by decide +kernel
theorem dX7_spreadBy_50 : decode cX7_spreadBy 50 = .ok (.iconst 1, 1) := by decide +kernel
theorem dX7_spreadBy_51 : decode cX7_spreadBy 51 = .ok (.invokevirtual 110, 3) := by decide +kernel
theorem dX7_spreadBy_54 : decode cX7_spreadBy 54 = .ok (.iinc 2 1, 3) := by decide +kernel
theorem dX7_spreadBy_57 : decode cX7_spreadBy 57 = .ok (.goto (-39), 3) := by decide +kernel
theorem dX7_spreadBy_60 : decode cX7_spreadBy 60 = .ok (.iconst 0, 1) := by decide +kernel
theorem dX7_spreadBy_61 : decode cX7_spreadBy 61 = .ok (.istore_n 2, 1) := by decide +kernel
theorem dX7_spreadBy_62 : decode cX7_spreadBy 62 = .ok (.iconst 0, 1) := by decide +kernel
theorem dX7_spreadBy_63 : decode cX7_spreadBy 63 = .ok (.istore_n 3, 1) := by decide +kernel
theorem dX7_spreadBy_64 : decode cX7_spreadBy 64 = .ok (.iload_n 3, 1) := by decide +kernel
theorem dX7_spreadBy_65 : decode cX7_spreadBy 65 = .ok (.bipush 12, 2) := by decide +kernel
theorem dX7_spreadBy_67 : decode cX7_spreadBy 67 = .ok (.if_icmp .ge 29, 3) := by decide +kernel
theorem dX7_spreadBy_70 : decode cX7_spreadBy 70 = .ok (.iload_n 2, 1) := by decide +kernel
theorem dX7_spreadBy_71 : decode cX7_spreadBy 71 = .ok (.aload_n 0, 1) := by decide +kernel
theorem dX7_spreadBy_72 : decode cX7_spreadBy 72 = .ok (.getfield 35, 3) := by decide +kernel
theorem dX7_spreadBy_75 : decode cX7_spreadBy 75 = .ok (.iload_n 3, 1) := by decide +kernel
theorem dX7_spreadBy_76 : decode cX7_spreadBy 76 = .ok (.invokevirtual 49, 3) := by decide +kernel
theorem dX7_spreadBy_79 : decode cX7_spreadBy 79 = .ok (.aload_n 0, 1) := by decide +kernel
theorem dX7_spreadBy_80 : decode cX7_spreadBy 80 = .ok (.getfield 35, 3) := by decide +kernel
theorem dX7_spreadBy_83 : decode cX7_spreadBy 83 = .ok (.iload_n 3, 1) := by decide +kernel
theorem dX7_spreadBy_84 : decode cX7_spreadBy 84 = .ok (.invokevirtual 49, 3) := by decide +kernel
theorem dX7_spreadBy_87 : decode cX7_spreadBy 87 = .ok (.imul, 1) := by decide +kernel
theorem dX7_spreadBy_88 : decode cX7_spreadBy 88 = .ok (.iadd, 1) := by decide +kernel
theorem dX7_spreadBy_89 : decode cX7_spreadBy 89 = .ok (.istore_n 2, 1) := by decide +kernel
theorem dX7_spreadBy_90 : decode cX7_spreadBy 90 = .ok (.iinc 3 1, 3) := by decide +kernel
theorem dX7_spreadBy_93 : decode cX7_spreadBy 93 = .ok (.goto (-29), 3) := by decide +kernel
theorem dX7_spreadBy_96 : decode cX7_spreadBy 96 = .ok (.iload_n 2, 1) := by decide +kernel
theorem dX7_spreadBy_97 : decode cX7_spreadBy 97 = .ok (.ireturn, 1) := by decide +kernel
theorem dX8_init_0 : decode cX8_init 0 = .ok (.aload_n 0, 1) := by decide +kernel
theorem dX8_init_1 : decode cX8_init 1 = .ok (.invokespecial 1, 3) := by decide +kernel
theorem dX8_init_4 : decode cX8_init 4 = .ok (.aload_n 0, 1) := by decide +kernel
theorem dX8_init_5 : decode cX8_init 5 = .ok (.new 7, 3) := by decide +kernel
theorem dX8_init_8 : decode cX8_init 8 = .ok (.dup, 1) := by decide +kernel
theorem dX8_init_9 : decode cX8_init 9 = .ok (.aload_n 1, 1) := by decide +kernel
theorem dX8_init_10 : decode cX8_init 10 = .ok (.invokevirtual 9, 3) := by decide +kernel
theorem dX8_init_13 : decode cX8_init 13 = .ok (.invokespecial 13, 3) := by decide +kernel
theorem dX8_init_16 : decode cX8_init 16 = .ok (.putfield 16, 3) := by decide +kernel
theorem dX8_init_19 : decode cX8_init 19 = .ok (.aload_n 0, 1) := by decide +kernel
theorem dX8_init_20 : decode cX8_init 20 = .ok (.getfield 16, 3) := by decide +kernel
theorem dX8_init_23 : decode cX8_init 23 = .ok (.aload_n 1, 1) := by decide +kernel
theorem dX8_init_24 : decode cX8_init 24 = .ok (.invokevirtual 22, 3) := by decide +kernel
theorem dX8_init_27 : decode cX8_init 27 = .ok (.aload_n 0, 1) := by decide +kernel
theorem dX8_init_28 : decode cX8_init 28 = .ok (.new 7, 3) := by decide +kernel
theorem dX8_init_31 : decode cX8_init 31 = .ok (.dup, 1) := by decide +kernel
theorem dX8_init_32 : decode cX8_init 32 = .ok (.aload_n 1, 1) := by decide +kernel
theorem dX8_init_33 : decode cX8_init 33 = .ok (.invokevirtual 9, 3) := by decide +kernel
theorem dX8_init_36 : decode cX8_init 36 = .ok (.invokespecial 13, 3) := by decide +kernel
theorem dX8_init_39 : decode cX8_init 39 = .ok (.putfield 26, 3) := by decide +kernel
theorem dX8_init_42 : decode cX8_init 42 = .ok (.return_, 1) := by decide +kernel
theorem dX8_value_0 : decode cX8_value 0 = .ok (.aload_n 0, 1) := by decide +kernel
theorem dX8_value_1 : decode cX8_value 1 = .ok (.getfield 26, 3) := by decide +kernel
theorem dX8_value_4 : decode cX8_value 4 = .ok (.invokevirtual 29, 3) := by decide +kernel
theorem dX8_value_7 : decode cX8_value 7 = .ok (.iconst 0, 1) := by decide +kernel
theorem dX8_value_8 : decode cX8_value 8 = .ok (.istore 5, 2) := by decide +kernel
theorem dX8_value_10 : decode cX8_value 10 = .ok (.iload 5, 2) := by decide +kernel
theorem dX8_value_12 : decode cX8_value 12 = .ok (.aload_n 0, 1) := by decide +kernel
theorem dX8_value_13 : decode cX8_value 13 = .ok (.getfield 16, 3) := by decide +kernel
theorem dX8_value_16 : decode cX8_value 16 = .ok (.invokevirtual 9, 3) := by decide +kernel
theorem dX8_value_19 : decode cX8_value 19 = .ok (.if_icmp .ge 174, 3) := by decide +kernel
theorem dX8_value_22 : decode cX8_value 22 = .ok (.aload_n 0, 1) := by decide +kernel
theorem dX8_value_23 : decode cX8_value 23 = .ok (.getfield 16, 3) := by decide +kernel
theorem dX8_value_26 : decode cX8_value 26 = .ok (.iload 5, 2) := by decide +kernel
theorem dX8_value_28 : decode cX8_value 28 = .ok (.invokevirtual 32, 3) := by decide +kernel
theorem dX8_value_31 : decode cX8_value 31 = .ok (.istore 6, 2) := by decide +kernel
theorem dX8_value_33 : decode cX8_value 33 = .ok (.iload 6, 2) := by decide +kernel
theorem dX8_value_35 : decode cX8_value 35 = .ok (.lookupswitch 127 #[(-33, 98), (-4, 85), (-3, 73), (-2, 61), (-1, 49)], 49) := by decide +kernel
theorem dX8_value_84 : decode cX8_value 84 = .ok (.aload_n 0, 1) := by decide +kernel
theorem dX8_value_85 : decode cX8_value 85 = .ok (.getfield 26, 3) := by decide +kernel
theorem dX8_value_88 : decode cX8_value 88 = .ok (.iload_n 1, 1) := by decide +kernel
theorem dX8_value_89 : decode cX8_value 89 = .ok (.invokevirtual 36, 3) := by decide +kernel
theorem dX8_value_92 : decode cX8_value 92 = .ok (.pop, 1) := by decide +kernel
theorem dX8_value_93 : decode cX8_value 93 = .ok (.goto 94, 3) := by decide +kernel
theorem dX8_value_96 : decode cX8_value 96 = .ok (.aload_n 0, 1) := by decide +kernel
theorem dX8_value_97 : decode cX8_value 97 = .ok (.getfield 26, 3) := by decide +kernel
theorem dX8_value_100 : decode cX8_value 100 = .ok (.iload_n 2, 1) := by decide +kernel
theorem dX8_value_101 : decode cX8_value 101 = .ok (.invokevirtual 36, 3) := by decide +kernel
theorem dX8_value_104 : decode cX8_value 104 = .ok (.pop, 1) := by decide +kernel
theorem dX8_value_105 : decode cX8_value 105 = .ok (.goto 82, 3) := by decide +kernel
theorem dX8_value_108 : decode cX8_value 108 = .ok (.aload_n 0, 1) := by decide +kernel
theorem dX8_value_109 : decode cX8_value 109 = .ok (.getfield 26, 3) := by decide +kernel
theorem dX8_value_112 : decode cX8_value 112 = .ok (.iload_n 3, 1) := by decide +kernel
theorem dX8_value_113 : decode cX8_value 113 = .ok (.invokevirtual 36, 3) := by decide +kernel
theorem dX8_value_116 : decode cX8_value 116 = .ok (.pop, 1) := by decide +kernel
theorem dX8_value_117 : decode cX8_value 117 = .ok (.goto 70, 3) := by decide +kernel
theorem dX8_value_120 : decode cX8_value 120 = .ok (.aload_n 0, 1) := by decide +kernel
theorem dX8_value_121 : decode cX8_value 121 = .ok (.getfield 26, 3) := by decide +kernel
theorem dX8_value_124 : decode cX8_value 124 = .ok (.iload 4, 2) := by decide +kernel
theorem dX8_value_126 : decode cX8_value 126 = .ok (.invokevirtual 36, 3) := by decide +kernel
theorem dX8_value_129 : decode cX8_value 129 = .ok (.pop, 1) := by decide +kernel
theorem dX8_value_130 : decode cX8_value 130 = .ok (.goto 57, 3) := by decide +kernel
theorem dX8_value_133 : decode cX8_value 133 = .ok (.aload_n 0, 1) := by decide +kernel
theorem dX8_value_134 : decode cX8_value 134 = .ok (.getfield 26, 3) := by decide +kernel
theorem dX8_value_137 : decode cX8_value 137 = .ok (.aload_n 0, 1) := by decide +kernel
theorem dX8_value_138 : decode cX8_value 138 = .ok (.getfield 26, 3) := by decide +kernel
theorem dX8_value_141 : decode cX8_value 141 = .ok (.invokevirtual 40, 3) := by decide +kernel
theorem dX8_value_144 : decode cX8_value 144 = .ok (.ifCond .ne 7, 3) := by decide +kernel
theorem dX8_value_147 : decode cX8_value 147 = .ok (.iconst 1, 1) := by decide +kernel
theorem dX8_value_148 : decode cX8_value 148 = .ok (.goto 4, 3) := by decide +kernel
theorem dX8_value_151 : decode cX8_value 151 = .ok (.iconst 0, 1) := by decide +kernel
theorem dX8_value_152 : decode cX8_value 152 = .ok (.invokestatic 43, 3) := by decide +kernel
theorem dX8_value_155 : decode cX8_value 155 = .ok (.invokevirtual 36, 3) := by decide +kernel
theorem dX8_value_158 : decode cX8_value 158 = .ok (.pop, 1) := by decide +kernel
theorem dX8_value_159 : decode cX8_value 159 = .ok (.goto 28, 3) := by decide +kernel
theorem dX8_value_162 : decode cX8_value 162 = .ok (.aload_n 0, 1) := by decide +kernel
theorem dX8_value_163 : decode cX8_value 163 = .ok (.getfield 26, 3) := by decide +kernel
theorem dX8_value_166 : decode cX8_value 166 = .ok (.iload 6, 2) := by decide +kernel
theorem dX8_value_168 : decode cX8_value 168 = .ok (.ifCond .lt 8, 3) := by decide +kernel
theorem dX8_value_171 : decode cX8_value 171 = .ok (.iload 6, 2) := by decide +kernel
theorem dX8_value_173 : decode cX8_value 173 = .ok (.goto 10, 3) := by decide +kernel
theorem dX8_value_176 : decode cX8_value 176 = .ok (.aload_n 0, 1) := by decide +kernel
theorem dX8_value_177 : decode cX8_value 177 = .ok (.iload 6, 2) := by decide +kernel
theorem dX8_value_179 : decode cX8_value 179 = .ok (.ineg, 1) := by decide +kernel
theorem dX8_value_180 : decode cX8_value 180 = .ok (.invokevirtual 47, 3) := by decide +kernel
theorem dX8_value_183 : decode cX8_value 183 = .ok (.invokevirtual 36, 3) := by decide +kernel
theorem dX8_value_186 : decode cX8_value 186 = .ok (.pop, 1) := by decide +kernel
theorem dX8_value_187 : decode cX8_value 187 = .ok (.iinc 5 1, 3) := by decide +kernel
theorem dX8_value_190 : decode cX8_value 190 = .ok (.goto (-180), 3) := by decide +kernel
theorem dX8_value_193 : decode cX8_value 193 = .ok (.aload_n 0, 1) := by decide +kernel
theorem dX8_value_194 : decode cX8_value 194 = .ok (.getfield 26, 3) := by decide +kernel
theorem dX8_value_197 : decode cX8_value 197 = .ok (.invokevirtual 40, 3) := by decide +kernel
theorem dX8_value_200 : decode cX8_value 200 = .ok (.ireturn, 1) := by decide +kernel
theorem dX8_workedOut_0 : decode cX8_workedOut 0 = .ok (.aload_n 0, 1) := by decide +kernel
theorem dX8_workedOut_1 : decode cX8_workedOut 1 = .ok (.getfield 26, 3) := by decide +kernel
theorem dX8_workedOut_4 : decode cX8_workedOut 4 = .ok (.invokevirtual 40, 3) := by decide +kernel
theorem dX8_workedOut_7 : decode cX8_workedOut 7 = .ok (.istore_n 2, 1) := by decide +kernel
theorem dX8_workedOut_8 : decode cX8_workedOut 8 = .ok (.aload_n 0, 1) := by decide +kernel
theorem dX8_workedOut_9 : decode cX8_workedOut 9 = .ok (.getfield 26, 3) := by decide +kernel
theorem dX8_workedOut_12 : decode cX8_workedOut 12 = .ok (.invokevirtual 40, 3) := by decide +kernel
theorem dX8_workedOut_15 : decode cX8_workedOut 15 = .ok (.istore_n 3, 1) := by decide +kernel
theorem dX8_workedOut_16 : decode cX8_workedOut 16 = .ok (.iload_n 1, 1) := by decide +kernel
theorem dX8_workedOut_17 : decode cX8_workedOut 17 = .ok (.lookupswitch 203 #[(37, 191), (38, 108), (42, 175), (43, 167), (45, 171), (47, 179), (60, 125), (61, 139), (62, 153), (124, 91)], 91) := by decide +kernel
theorem dX8_workedOut_108 : decode cX8_workedOut 108 = .ok (.iload_n 3, 1) := by decide +kernel
theorem dX8_workedOut_109 : decode cX8_workedOut 109 = .ok (.ifCond .ne 7, 3) := by decide +kernel
theorem dX8_workedOut_112 : decode cX8_workedOut 112 = .ok (.iload_n 2, 1) := by decide +kernel
theorem dX8_workedOut_113 : decode cX8_workedOut 113 = .ok (.ifCond .eq 7, 3) := by decide +kernel
theorem dX8_workedOut_116 : decode cX8_workedOut 116 = .ok (.iconst 1, 1) := by decide +kernel
theorem dX8_workedOut_117 : decode cX8_workedOut 117 = .ok (.goto 4, 3) := by decide +kernel
theorem dX8_workedOut_120 : decode cX8_workedOut 120 = .ok (.iconst 0, 1) := by decide +kernel
theorem dX8_workedOut_121 : decode cX8_workedOut 121 = .ok (.invokestatic 43, 3) := by decide +kernel
theorem dX8_workedOut_124 : decode cX8_workedOut 124 = .ok (.ireturn, 1) := by decide +kernel
theorem dX8_workedOut_125 : decode cX8_workedOut 125 = .ok (.iload_n 3, 1) := by decide +kernel
theorem dX8_workedOut_126 : decode cX8_workedOut 126 = .ok (.ifCond .eq 11, 3) := by decide +kernel
theorem dX8_workedOut_129 : decode cX8_workedOut 129 = .ok (.iload_n 2, 1) := by decide +kernel
theorem dX8_workedOut_130 : decode cX8_workedOut 130 = .ok (.ifCond .eq 7, 3) := by decide +kernel
theorem dX8_workedOut_133 : decode cX8_workedOut 133 = .ok (.iconst 1, 1) := by decide +kernel
theorem dX8_workedOut_134 : decode cX8_workedOut 134 = .ok (.goto 4, 3) := by decide +kernel
theorem dX8_workedOut_137 : decode cX8_workedOut 137 = .ok (.iconst 0, 1) := by decide +kernel
theorem dX8_workedOut_138 : decode cX8_workedOut 138 = .ok (.invokestatic 43, 3) := by decide +kernel
theorem dX8_workedOut_141 : decode cX8_workedOut 141 = .ok (.ireturn, 1) := by decide +kernel
theorem dX8_workedOut_142 : decode cX8_workedOut 142 = .ok (.iload_n 3, 1) := by decide +kernel
theorem dX8_workedOut_143 : decode cX8_workedOut 143 = .ok (.iload_n 2, 1) := by decide +kernel
theorem dX8_workedOut_144 : decode cX8_workedOut 144 = .ok (.if_icmp .ge 7, 3) := by decide +kernel
theorem dX8_workedOut_147 : decode cX8_workedOut 147 = .ok (.iconst 1, 1) := by decide +kernel
theorem dX8_workedOut_148 : decode cX8_workedOut 148 = .ok (.goto 4, 3) := by decide +kernel
theorem dX8_workedOut_151 : decode cX8_workedOut 151 = .ok (.iconst 0, 1) := by decide +kernel
theorem dX8_workedOut_152 : decode cX8_workedOut 152 = .ok (.invokestatic 43, 3) := by decide +kernel
theorem dX8_workedOut_155 : decode cX8_workedOut 155 = .ok (.ireturn, 1) := by decide +kernel
theorem dX8_workedOut_156 : decode cX8_workedOut 156 = .ok (.iload_n 3, 1) := by decide +kernel
theorem dX8_workedOut_157 : decode cX8_workedOut 157 = .ok (.iload_n 2, 1) := by decide +kernel
theorem dX8_workedOut_158 : decode cX8_workedOut 158 = .ok (.if_icmp .ne 7, 3) := by decide +kernel
theorem dX8_workedOut_161 : decode cX8_workedOut 161 = .ok (.iconst 1, 1) := by decide +kernel
theorem dX8_workedOut_162 : decode cX8_workedOut 162 = .ok (.goto 4, 3) := by decide +kernel
theorem dX8_workedOut_165 : decode cX8_workedOut 165 = .ok (.iconst 0, 1) := by decide +kernel
theorem dX8_workedOut_166 : decode cX8_workedOut 166 = .ok (.invokestatic 43, 3) := by decide +kernel
theorem dX8_workedOut_169 : decode cX8_workedOut 169 = .ok (.ireturn, 1) := by decide +kernel
theorem dX8_workedOut_170 : decode cX8_workedOut 170 = .ok (.iload_n 3, 1) := by decide +kernel
theorem dX8_workedOut_171 : decode cX8_workedOut 171 = .ok (.iload_n 2, 1) := by decide +kernel
theorem dX8_workedOut_172 : decode cX8_workedOut 172 = .ok (.if_icmp .le 7, 3) := by decide +kernel
theorem dX8_workedOut_175 : decode cX8_workedOut 175 = .ok (.iconst 1, 1) := by decide +kernel
theorem dX8_workedOut_176 : decode cX8_workedOut 176 = .ok (.goto 4, 3) := by decide +kernel
theorem dX8_workedOut_179 : decode cX8_workedOut 179 = .ok (.iconst 0, 1) := by decide +kernel
theorem dX8_workedOut_180 : decode cX8_workedOut 180 = .ok (.invokestatic 43, 3) := by decide +kernel
theorem dX8_workedOut_183 : decode cX8_workedOut 183 = .ok (.ireturn, 1) := by decide +kernel
theorem dX8_workedOut_184 : decode cX8_workedOut 184 = .ok (.iload_n 3, 1) := by decide +kernel
theorem dX8_workedOut_185 : decode cX8_workedOut 185 = .ok (.iload_n 2, 1) := by decide +kernel
theorem dX8_workedOut_186 : decode cX8_workedOut 186 = .ok (.iadd, 1) := by decide +kernel
theorem dX8_workedOut_187 : decode cX8_workedOut 187 = .ok (.ireturn, 1) := by decide +kernel
theorem dX8_workedOut_188 : decode cX8_workedOut 188 = .ok (.iload_n 3, 1) := by decide +kernel
theorem dX8_workedOut_189 : decode cX8_workedOut 189 = .ok (.iload_n 2, 1) := by decide +kernel
theorem dX8_workedOut_190 : decode cX8_workedOut 190 = .ok (.isub, 1) := by decide +kernel
theorem dX8_workedOut_191 : decode cX8_workedOut 191 = .ok (.ireturn, 1) := by decide +kernel
theorem dX8_workedOut_192 : decode cX8_workedOut 192 = .ok (.iload_n 3, 1) := by decide +kernel
theorem dX8_workedOut_193 : decode cX8_workedOut 193 = .ok (.iload_n 2, 1) := by decide +kernel
theorem dX8_workedOut_194 : decode cX8_workedOut 194 = .ok (.imul, 1) := by decide +kernel
theorem dX8_workedOut_195 : decode cX8_workedOut 195 = .ok (.ireturn, 1) := by decide +kernel
theorem dX8_workedOut_196 : decode cX8_workedOut 196 = .ok (.iload_n 2, 1) := by decide +kernel
theorem dX8_workedOut_197 : decode cX8_workedOut 197 = .ok (.ifCond .ne 7, 3) := by decide +kernel
theorem dX8_workedOut_200 : decode cX8_workedOut 200 = .ok (.iconst 0, 1) := by decide +kernel
theorem dX8_workedOut_201 : decode cX8_workedOut 201 = .ok (.goto 6, 3) := by decide +kernel
theorem dX8_workedOut_204 : decode cX8_workedOut 204 = .ok (.iload_n 3, 1) := by decide +kernel
theorem dX8_workedOut_205 : decode cX8_workedOut 205 = .ok (.iload_n 2, 1) := by decide +kernel
theorem dX8_workedOut_206 : decode cX8_workedOut 206 = .ok (.idiv, 1) := by decide +kernel
theorem dX8_workedOut_207 : decode cX8_workedOut 207 = .ok (.ireturn, 1) := by decide +kernel
theorem dX8_workedOut_208 : decode cX8_workedOut 208 = .ok (.iload_n 2, 1) := by decide +kernel
theorem dX8_workedOut_209 : decode cX8_workedOut 209 = .ok (.ifCond .ne 7, 3) := by decide +kernel
theorem dX8_workedOut_212 : decode cX8_workedOut 212 = .ok (.iconst 0, 1) := by decide +kernel
theorem dX8_workedOut_213 : decode cX8_workedOut 213 = .ok (.goto 6, 3) := by decide +kernel
theorem dX8_workedOut_216 : decode cX8_workedOut 216 = .ok (.iload_n 3, 1) := by decide +kernel
theorem dX8_workedOut_217 : decode cX8_workedOut 217 = .ok (.iload_n 2, 1) := by decide +kernel
theorem dX8_workedOut_218 : decode cX8_workedOut 218 = .ok (.irem, 1) := by decide +kernel
theorem dX8_workedOut_219 : decode cX8_workedOut 219 = .ok (.ireturn, 1) := by decide +kernel
theorem dX8_workedOut_220 : decode cX8_workedOut 220 = .ok (.iconst 0, 1) := by decide +kernel
theorem dX8_workedOut_221 : decode cX8_workedOut 221 = .ok (.ireturn, 1) := by decide +kernel
theorem dX8_truth_0 : decode cX8_truth 0 = .ok (.iload_n 0, 1) := by decide +kernel
theorem dX8_truth_1 : decode cX8_truth 1 = .ok (.ifCond .eq 7, 3) := by decide +kernel
theorem dX8_truth_4 : decode cX8_truth 4 = .ok (.iconst 1, 1) := by decide +kernel
theorem dX8_truth_5 : decode cX8_truth 5 = .ok (.goto 4, 3) := by decide +kernel
theorem dX8_truth_8 : decode cX8_truth 8 = .ok (.iconst 0, 1) := by decide +kernel
theorem dX8_truth_9 : decode cX8_truth 9 = .ok (.ireturn, 1) := by decide +kernel
theorem dX9_init_0 : decode cX9_init 0 = .ok (.aload_n 0, 1) := by decide +kernel
theorem dX9_init_1 : decode cX9_init 1 = .ok (.invokespecial 3, 3) := by decide +kernel
theorem dX9_init_4 : decode cX9_init 4 = .ok (.aload_n 0, 1) := by decide +kernel
theorem dX9_init_5 : decode cX9_init 5 = .ok (.new 9, 3) := by decide +kernel
theorem dX9_init_8 : decode cX9_init 8 = .ok (.dup, 1) := by decide +kernel
theorem dX9_init_9 : decode cX9_init 9 = .ok (.bipush 40, 2) := by decide +kernel
theorem dX9_init_11 : decode cX9_init 11 = .ok (.invokespecial 11, 3) := by decide +kernel
theorem dX9_init_14 : decode cX9_init 14 = .ok (.putfield 14, 3) := by decide +kernel
theorem dX9_init_17 : decode cX9_init 17 = .ok (.return_, 1) := by decide +kernel
theorem dX9_begin_0 : decode cX9_begin 0 = .ok (.aload_n 0, 1) := by decide +kernel
theorem dX9_begin_1 : decode cX9_begin 1 = .ok (.getfield 14, 3) := by decide +kernel
theorem dX9_begin_4 : decode cX9_begin 4 = .ok (.invokevirtual 20, 3) := by decide +kernel
theorem dX9_begin_7 : decode cX9_begin 7 = .ok (.aload_n 0, 1) := by decide +kernel
theorem dX9_begin_8 : decode cX9_begin 8 = .ok (.aload_n 1, 1) := by decide +kernel
theorem dX9_begin_9 : decode cX9_begin 9 = .ok (.aload_n 1, 1) := by decide +kernel
theorem dX9_begin_10 : decode cX9_begin 10 = .ok (.getfield 23, 3) := by decide +kernel
theorem dX9_begin_13 : decode cX9_begin 13 = .ok (.iload_n 2, 1) := by decide +kernel
theorem dX9_begin_14 : decode cX9_begin 14 = .ok (.iload_n 3, 1) := by decide +kernel
theorem dX9_begin_15 : decode cX9_begin 15 = .ok (.iconst 0, 1) := by decide +kernel
theorem dX9_begin_16 : decode cX9_begin 16 = .ok (.invokevirtual 29, 3) := by decide +kernel
theorem dX9_begin_19 : decode cX9_begin 19 = .ok (.ireturn, 1) := by decide +kernel
theorem dX9_speak_0 : decode cX9_speak 0 = .ok (.iload_n 2, 1) := by decide +kernel
theorem dX9_speak_1 : decode cX9_speak 1 = .ok (.iload_n 3, 1) := by decide +kernel
theorem dX9_speak_2 : decode cX9_speak 2 = .ok (.invokestatic 33, 3) := by decide +kernel
theorem dX9_speak_5 : decode cX9_speak 5 = .ok (.istore 6, 2) := by decide +kernel
theorem dX9_speak_7 : decode cX9_speak 7 = .ok (.iload 5, 2) := by decide +kernel
theorem dX9_speak_9 : decode cX9_speak 9 = .ok (.bipush 20, 2) := by decide +kernel
theorem dX9_speak_11 : decode cX9_speak 11 = .ok (.if_icmp .ge 8, 3) := by decide +kernel
theorem dX9_speak_14 : decode cX9_speak 14 = .ok (.iload 6, 2) := by decide +kernel
theorem dX9_speak_16 : decode cX9_speak 16 = .ok (.ifCond .ne 5, 3) := by decide +kernel
theorem dX9_speak_19 : decode cX9_speak 19 = .ok (.iconst 0, 1) := by decide +kernel
theorem dX9_speak_20 : decode cX9_speak 20 = .ok (.ireturn, 1) := by decide +kernel
theorem dX9_speak_21 : decode cX9_speak 21 = .ok (.aload_n 0, 1) := by decide +kernel
theorem dX9_speak_22 : decode cX9_speak 22 = .ok (.getfield 14, 3) := by decide +kernel
theorem dX9_speak_25 : decode cX9_speak 25 = .ok (.iload 6, 2) := by decide +kernel
theorem dX9_speak_27 : decode cX9_speak 27 = .ok (.invokevirtual 37, 3) := by decide +kernel
theorem dX9_speak_30 : decode cX9_speak 30 = .ok (.pop, 1) := by decide +kernel
theorem dX9_speak_31 : decode cX9_speak 31 = .ok (.iload 6, 2) := by decide +kernel
theorem dX9_speak_33 : decode cX9_speak 33 = .ok (.bipush 20, 2) := by decide +kernel
theorem dX9_speak_35 : decode cX9_speak 35 = .ok (.if_icmp .ge 19, 3) := by decide +kernel
theorem dX9_speak_38 : decode cX9_speak 38 = .ok (.aload_n 0, 1) := by decide +kernel
theorem dX9_speak_39 : decode cX9_speak 39 = .ok (.aload_n 1, 1) := by decide +kernel
theorem dX9_speak_40 : decode cX9_speak 40 = .ok (.iload 6, 2) := by decide +kernel
theorem dX9_speak_42 : decode cX9_speak 42 = .ok (.iload 4, 2) := by decide +kernel
theorem dX9_speak_44 : decode cX9_speak 44 = .ok (.iload 5, 2) := by decide +kernel
theorem dX9_speak_46 : decode cX9_speak 46 = .ok (.iconst 1, 1) := by decide +kernel
theorem dX9_speak_47 : decode cX9_speak 47 = .ok (.iadd, 1) := by decide +kernel
theorem dX9_speak_48 : decode cX9_speak 48 = .ok (.invokevirtual 41, 3) := by decide +kernel
theorem dX9_speak_51 : decode cX9_speak 51 = .ok (.goto 16, 3) := by decide +kernel
theorem dX9_speak_54 : decode cX9_speak 54 = .ok (.aload_n 0, 1) := by decide +kernel
theorem dX9_speak_55 : decode cX9_speak 55 = .ok (.aload_n 1, 1) := by decide +kernel
theorem dX9_speak_56 : decode cX9_speak 56 = .ok (.iload 6, 2) := by decide +kernel
theorem dX9_speak_58 : decode cX9_speak 58 = .ok (.iload 4, 2) := by decide +kernel
theorem dX9_speak_60 : decode cX9_speak 60 = .ok (.iload 5, 2) := by decide +kernel
theorem dX9_speak_62 : decode cX9_speak 62 = .ok (.iconst 1, 1) := by decide +kernel
theorem dX9_speak_63 : decode cX9_speak 63 = .ok (.iadd, 1) := by decide +kernel
theorem dX9_speak_64 : decode cX9_speak 64 = .ok (.invokevirtual 45, 3) := by decide +kernel
theorem dX9_speak_67 : decode cX9_speak 67 = .ok (.ireturn, 1) := by decide +kernel
theorem dX9_bodyFrom_0 : decode cX9_bodyFrom 0 = .ok (.iload_n 0, 1) := by decide +kernel
theorem dX9_bodyFrom_1 : decode cX9_bodyFrom 1 = .ok (.istore_n 2, 1) := by decide +kernel
theorem dX9_bodyFrom_2 : decode cX9_bodyFrom 2 = .ok (.iconst 0, 1) := by decide +kernel
theorem dX9_bodyFrom_3 : decode cX9_bodyFrom 3 = .ok (.istore_n 3, 1) := by decide +kernel
theorem dX9_bodyFrom_4 : decode cX9_bodyFrom 4 = .ok (.iload_n 3, 1) := by decide +kernel
theorem dX9_bodyFrom_5 : decode cX9_bodyFrom 5 = .ok (.bipush 8, 2) := by decide +kernel
theorem dX9_bodyFrom_7 : decode cX9_bodyFrom 7 = .ok (.if_icmp .ge 55, 3) := by decide +kernel
theorem dX9_bodyFrom_10 : decode cX9_bodyFrom 10 = .ok (.iload_n 2, 1) := by decide +kernel
theorem dX9_bodyFrom_11 : decode cX9_bodyFrom 11 = .ok (.ifCond .lt 51, 3) := by decide +kernel
theorem dX9_bodyFrom_14 : decode cX9_bodyFrom 14 = .ok (.iconst 4, 1) := by decide +kernel
theorem dX9_bodyFrom_15 : decode cX9_bodyFrom 15 = .ok (.iload_n 2, 1) := by decide +kernel
theorem dX9_bodyFrom_16 : decode cX9_bodyFrom 16 = .ok (.imul, 1) := by decide +kernel
theorem dX9_bodyFrom_17 : decode cX9_bodyFrom 17 = .ok (.iload_n 1, 1) := by decide +kernel
theorem dX9_bodyFrom_18 : decode cX9_bodyFrom 18 = .ok (.iadd, 1) := by decide +kernel
theorem dX9_bodyFrom_19 : decode cX9_bodyFrom 19 = .ok (.istore 4, 2) := by decide +kernel
theorem dX9_bodyFrom_21 : decode cX9_bodyFrom 21 = .ok (.iload 4, 2) := by decide +kernel
theorem dX9_bodyFrom_23 : decode cX9_bodyFrom 23 = .ok (.ifCond .lt 28, 3) := by decide +kernel
theorem dX9_bodyFrom_26 : decode cX9_bodyFrom 26 = .ok (.iload 4, 2) := by decide +kernel
theorem dX9_bodyFrom_28 : decode cX9_bodyFrom 28 = .ok (.getstatic 48, 3) := by decide +kernel
theorem dX9_bodyFrom_31 : decode cX9_bodyFrom 31 = .ok (.arraylength, 1) := by decide +kernel
theorem dX9_bodyFrom_32 : decode cX9_bodyFrom 32 = .ok (.if_icmp .ge 19, 3) := by decide +kernel
theorem dX9_bodyFrom_35 : decode cX9_bodyFrom 35 = .ok (.getstatic 48, 3) := by decide +kernel
theorem dX9_bodyFrom_38 : decode cX9_bodyFrom 38 = .ok (.iload 4, 2) := by decide +kernel
theorem dX9_bodyFrom_40 : decode cX9_bodyFrom 40 = .ok (.iaload, 1) := by decide +kernel
theorem dX9_bodyFrom_41 : decode cX9_bodyFrom 41 = .ok (.ifCond .eq 10, 3) := by decide +kernel
theorem dX9_bodyFrom_44 : decode cX9_bodyFrom 44 = .ok (.getstatic 48, 3) := by decide +kernel
theorem dX9_bodyFrom_47 : decode cX9_bodyFrom 47 = .ok (.iload 4, 2) := by decide +kernel
theorem dX9_bodyFrom_49 : decode cX9_bodyFrom 49 = .ok (.iaload, 1) := by decide +kernel
theorem dX9_bodyFrom_50 : decode cX9_bodyFrom 50 = .ok (.ireturn, 1) := by decide +kernel
theorem dX9_bodyFrom_51 : decode cX9_bodyFrom 51 = .ok (.iload_n 2, 1) := by decide +kernel
theorem dX9_bodyFrom_52 : decode cX9_bodyFrom 52 = .ok (.invokestatic 52, 3) := by decide +kernel
theorem dX9_bodyFrom_55 : decode cX9_bodyFrom 55 = .ok (.istore_n 2, 1) := by decide +kernel
theorem dX9_bodyFrom_56 : decode cX9_bodyFrom 56 = .ok (.iinc 3 1, 3) := by decide +kernel
theorem dX9_bodyFrom_59 : decode cX9_bodyFrom 59 = .ok (.goto (-55), 3) := by decide +kernel
theorem dX9_bodyFrom_62 : decode cX9_bodyFrom 62 = .ok (.iconst 0, 1) := by decide +kernel
theorem dX9_bodyFrom_63 : decode cX9_bodyFrom 63 = .ok (.ireturn, 1) := by decide +kernel
theorem dX9_plainBody_0 : decode cX9_plainBody 0 = .ok (.iload_n 2, 1) := by decide +kernel
theorem dX9_plainBody_1 : decode cX9_plainBody 1 = .ok (.tableswitch 57 10 12 #[27, 34, 50], 27) := by decide +kernel
theorem dX9_plainBody_28 : decode cX9_plainBody 28 = .ok (.iload_n 3, 1) := by decide +kernel
theorem dX9_plainBody_29 : decode cX9_plainBody 29 = .ok (.aload_n 1, 1) := by decide +kernel
theorem dX9_plainBody_30 : decode cX9_plainBody 30 = .ok (.getfield 56, 3) := by decide +kernel
theorem dX9_plainBody_33 : decode cX9_plainBody 33 = .ok (.iadd, 1) := by decide +kernel
theorem dX9_plainBody_34 : decode cX9_plainBody 34 = .ok (.ireturn, 1) := by decide +kernel
theorem dX9_plainBody_35 : decode cX9_plainBody 35 = .ok (.aload_n 0, 1) := by decide +kernel
theorem dX9_plainBody_36 : decode cX9_plainBody 36 = .ok (.aload_n 1, 1) := by decide +kernel
theorem dX9_plainBody_37 : decode cX9_plainBody 37 = .ok (.aload_n 1, 1) := by decide +kernel
theorem dX9_plainBody_38 : decode cX9_plainBody 38 = .ok (.getfield 23, 3) := by decide +kernel
theorem dX9_plainBody_41 : decode cX9_plainBody 41 = .ok (.iconst 0, 1) := by decide +kernel
theorem dX9_plainBody_42 : decode cX9_plainBody 42 = .ok (.iload_n 3, 1) := by decide +kernel
theorem dX9_plainBody_43 : decode cX9_plainBody 43 = .ok (.iload 4, 2) := by decide +kernel
theorem dX9_plainBody_45 : decode cX9_plainBody 45 = .ok (.invokevirtual 29, 3) := by decide +kernel
theorem dX9_plainBody_48 : decode cX9_plainBody 48 = .ok (.iconst 2, 1) := by decide +kernel
theorem dX9_plainBody_49 : decode cX9_plainBody 49 = .ok (.imul, 1) := by decide +kernel
theorem dX9_plainBody_50 : decode cX9_plainBody 50 = .ok (.ireturn, 1) := by decide +kernel
theorem dX9_plainBody_51 : decode cX9_plainBody 51 = .ok (.iload_n 3, 1) := by decide +kernel
theorem dX9_plainBody_52 : decode cX9_plainBody 52 = .ok (.aload_n 1, 1) := by decide +kernel
theorem dX9_plainBody_53 : decode cX9_plainBody 53 = .ok (.getfield 59, 3) := by decide +kernel
theorem dX9_plainBody_56 : decode cX9_plainBody 56 = .ok (.isub, 1) := by decide +kernel
theorem dX9_plainBody_57 : decode cX9_plainBody 57 = .ok (.ireturn, 1) := by decide +kernel
theorem dX9_plainBody_58 : decode cX9_plainBody 58 = .ok (.aload_n 0, 1) := by decide +kernel
theorem dX9_plainBody_59 : decode cX9_plainBody 59 = .ok (.aload_n 1, 1) := by decide +kernel
theorem dX9_plainBody_60 : decode cX9_plainBody 60 = .ok (.aload_n 1, 1) := by decide +kernel
theorem dX9_plainBody_61 : decode cX9_plainBody 61 = .ok (.getfield 23, 3) := by decide +kernel
theorem dX9_plainBody_64 : decode cX9_plainBody 64 = .ok (.iconst 1, 1) := by decide +kernel
theorem dX9_plainBody_65 : decode cX9_plainBody 65 = .ok (.iload_n 3, 1) := by decide +kernel
theorem dX9_plainBody_66 : decode cX9_plainBody 66 = .ok (.iload 4, 2) := by decide +kernel
theorem dX9_plainBody_68 : decode cX9_plainBody 68 = .ok (.invokevirtual 29, 3) := by decide +kernel
theorem dX9_plainBody_71 : decode cX9_plainBody 71 = .ok (.aload_n 0, 1) := by decide +kernel
theorem dX9_plainBody_72 : decode cX9_plainBody 72 = .ok (.aload_n 1, 1) := by decide +kernel
theorem dX9_plainBody_73 : decode cX9_plainBody 73 = .ok (.aload_n 1, 1) := by decide +kernel
theorem dX9_plainBody_74 : decode cX9_plainBody 74 = .ok (.getfield 23, 3) := by decide +kernel
theorem dX9_plainBody_77 : decode cX9_plainBody 77 = .ok (.iconst 2, 1) := by decide +kernel
theorem dX9_plainBody_78 : decode cX9_plainBody 78 = .ok (.iload_n 3, 1) := by decide +kernel
theorem dX9_plainBody_79 : decode cX9_plainBody 79 = .ok (.iload 4, 2) := by decide +kernel
theorem dX9_plainBody_81 : decode cX9_plainBody 81 = .ok (.invokevirtual 29, 3) := by decide +kernel
theorem dX9_plainBody_84 : decode cX9_plainBody 84 = .ok (.ixor, 1) := by decide +kernel
theorem dX9_plainBody_85 : decode cX9_plainBody 85 = .ok (.ireturn, 1) := by decide +kernel
theorem dX9_ownBody_0 : decode cX9_ownBody 0 = .ok (.aload_n 1, 1) := by decide +kernel
theorem dX9_ownBody_1 : decode cX9_ownBody 1 = .ok (.getfield 23, 3) := by decide +kernel
theorem dX9_ownBody_4 : decode cX9_ownBody 4 = .ok (.istore 5, 2) := by decide +kernel
theorem dX9_ownBody_6 : decode cX9_ownBody 6 = .ok (.iload_n 2, 1) := by decide +kernel
theorem dX9_ownBody_7 : decode cX9_ownBody 7 = .ok (.bipush 10, 2) := by decide +kernel
theorem dX9_ownBody_9 : decode cX9_ownBody 9 = .ok (.idiv, 1) := by decide +kernel
theorem dX9_ownBody_10 : decode cX9_ownBody 10 = .ok (.iconst 1, 1) := by decide +kernel
theorem dX9_ownBody_11 : decode cX9_ownBody 11 = .ok (.isub, 1) := by decide +kernel
theorem dX9_ownBody_12 : decode cX9_ownBody 12 = .ok (.invokestatic 52, 3) := by decide +kernel
theorem dX9_ownBody_15 : decode cX9_ownBody 15 = .ok (.istore 6, 2) := by decide +kernel
theorem dX9_ownBody_17 : decode cX9_ownBody 17 = .ok (.iload_n 2, 1) := by decide +kernel
theorem dX9_ownBody_18 : decode cX9_ownBody 18 = .ok (.lookupswitch 250 #[(20, 82), (30, 96), (40, 120), (50, 144), (60, 158), (70, 182), (71, 195), (80, 209), (81, 226)], 82) := by decide +kernel
theorem dX9_ownBody_100 : decode cX9_ownBody 100 = .ok (.aload_n 0, 1) := by decide +kernel
theorem dX9_ownBody_101 : decode cX9_ownBody 101 = .ok (.aload_n 1, 1) := by decide +kernel
theorem dX9_ownBody_102 : decode cX9_ownBody 102 = .ok (.iload 6, 2) := by decide +kernel
theorem dX9_ownBody_104 : decode cX9_ownBody 104 = .ok (.iconst 1, 1) := by decide +kernel
theorem dX9_ownBody_105 : decode cX9_ownBody 105 = .ok (.iload_n 3, 1) := by decide +kernel
theorem dX9_ownBody_106 : decode cX9_ownBody 106 = .ok (.iload 4, 2) := by decide +kernel
theorem dX9_ownBody_108 : decode cX9_ownBody 108 = .ok (.invokevirtual 29, 3) := by decide +kernel
theorem dX9_ownBody_111 : decode cX9_ownBody 111 = .ok (.iconst 1, 1) := by decide +kernel
theorem dX9_ownBody_112 : decode cX9_ownBody 112 = .ok (.isub, 1) := by decide +kernel
theorem dX9_ownBody_113 : decode cX9_ownBody 113 = .ok (.ireturn, 1) := by decide +kernel
theorem dX9_ownBody_114 : decode cX9_ownBody 114 = .ok (.aload_n 0, 1) := by decide +kernel
theorem dX9_ownBody_115 : decode cX9_ownBody 115 = .ok (.aload_n 1, 1) := by decide +kernel
theorem dX9_ownBody_116 : decode cX9_ownBody 116 = .ok (.iload 6, 2) := by decide +kernel
theorem dX9_ownBody_118 : decode cX9_ownBody 118 = .ok (.iconst 0, 1) := by decide +kernel
theorem dX9_ownBody_119 : decode cX9_ownBody 119 = .ok (.iload_n 3, 1) := by decide +kernel
theorem dX9_ownBody_120 : decode cX9_ownBody 120 = .ok (.iload 4, 2) := by decide +kernel
theorem dX9_ownBody_122 : decode cX9_ownBody 122 = .ok (.invokevirtual 29, 3) := by decide +kernel
theorem dX9_ownBody_125 : decode cX9_ownBody 125 = .ok (.aload_n 0, 1) := by decide +kernel
theorem dX9_ownBody_126 : decode cX9_ownBody 126 = .ok (.aload_n 1, 1) := by decide +kernel
theorem dX9_ownBody_127 : decode cX9_ownBody 127 = .ok (.iload 5, 2) := by decide +kernel
theorem dX9_ownBody_129 : decode cX9_ownBody 129 = .ok (.iconst 2, 1) := by decide +kernel
theorem dX9_ownBody_130 : decode cX9_ownBody 130 = .ok (.iconst 1, 1) := by decide +kernel
theorem dX9_ownBody_131 : decode cX9_ownBody 131 = .ok (.iload 4, 2) := by decide +kernel
theorem dX9_ownBody_133 : decode cX9_ownBody 133 = .ok (.invokevirtual 29, 3) := by decide +kernel
theorem dX9_ownBody_136 : decode cX9_ownBody 136 = .ok (.iadd, 1) := by decide +kernel
theorem dX9_ownBody_137 : decode cX9_ownBody 137 = .ok (.ireturn, 1) := by decide +kernel
theorem dX9_ownBody_138 : decode cX9_ownBody 138 = .ok (.aload_n 0, 1) := by decide +kernel
theorem dX9_ownBody_139 : decode cX9_ownBody 139 = .ok (.aload_n 1, 1) := by decide +kernel
theorem dX9_ownBody_140 : decode cX9_ownBody 140 = .ok (.iload 5, 2) := by decide +kernel
theorem dX9_ownBody_142 : decode cX9_ownBody 142 = .ok (.iconst 1, 1) := by decide +kernel
theorem dX9_ownBody_143 : decode cX9_ownBody 143 = .ok (.iconst 2, 1) := by decide +kernel
theorem dX9_ownBody_144 : decode cX9_ownBody 144 = .ok (.iload 4, 2) := by decide +kernel
theorem dX9_ownBody_146 : decode cX9_ownBody 146 = .ok (.invokevirtual 29, 3) := by decide +kernel
theorem dX9_ownBody_149 : decode cX9_ownBody 149 = .ok (.aload_n 0, 1) := by decide +kernel
theorem dX9_ownBody_150 : decode cX9_ownBody 150 = .ok (.aload_n 1, 1) := by decide +kernel
theorem dX9_ownBody_151 : decode cX9_ownBody 151 = .ok (.iload 6, 2) := by decide +kernel
theorem dX9_ownBody_153 : decode cX9_ownBody 153 = .ok (.iconst 3, 1) := by decide +kernel
theorem dX9_ownBody_154 : decode cX9_ownBody 154 = .ok (.iload_n 3, 1) := by decide +kernel
theorem dX9_ownBody_155 : decode cX9_ownBody 155 = .ok (.iload 4, 2) := by decide +kernel
theorem dX9_ownBody_157 : decode cX9_ownBody 157 = .ok (.invokevirtual 29, 3) := by decide +kernel
theorem dX9_ownBody_160 : decode cX9_ownBody 160 = .ok (.isub, 1) := by decide +kernel
theorem dX9_ownBody_161 : decode cX9_ownBody 161 = .ok (.ireturn, 1) := by decide +kernel
theorem dX9_ownBody_162 : decode cX9_ownBody 162 = .ok (.aload_n 0, 1) := by decide +kernel
theorem dX9_ownBody_163 : decode cX9_ownBody 163 = .ok (.aload_n 1, 1) := by decide +kernel
theorem dX9_ownBody_164 : decode cX9_ownBody 164 = .ok (.iload 6, 2) := by decide +kernel
theorem dX9_ownBody_166 : decode cX9_ownBody 166 = .ok (.iconst 2, 1) := by decide +kernel
theorem dX9_ownBody_167 : decode cX9_ownBody 167 = .ok (.iload_n 3, 1) := by decide +kernel
theorem dX9_ownBody_168 : decode cX9_ownBody 168 = .ok (.iload 4, 2) := by decide +kernel
theorem dX9_ownBody_170 : decode cX9_ownBody 170 = .ok (.invokevirtual 29, 3) := by decide +kernel
theorem dX9_ownBody_173 : decode cX9_ownBody 173 = .ok (.iconst 3, 1) := by decide +kernel
theorem dX9_ownBody_174 : decode cX9_ownBody 174 = .ok (.imul, 1) := by decide +kernel
theorem dX9_ownBody_175 : decode cX9_ownBody 175 = .ok (.ireturn, 1) := by decide +kernel
theorem dX9_ownBody_176 : decode cX9_ownBody 176 = .ok (.aload_n 0, 1) := by decide +kernel
theorem dX9_ownBody_177 : decode cX9_ownBody 177 = .ok (.aload_n 1, 1) := by decide +kernel
theorem dX9_ownBody_178 : decode cX9_ownBody 178 = .ok (.iload 6, 2) := by decide +kernel
theorem dX9_ownBody_180 : decode cX9_ownBody 180 = .ok (.iconst 1, 1) := by decide +kernel
theorem dX9_ownBody_181 : decode cX9_ownBody 181 = .ok (.iload_n 3, 1) := by decide +kernel
theorem dX9_ownBody_182 : decode cX9_ownBody 182 = .ok (.iload 4, 2) := by decide +kernel
theorem dX9_ownBody_184 : decode cX9_ownBody 184 = .ok (.invokevirtual 29, 3) := by decide +kernel
theorem dX9_ownBody_187 : decode cX9_ownBody 187 = .ok (.aload_n 0, 1) := by decide +kernel
theorem dX9_ownBody_188 : decode cX9_ownBody 188 = .ok (.aload_n 1, 1) := by decide +kernel
theorem dX9_ownBody_189 : decode cX9_ownBody 189 = .ok (.iload 5, 2) := by decide +kernel
theorem dX9_ownBody_191 : decode cX9_ownBody 191 = .ok (.iconst 0, 1) := by decide +kernel
theorem dX9_ownBody_192 : decode cX9_ownBody 192 = .ok (.iload_n 3, 1) := by decide +kernel
theorem dX9_ownBody_193 : decode cX9_ownBody 193 = .ok (.iload 4, 2) := by decide +kernel
theorem dX9_ownBody_195 : decode cX9_ownBody 195 = .ok (.invokevirtual 29, 3) := by decide +kernel
theorem dX9_ownBody_198 : decode cX9_ownBody 198 = .ok (.iadd, 1) := by decide +kernel
theorem dX9_ownBody_199 : decode cX9_ownBody 199 = .ok (.ireturn, 1) := by decide +kernel
theorem dX9_ownBody_200 : decode cX9_ownBody 200 = .ok (.aload_n 0, 1) := by decide +kernel
theorem dX9_ownBody_201 : decode cX9_ownBody 201 = .ok (.aload_n 1, 1) := by decide +kernel
theorem dX9_ownBody_202 : decode cX9_ownBody 202 = .ok (.iload 6, 2) := by decide +kernel
theorem dX9_ownBody_204 : decode cX9_ownBody 204 = .ok (.iconst 0, 1) := by decide +kernel
theorem dX9_ownBody_205 : decode cX9_ownBody 205 = .ok (.iload_n 3, 1) := by decide +kernel
theorem dX9_ownBody_206 : decode cX9_ownBody 206 = .ok (.iload 4, 2) := by decide +kernel
theorem dX9_ownBody_208 : decode cX9_ownBody 208 = .ok (.invokevirtual 29, 3) := by decide +kernel
theorem dX9_ownBody_211 : decode cX9_ownBody 211 = .ok (.ineg, 1) := by decide +kernel
theorem dX9_ownBody_212 : decode cX9_ownBody 212 = .ok (.ireturn, 1) := by decide +kernel
theorem dX9_ownBody_213 : decode cX9_ownBody 213 = .ok (.aload_n 0, 1) := by decide +kernel
theorem dX9_ownBody_214 : decode cX9_ownBody 214 = .ok (.aload_n 1, 1) := by decide +kernel
theorem dX9_ownBody_215 : decode cX9_ownBody 215 = .ok (.iload 6, 2) := by decide +kernel
theorem dX9_ownBody_217 : decode cX9_ownBody 217 = .ok (.iconst 3, 1) := by decide +kernel
theorem dX9_ownBody_218 : decode cX9_ownBody 218 = .ok (.iload_n 3, 1) := by decide +kernel
theorem dX9_ownBody_219 : decode cX9_ownBody 219 = .ok (.iconst 1, 1) := by decide +kernel
theorem dX9_ownBody_220 : decode cX9_ownBody 220 = .ok (.iadd, 1) := by decide +kernel
theorem dX9_ownBody_221 : decode cX9_ownBody 221 = .ok (.iload 4, 2) := by decide +kernel
theorem dX9_ownBody_223 : decode cX9_ownBody 223 = .ok (.invokevirtual 29, 3) := by decide +kernel
theorem dX9_ownBody_226 : decode cX9_ownBody 226 = .ok (.ireturn, 1) := by decide +kernel
theorem dX9_ownBody_227 : decode cX9_ownBody 227 = .ok (.aload_n 0, 1) := by decide +kernel
theorem dX9_ownBody_228 : decode cX9_ownBody 228 = .ok (.aload_n 1, 1) := by decide +kernel
theorem dX9_ownBody_229 : decode cX9_ownBody 229 = .ok (.iload 6, 2) := by decide +kernel
theorem dX9_ownBody_231 : decode cX9_ownBody 231 = .ok (.iconst 1, 1) := by decide +kernel
theorem dX9_ownBody_232 : decode cX9_ownBody 232 = .ok (.iload_n 3, 1) := by decide +kernel
theorem dX9_ownBody_233 : decode cX9_ownBody 233 = .ok (.iload 4, 2) := by decide +kernel
theorem dX9_ownBody_235 : decode cX9_ownBody 235 = .ok (.invokevirtual 29, 3) := by decide +kernel
theorem dX9_ownBody_238 : decode cX9_ownBody 238 = .ok (.aload_n 1, 1) := by decide +kernel
theorem dX9_ownBody_239 : decode cX9_ownBody 239 = .ok (.getfield 56, 3) := by decide +kernel
theorem dX9_ownBody_242 : decode cX9_ownBody 242 = .ok (.ixor, 1) := by decide +kernel
theorem dX9_ownBody_243 : decode cX9_ownBody 243 = .ok (.ireturn, 1) := by decide +kernel
theorem dX9_ownBody_244 : decode cX9_ownBody 244 = .ok (.aload_n 0, 1) := by decide +kernel
theorem dX9_ownBody_245 : decode cX9_ownBody 245 = .ok (.aload_n 1, 1) := by decide +kernel
theorem dX9_ownBody_246 : decode cX9_ownBody 246 = .ok (.iload 5, 2) := by decide +kernel
theorem dX9_ownBody_248 : decode cX9_ownBody 248 = .ok (.iconst 2, 1) := by decide +kernel
theorem dX9_ownBody_249 : decode cX9_ownBody 249 = .ok (.iload_n 3, 1) := by decide +kernel
theorem dX9_ownBody_250 : decode cX9_ownBody 250 = .ok (.iload 4, 2) := by decide +kernel
theorem dX9_ownBody_252 : decode cX9_ownBody 252 = .ok (.invokevirtual 29, 3) := by decide +kernel
theorem dX9_ownBody_255 : decode cX9_ownBody 255 = .ok (.aload_n 0, 1) := by decide +kernel
theorem dX9_ownBody_256 : decode cX9_ownBody 256 = .ok (.aload_n 1, 1) := by decide +kernel
theorem dX9_ownBody_257 : decode cX9_ownBody 257 = .ok (.iload 6, 2) := by decide +kernel
theorem dX9_ownBody_259 : decode cX9_ownBody 259 = .ok (.iconst 3, 1) := by decide +kernel
theorem dX9_ownBody_260 : decode cX9_ownBody 260 = .ok (.iload_n 3, 1) := by decide +kernel
theorem dX9_ownBody_261 : decode cX9_ownBody 261 = .ok (.iload 4, 2) := by decide +kernel
theorem dX9_ownBody_263 : decode cX9_ownBody 263 = .ok (.invokevirtual 29, 3) := by decide +kernel
theorem dX9_ownBody_266 : decode cX9_ownBody 266 = .ok (.iadd, 1) := by decide +kernel
theorem dX9_ownBody_267 : decode cX9_ownBody 267 = .ok (.ireturn, 1) := by decide +kernel
theorem dX9_ownBody_268 : decode cX9_ownBody 268 = .ok (.iconst 0, 1) := by decide +kernel
theorem dX9_ownBody_269 : decode cX9_ownBody 269 = .ok (.ireturn, 1) := by decide +kernel
theorem dX10_init_0 : decode cX10_init 0 = .ok (.aload_n 0, 1) := by decide +kernel
theorem dX10_init_1 : decode cX10_init 1 = .ok (.invokespecial 1, 3) := by decide +kernel
theorem dX10_init_4 : decode cX10_init 4 = .ok (.aload_n 0, 1) := by decide +kernel
theorem dX10_init_5 : decode cX10_init 5 = .ok (.new 7, 3) := by decide +kernel
theorem dX10_init_8 : decode cX10_init 8 = .ok (.dup, 1) := by decide +kernel
theorem dX10_init_9 : decode cX10_init 9 = .ok (.invokespecial 9, 3) := by decide +kernel
theorem dX10_init_12 : decode cX10_init 12 = .ok (.putfield 10, 3) := by decide +kernel
theorem dX10_init_15 : decode cX10_init 15 = .ok (.aload_n 0, 1) := by decide +kernel
theorem dX10_init_16 : decode cX10_init 16 = .ok (.new 7, 3) := by decide +kernel
theorem dX10_init_19 : decode cX10_init 19 = .ok (.dup, 1) := by decide +kernel
theorem dX10_init_20 : decode cX10_init 20 = .ok (.invokespecial 9, 3) := by decide +kernel
theorem dX10_init_23 : decode cX10_init 23 = .ok (.putfield 16, 3) := by decide +kernel
theorem dX10_init_26 : decode cX10_init 26 = .ok (.aload_n 0, 1) := by decide +kernel
theorem dX10_init_27 : decode cX10_init 27 = .ok (.new 19, 3) := by decide +kernel
theorem dX10_init_30 : decode cX10_init 30 = .ok (.dup, 1) := by decide +kernel
theorem dX10_init_31 : decode cX10_init 31 = .ok (.bipush 6, 2) := by decide +kernel
theorem dX10_init_33 : decode cX10_init 33 = .ok (.invokespecial 21, 3) := by decide +kernel
theorem dX10_init_36 : decode cX10_init 36 = .ok (.putfield 24, 3) := by decide +kernel
theorem dX10_init_39 : decode cX10_init 39 = .ok (.aload_n 0, 1) := by decide +kernel
theorem dX10_init_40 : decode cX10_init 40 = .ok (.getfield 24, 3) := by decide +kernel
theorem dX10_init_43 : decode cX10_init 43 = .ok (.bipush 6, 2) := by decide +kernel
theorem dX10_init_45 : decode cX10_init 45 = .ok (.iconst 0, 1) := by decide +kernel
theorem dX10_init_46 : decode cX10_init 46 = .ok (.invokevirtual 28, 3) := by decide +kernel
theorem dX10_init_49 : decode cX10_init 49 = .ok (.aload_n 0, 1) := by decide +kernel
theorem dX10_init_50 : decode cX10_init 50 = .ok (.iconst 4, 1) := by decide +kernel
theorem dX10_init_51 : decode cX10_init 51 = .ok (.anewarray 32, 3) := by decide +kernel
theorem dX10_init_54 : decode cX10_init 54 = .ok (.putfield 34, 3) := by decide +kernel
theorem dX10_init_57 : decode cX10_init 57 = .ok (.iconst 0, 1) := by decide +kernel
theorem dX10_init_58 : decode cX10_init 58 = .ok (.istore_n 1, 1) := by decide +kernel
theorem dX10_init_59 : decode cX10_init 59 = .ok (.iload_n 1, 1) := by decide +kernel
theorem dX10_init_60 : decode cX10_init 60 = .ok (.iconst 4, 1) := by decide +kernel
theorem dX10_init_61 : decode cX10_init 61 = .ok (.if_icmp .ge 22, 3) := by decide +kernel
theorem dX10_init_64 : decode cX10_init 64 = .ok (.aload_n 0, 1) := by decide +kernel
theorem dX10_init_65 : decode cX10_init 65 = .ok (.getfield 34, 3) := by decide +kernel
theorem dX10_init_68 : decode cX10_init 68 = .ok (.iload_n 1, 1) := by decide +kernel
theorem dX10_init_69 : decode cX10_init 69 = .ok (.new 32, 3) := by decide +kernel
theorem dX10_init_72 : decode cX10_init 72 = .ok (.dup, 1) := by decide +kernel
theorem dX10_init_73 : decode cX10_init 73 = .ok (.invokespecial 38, 3) := by decide +kernel
theorem dX10_init_76 : decode cX10_init 76 = .ok (.aastore, 1) := by decide +kernel
theorem dX10_init_77 : decode cX10_init 77 = .ok (.iinc 1 1, 3) := by decide +kernel
theorem dX10_init_80 : decode cX10_init 80 = .ok (.goto (-21), 3) := by decide +kernel
theorem dX10_init_83 : decode cX10_init 83 = .ok (.aload_n 0, 1) := by decide +kernel
theorem dX10_init_84 : decode cX10_init 84 = .ok (.new 39, 3) := by decide +kernel
theorem dX10_init_87 : decode cX10_init 87 = .ok (.dup, 1) := by decide +kernel
theorem dX10_init_88 : decode cX10_init 88 = .ok (.invokespecial 41, 3) := by decide +kernel
theorem dX10_init_91 : decode cX10_init 91 = .ok (.putfield 42, 3) := by decide +kernel
theorem dX10_init_94 : decode cX10_init 94 = .ok (.aload_n 0, 1) := by decide +kernel
theorem dX10_init_95 : decode cX10_init 95 = .ok (.new 46, 3) := by decide +kernel
theorem dX10_init_98 : decode cX10_init 98 = .ok (.dup, 1) := by decide +kernel
theorem dX10_init_99 : decode cX10_init 99 = .ok (.invokespecial 48, 3) := by decide +kernel
theorem dX10_init_102 : decode cX10_init 102 = .ok (.putfield 49, 3) := by decide +kernel
theorem dX10_init_105 : decode cX10_init 105 = .ok (.aload_n 0, 1) := by decide +kernel
theorem dX10_init_106 : decode cX10_init 106 = .ok (.new 53, 3) := by decide +kernel
theorem dX10_init_109 : decode cX10_init 109 = .ok (.dup, 1) := by decide +kernel
theorem dX10_init_110 : decode cX10_init 110 = .ok (.invokespecial 55, 3) := by decide +kernel
theorem dX10_init_113 : decode cX10_init 113 = .ok (.putfield 56, 3) := by decide +kernel
theorem dX10_init_116 : decode cX10_init 116 = .ok (.aload_n 0, 1) := by decide +kernel
theorem dX10_init_117 : decode cX10_init 117 = .ok (.new 60, 3) := by decide +kernel
theorem dX10_init_120 : decode cX10_init 120 = .ok (.dup, 1) := by decide +kernel
theorem dX10_init_121 : decode cX10_init 121 = .ok (.invokespecial 62, 3) := by decide +kernel
theorem dX10_init_124 : decode cX10_init 124 = .ok (.putfield 63, 3) := by decide +kernel
theorem dX10_init_127 : decode cX10_init 127 = .ok (.aload_n 0, 1) := by decide +kernel
theorem dX10_init_128 : decode cX10_init 128 = .ok (.new 67, 3) := by decide +kernel
theorem dX10_init_131 : decode cX10_init 131 = .ok (.dup, 1) := by decide +kernel
theorem dX10_init_132 : decode cX10_init 132 = .ok (.invokespecial 69, 3) := by decide +kernel
theorem dX10_init_135 : decode cX10_init 135 = .ok (.putfield 70, 3) := by decide +kernel
theorem dX10_init_138 : decode cX10_init 138 = .ok (.return_, 1) := by decide +kernel
theorem dX10_clock_0 : decode cX10_clock 0 = .ok (.iload_n 1, 1) := by decide +kernel
theorem dX10_clock_1 : decode cX10_clock 1 = .ok (.iconst 0, 1) := by decide +kernel
theorem dX10_clock_2 : decode cX10_clock 2 = .ok (.iconst 2, 1) := by decide +kernel
theorem dX10_clock_3 : decode cX10_clock 3 = .ok (.invokestatic 74, 3) := by decide +kernel
theorem dX10_clock_6 : decode cX10_clock 6 = .ok (.ifCond .eq 16, 3) := by decide +kernel
theorem dX10_clock_9 : decode cX10_clock 9 = .ok (.iload_n 2, 1) := by decide +kernel
theorem dX10_clock_10 : decode cX10_clock 10 = .ok (.sipush (-999), 3) := by decide +kernel
theorem dX10_clock_13 : decode cX10_clock 13 = .ok (.sipush 999, 3) := by decide +kernel
theorem dX10_clock_16 : decode cX10_clock 16 = .ok (.invokestatic 74, 3) := by decide +kernel
theorem dX10_clock_19 : decode cX10_clock 19 = .ok (.ifCond .ne 9, 3) := by decide +kernel
theorem dX10_clock_22 : decode cX10_clock 22 = .ok (.aload_n 0, 1) := by decide +kernel
theorem dX10_clock_23 : decode cX10_clock 23 = .ok (.iconst 1, 1) := by decide +kernel
theorem dX10_clock_24 : decode cX10_clock 24 = .ok (.invokevirtual 78, 3) := by decide +kernel
theorem dX10_clock_27 : decode cX10_clock 27 = .ok (.ireturn, 1) := by decide +kernel
theorem dX10_clock_28 : decode cX10_clock 28 = .ok (.aload_n 0, 1) := by decide +kernel
theorem dX10_clock_29 : decode cX10_clock 29 = .ok (.getfield 10, 3) := by decide +kernel
theorem dX10_clock_32 : decode cX10_clock 32 = .ok (.getfield 82, 3) := by decide +kernel
theorem dX10_clock_35 : decode cX10_clock 35 = .ok (.iload_n 1, 1) := by decide +kernel
theorem dX10_clock_36 : decode cX10_clock 36 = .ok (.iload_n 2, 1) := by decide +kernel
theorem dX10_clock_37 : decode cX10_clock 37 = .ok (.invokevirtual 85, 3) := by decide +kernel
theorem dX10_clock_40 : decode cX10_clock 40 = .ok (.ireturn, 1) := by decide +kernel
theorem dX10_bar_0 : decode cX10_bar 0 = .ok (.iload_n 1, 1) := by decide +kernel
theorem dX10_bar_1 : decode cX10_bar 1 = .ok (.iconst 0, 1) := by decide +kernel
theorem dX10_bar_2 : decode cX10_bar 2 = .ok (.iconst 2, 1) := by decide +kernel
theorem dX10_bar_3 : decode cX10_bar 3 = .ok (.invokestatic 74, 3) := by decide +kernel
theorem dX10_bar_6 : decode cX10_bar 6 = .ok (.ifCond .ne 9, 3) := by decide +kernel
theorem dX10_bar_9 : decode cX10_bar 9 = .ok (.aload_n 0, 1) := by decide +kernel
theorem dX10_bar_10 : decode cX10_bar 10 = .ok (.iconst 1, 1) := by decide +kernel
theorem dX10_bar_11 : decode cX10_bar 11 = .ok (.invokevirtual 78, 3) := by decide +kernel
theorem dX10_bar_14 : decode cX10_bar 14 = .ok (.ireturn, 1) := by decide +kernel
theorem dX10_bar_15 : decode cX10_bar 15 = .ok (.aload_n 0, 1) := by decide +kernel
theorem dX10_bar_16 : decode cX10_bar 16 = .ok (.getfield 10, 3) := by decide +kernel
theorem dX10_bar_19 : decode cX10_bar 19 = .ok (.getfield 89, 3) := by decide +kernel
theorem dX10_bar_22 : decode cX10_bar 22 = .ok (.iload_n 1, 1) := by decide +kernel
theorem dX10_bar_23 : decode cX10_bar 23 = .ok (.invokevirtual 92, 3) := by decide +kernel
theorem dX10_bar_26 : decode cX10_bar 26 = .ok (.ifCond .ne 9, 3) := by decide +kernel
theorem dX10_bar_29 : decode cX10_bar 29 = .ok (.aload_n 0, 1) := by decide +kernel
theorem dX10_bar_30 : decode cX10_bar 30 = .ok (.iconst 4, 1) := by decide +kernel
theorem dX10_bar_31 : decode cX10_bar 31 = .ok (.invokevirtual 78, 3) := by decide +kernel
theorem dX10_bar_34 : decode cX10_bar 34 = .ok (.ireturn, 1) := by decide +kernel
theorem dX10_bar_35 : decode cX10_bar 35 = .ok (.aload_n 0, 1) := by decide +kernel
theorem dX10_bar_36 : decode cX10_bar 36 = .ok (.getfield 10, 3) := by decide +kernel
theorem dX10_bar_39 : decode cX10_bar 39 = .ok (.getfield 89, 3) := by decide +kernel
theorem dX10_bar_42 : decode cX10_bar 42 = .ok (.invokevirtual 96, 3) := by decide +kernel
theorem dX10_bar_45 : decode cX10_bar 45 = .ok (.iconst 1, 1) := by decide +kernel
theorem dX10_bar_46 : decode cX10_bar 46 = .ok (.isub, 1) := by decide +kernel
theorem dX10_bar_47 : decode cX10_bar 47 = .ok (.ireturn, 1) := by decide +kernel
theorem dX10_ring_0 : decode cX10_ring 0 = .ok (.aload_n 0, 1) := by decide +kernel
theorem dX10_ring_1 : decode cX10_ring 1 = .ok (.iload_n 1, 1) := by decide +kernel
theorem dX10_ring_2 : decode cX10_ring 2 = .ok (.invokevirtual 100, 3) := by decide +kernel
theorem dX10_ring_5 : decode cX10_ring 5 = .ok (.ifCond .eq 17, 3) := by decide +kernel
theorem dX10_ring_8 : decode cX10_ring 8 = .ok (.iload_n 2, 1) := by decide +kernel
theorem dX10_ring_9 : decode cX10_ring 9 = .ok (.invokestatic 103, 3) := by decide +kernel
theorem dX10_ring_12 : decode cX10_ring 12 = .ok (.ifCond .eq 10, 3) := by decide +kernel
theorem dX10_ring_15 : decode cX10_ring 15 = .ok (.iload_n 3, 1) := by decide +kernel
theorem dX10_ring_16 : decode cX10_ring 16 = .ok (.invokestatic 106, 3) := by decide +kernel
theorem dX10_ring_19 : decode cX10_ring 19 = .ok (.ifCond .ne 9, 3) := by decide +kernel
theorem dX10_ring_22 : decode cX10_ring 22 = .ok (.aload_n 0, 1) := by decide +kernel
theorem dX10_ring_23 : decode cX10_ring 23 = .ok (.iconst 1, 1) := by decide +kernel
theorem dX10_ring_24 : decode cX10_ring 24 = .ok (.invokevirtual 78, 3) := by decide +kernel
theorem dX10_ring_27 : decode cX10_ring 27 = .ok (.ireturn, 1) := by decide +kernel
theorem dX10_ring_28 : decode cX10_ring 28 = .ok (.aload_n 0, 1) := by decide +kernel
theorem dX10_ring_29 : decode cX10_ring 29 = .ok (.getfield 10, 3) := by decide +kernel
theorem dX10_ring_32 : decode cX10_ring 32 = .ok (.iload_n 1, 1) := by decide +kernel
theorem dX10_ring_33 : decode cX10_ring 33 = .ok (.iload_n 2, 1) := by decide +kernel
theorem dX10_ring_34 : decode cX10_ring 34 = .ok (.iload_n 3, 1) := by decide +kernel
theorem dX10_ring_35 : decode cX10_ring 35 = .ok (.invokevirtual 109, 3) := by decide +kernel
theorem dX10_ring_38 : decode cX10_ring 38 = .ok (.ifCond .ne 9, 3) := by decide +kernel
theorem dX10_ring_41 : decode cX10_ring 41 = .ok (.aload_n 0, 1) := by decide +kernel
theorem dX10_ring_42 : decode cX10_ring 42 = .ok (.iconst 4, 1) := by decide +kernel
theorem dX10_ring_43 : decode cX10_ring 43 = .ok (.invokevirtual 78, 3) := by decide +kernel
theorem dX10_ring_46 : decode cX10_ring 46 = .ok (.ireturn, 1) := by decide +kernel
theorem dX10_ring_47 : decode cX10_ring 47 = .ok (.aload_n 0, 1) := by decide +kernel
theorem dX10_ring_48 : decode cX10_ring 48 = .ok (.getfield 10, 3) := by decide +kernel
theorem dX10_ring_51 : decode cX10_ring 51 = .ok (.invokevirtual 112, 3) := by decide +kernel
theorem dX10_ring_54 : decode cX10_ring 54 = .ok (.iconst 1, 1) := by decide +kernel
theorem dX10_ring_55 : decode cX10_ring 55 = .ok (.isub, 1) := by decide +kernel
theorem dX10_ring_56 : decode cX10_ring 56 = .ok (.ireturn, 1) := by decide +kernel
theorem dX10_ringOf_0 : decode cX10_ringOf 0 = .ok (.aload_n 0, 1) := by decide +kernel
theorem dX10_ringOf_1 : decode cX10_ringOf 1 = .ok (.iload_n 1, 1) := by decide +kernel
theorem dX10_ringOf_2 : decode cX10_ringOf 2 = .ok (.invokevirtual 115, 3) := by decide +kernel
theorem dX10_ringOf_5 : decode cX10_ringOf 5 = .ok (.ifCond .eq 12, 3) := by decide +kernel
theorem dX10_ringOf_8 : decode cX10_ringOf 8 = .ok (.iload_n 2, 1) := by decide +kernel
theorem dX10_ringOf_9 : decode cX10_ringOf 9 = .ok (.iconst 0, 1) := by decide +kernel
theorem dX10_ringOf_10 : decode cX10_ringOf 10 = .ok (.iconst 4, 1) := by decide +kernel
theorem dX10_ringOf_11 : decode cX10_ringOf 11 = .ok (.invokestatic 74, 3) := by decide +kernel
theorem dX10_ringOf_14 : decode cX10_ringOf 14 = .ok (.ifCond .ne 9, 3) := by decide +kernel
theorem dX10_ringOf_17 : decode cX10_ringOf 17 = .ok (.aload_n 0, 1) := by decide +kernel
theorem dX10_ringOf_18 : decode cX10_ringOf 18 = .ok (.iconst 1, 1) := by decide +kernel
theorem dX10_ringOf_19 : decode cX10_ringOf 19 = .ok (.invokevirtual 78, 3) := by decide +kernel
theorem dX10_ringOf_22 : decode cX10_ringOf 22 = .ok (.ireturn, 1) := by decide +kernel
theorem dX10_ringOf_23 : decode cX10_ringOf 23 = .ok (.iload_n 2, 1) := by decide +kernel
theorem dX10_ringOf_24 : decode cX10_ringOf 24 = .ok (.tableswitch 77 0 3 #[32, 44, 56, 68], 32) := by decide +kernel
theorem dX10_ringOf_56 : decode cX10_ringOf 56 = .ok (.aload_n 0, 1) := by decide +kernel
theorem dX10_ringOf_57 : decode cX10_ringOf 57 = .ok (.getfield 10, 3) := by decide +kernel
theorem dX10_ringOf_60 : decode cX10_ringOf 60 = .ok (.getfield 118, 3) := by decide +kernel
theorem dX10_ringOf_63 : decode cX10_ringOf 63 = .ok (.iload_n 1, 1) := by decide +kernel
theorem dX10_ringOf_64 : decode cX10_ringOf 64 = .ok (.invokevirtual 121, 3) := by decide +kernel
theorem dX10_ringOf_67 : decode cX10_ringOf 67 = .ok (.ireturn, 1) := by decide +kernel
theorem dX10_ringOf_68 : decode cX10_ringOf 68 = .ok (.aload_n 0, 1) := by decide +kernel
theorem dX10_ringOf_69 : decode cX10_ringOf 69 = .ok (.getfield 10, 3) := by decide +kernel
theorem dX10_ringOf_72 : decode cX10_ringOf 72 = .ok (.getfield 124, 3) := by decide +kernel
theorem dX10_ringOf_75 : decode cX10_ringOf 75 = .ok (.iload_n 1, 1) := by decide +kernel
theorem dX10_ringOf_76 : decode cX10_ringOf 76 = .ok (.invokevirtual 121, 3) := by decide +kernel
theorem dX10_ringOf_79 : decode cX10_ringOf 79 = .ok (.ireturn, 1) := by decide +kernel
theorem dX10_ringOf_80 : decode cX10_ringOf 80 = .ok (.aload_n 0, 1) := by decide +kernel
theorem dX10_ringOf_81 : decode cX10_ringOf 81 = .ok (.getfield 10, 3) := by decide +kernel
theorem dX10_ringOf_84 : decode cX10_ringOf 84 = .ok (.getfield 127, 3) := by decide +kernel
theorem dX10_ringOf_87 : decode cX10_ringOf 87 = .ok (.iload_n 1, 1) := by decide +kernel
theorem dX10_ringOf_88 : decode cX10_ringOf 88 = .ok (.invokevirtual 121, 3) := by decide +kernel
theorem dX10_ringOf_91 : decode cX10_ringOf 91 = .ok (.ireturn, 1) := by decide +kernel
theorem dX10_ringOf_92 : decode cX10_ringOf 92 = .ok (.aload_n 0, 1) := by decide +kernel
theorem dX10_ringOf_93 : decode cX10_ringOf 93 = .ok (.getfield 10, 3) := by decide +kernel
theorem dX10_ringOf_96 : decode cX10_ringOf 96 = .ok (.iload_n 1, 1) := by decide +kernel
theorem dX10_ringOf_97 : decode cX10_ringOf 97 = .ok (.invokevirtual 130, 3) := by decide +kernel
theorem dX10_ringOf_100 : decode cX10_ringOf 100 = .ok (.ireturn, 1) := by decide +kernel
theorem dX10_ringOf_101 : decode cX10_ringOf 101 = .ok (.aload_n 0, 1) := by decide +kernel
theorem dX10_ringOf_102 : decode cX10_ringOf 102 = .ok (.getfield 49, 3) := by decide +kernel
theorem dX10_ringOf_105 : decode cX10_ringOf 105 = .ok (.aload_n 0, 1) := by decide +kernel
theorem dX10_ringOf_106 : decode cX10_ringOf 106 = .ok (.getfield 10, 3) := by decide +kernel
theorem dX10_ringOf_109 : decode cX10_ringOf 109 = .ok (.aload_n 0, 1) := by decide +kernel
theorem dX10_ringOf_110 : decode cX10_ringOf 110 = .ok (.getfield 10, 3) := by decide +kernel
theorem dX10_ringOf_113 : decode cX10_ringOf 113 = .ok (.getfield 118, 3) := by decide +kernel
theorem dX10_ringOf_116 : decode cX10_ringOf 116 = .ok (.iload_n 1, 1) := by decide +kernel
theorem dX10_ringOf_117 : decode cX10_ringOf 117 = .ok (.invokevirtual 121, 3) := by decide +kernel
theorem dX10_ringOf_120 : decode cX10_ringOf 120 = .ok (.invokevirtual 133, 3) := by decide +kernel
theorem dX10_ringOf_123 : decode cX10_ringOf 123 = .ok (.aload_n 0, 1) := by decide +kernel
theorem dX10_ringOf_124 : decode cX10_ringOf 124 = .ok (.getfield 49, 3) := by decide +kernel
theorem dX10_ringOf_127 : decode cX10_ringOf 127 = .ok (.aload_n 0, 1) := by decide +kernel
theorem dX10_ringOf_128 : decode cX10_ringOf 128 = .ok (.getfield 49, 3) := by decide +kernel
theorem dX10_ringOf_131 : decode cX10_ringOf 131 = .ok (.iload_n 1, 1) := by decide +kernel
theorem dX10_ringOf_132 : decode cX10_ringOf 132 = .ok (.invokevirtual 137, 3) := by decide +kernel
theorem dX10_ringOf_135 : decode cX10_ringOf 135 = .ok (.invokevirtual 140, 3) := by decide +kernel
theorem dX10_ringOf_138 : decode cX10_ringOf 138 = .ok (.ireturn, 1) := by decide +kernel
theorem dX10_onTape_0 : decode cX10_onTape 0 = .ok (.aload_n 0, 1) := by decide +kernel
theorem dX10_onTape_1 : decode cX10_onTape 1 = .ok (.iload_n 1, 1) := by decide +kernel
theorem dX10_onTape_2 : decode cX10_onTape 2 = .ok (.invokevirtual 100, 3) := by decide +kernel
theorem dX10_onTape_5 : decode cX10_onTape 5 = .ok (.ifCond .eq 7, 3) := by decide +kernel
theorem dX10_onTape_8 : decode cX10_onTape 8 = .ok (.iload_n 2, 1) := by decide +kernel
theorem dX10_onTape_9 : decode cX10_onTape 9 = .ok (.ifCond .ge 9, 3) := by decide +kernel
theorem dX10_onTape_12 : decode cX10_onTape 12 = .ok (.aload_n 0, 1) := by decide +kernel
theorem dX10_onTape_13 : decode cX10_onTape 13 = .ok (.iconst 1, 1) := by decide +kernel
theorem dX10_onTape_14 : decode cX10_onTape 14 = .ok (.invokevirtual 78, 3) := by decide +kernel
theorem dX10_onTape_17 : decode cX10_onTape 17 = .ok (.ireturn, 1) := by decide +kernel
theorem dX10_onTape_18 : decode cX10_onTape 18 = .ok (.aload_n 0, 1) := by decide +kernel
theorem dX10_onTape_19 : decode cX10_onTape 19 = .ok (.getfield 49, 3) := by decide +kernel
theorem dX10_onTape_22 : decode cX10_onTape 22 = .ok (.aload_n 0, 1) := by decide +kernel
theorem dX10_onTape_23 : decode cX10_onTape 23 = .ok (.getfield 10, 3) := by decide +kernel
theorem dX10_onTape_26 : decode cX10_onTape 26 = .ok (.iload_n 1, 1) := by decide +kernel
theorem dX10_onTape_27 : decode cX10_onTape 27 = .ok (.invokevirtual 133, 3) := by decide +kernel
theorem dX10_onTape_30 : decode cX10_onTape 30 = .ok (.iload_n 2, 1) := by decide +kernel
theorem dX10_onTape_31 : decode cX10_onTape 31 = .ok (.aload_n 0, 1) := by decide +kernel
theorem dX10_onTape_32 : decode cX10_onTape 32 = .ok (.getfield 49, 3) := by decide +kernel
theorem dX10_onTape_35 : decode cX10_onTape 35 = .ok (.getfield 143, 3) := by decide +kernel
theorem dX10_onTape_38 : decode cX10_onTape 38 = .ok (.invokevirtual 96, 3) := by decide +kernel
theorem dX10_onTape_41 : decode cX10_onTape 41 = .ok (.if_icmp .lt 9, 3) := by decide +kernel
theorem dX10_onTape_44 : decode cX10_onTape 44 = .ok (.aload_n 0, 1) := by decide +kernel
theorem dX10_onTape_45 : decode cX10_onTape 45 = .ok (.iconst 2, 1) := by decide +kernel
theorem dX10_onTape_46 : decode cX10_onTape 46 = .ok (.invokevirtual 78, 3) := by decide +kernel
theorem dX10_onTape_49 : decode cX10_onTape 49 = .ok (.ireturn, 1) := by decide +kernel
theorem dX10_onTape_50 : decode cX10_onTape 50 = .ok (.aload_n 0, 1) := by decide +kernel
theorem dX10_onTape_51 : decode cX10_onTape 51 = .ok (.getfield 49, 3) := by decide +kernel
theorem dX10_onTape_54 : decode cX10_onTape 54 = .ok (.getfield 143, 3) := by decide +kernel
theorem dX10_onTape_57 : decode cX10_onTape 57 = .ok (.iload_n 2, 1) := by decide +kernel
theorem dX10_onTape_58 : decode cX10_onTape 58 = .ok (.invokevirtual 121, 3) := by decide +kernel
theorem dX10_onTape_61 : decode cX10_onTape 61 = .ok (.ireturn, 1) := by decide +kernel
theorem dX10_counts_0 : decode cX10_counts 0 = .ok (.aload_n 0, 1) := by decide +kernel
theorem dX10_counts_1 : decode cX10_counts 1 = .ok (.iload_n 1, 1) := by decide +kernel
theorem dX10_counts_2 : decode cX10_counts 2 = .ok (.invokevirtual 115, 3) := by decide +kernel
theorem dX10_counts_5 : decode cX10_counts 5 = .ok (.ifCond .eq 10, 3) := by decide +kernel
theorem dX10_counts_8 : decode cX10_counts 8 = .ok (.iload_n 2, 1) := by decide +kernel
theorem dX10_counts_9 : decode cX10_counts 9 = .ok (.invokestatic 145, 3) := by decide +kernel
theorem dX10_counts_12 : decode cX10_counts 12 = .ok (.ifCond .ne 9, 3) := by decide +kernel
theorem dX10_counts_15 : decode cX10_counts 15 = .ok (.aload_n 0, 1) := by decide +kernel
theorem dX10_counts_16 : decode cX10_counts 16 = .ok (.iconst 1, 1) := by decide +kernel
theorem dX10_counts_17 : decode cX10_counts 17 = .ok (.invokevirtual 78, 3) := by decide +kernel
theorem dX10_counts_20 : decode cX10_counts 20 = .ok (.ireturn, 1) := by decide +kernel
theorem dX10_counts_21 : decode cX10_counts 21 = .ok (.aload_n 0, 1) := by decide +kernel
theorem dX10_counts_22 : decode cX10_counts 22 = .ok (.getfield 49, 3) := by decide +kernel
theorem dX10_counts_25 : decode cX10_counts 25 = .ok (.aload_n 0, 1) := by decide +kernel
theorem dX10_counts_26 : decode cX10_counts 26 = .ok (.getfield 10, 3) := by decide +kernel
theorem dX10_counts_29 : decode cX10_counts 29 = .ok (.aload_n 0, 1) := by decide +kernel
theorem dX10_counts_30 : decode cX10_counts 30 = .ok (.getfield 10, 3) := by decide +kernel
theorem dX10_counts_33 : decode cX10_counts 33 = .ok (.getfield 118, 3) := by decide +kernel
theorem dX10_counts_36 : decode cX10_counts 36 = .ok (.iload_n 1, 1) := by decide +kernel
theorem dX10_counts_37 : decode cX10_counts 37 = .ok (.invokevirtual 121, 3) := by decide +kernel
theorem dX10_counts_40 : decode cX10_counts 40 = .ok (.invokevirtual 148, 3) := by decide +kernel
theorem dX10_counts_43 : decode cX10_counts 43 = .ok (.aload_n 0, 1) := by decide +kernel
theorem dX10_counts_44 : decode cX10_counts 44 = .ok (.getfield 49, 3) := by decide +kernel
theorem dX10_counts_47 : decode cX10_counts 47 = .ok (.aload_n 0, 1) := by decide +kernel
theorem dX10_counts_48 : decode cX10_counts 48 = .ok (.getfield 49, 3) := by decide +kernel
theorem dX10_counts_51 : decode cX10_counts 51 = .ok (.iload_n 1, 1) := by decide +kernel
theorem dX10_counts_52 : decode cX10_counts 52 = .ok (.invokevirtual 137, 3) := by decide +kernel
theorem dX10_counts_55 : decode cX10_counts 55 = .ok (.iload_n 2, 1) := by decide +kernel
theorem dX10_counts_56 : decode cX10_counts 56 = .ok (.invokevirtual 151, 3) := by decide +kernel
theorem dX10_counts_59 : decode cX10_counts 59 = .ok (.ifCond .eq 7, 3) := by decide +kernel
theorem dX10_counts_62 : decode cX10_counts 62 = .ok (.iconst 1, 1) := by decide +kernel
theorem dX10_counts_63 : decode cX10_counts 63 = .ok (.goto 4, 3) := by decide +kernel
theorem dX10_counts_66 : decode cX10_counts 66 = .ok (.iconst 0, 1) := by decide +kernel
theorem dX10_counts_67 : decode cX10_counts 67 = .ok (.ireturn, 1) := by decide +kernel
theorem dX10_rows_0 : decode cX10_rows 0 = .ok (.aload_n 0, 1) := by decide +kernel
theorem dX10_rows_1 : decode cX10_rows 1 = .ok (.iload_n 2, 1) := by decide +kernel
theorem dX10_rows_2 : decode cX10_rows 2 = .ok (.invokevirtual 155, 3) := by decide +kernel
theorem dX10_rows_5 : decode cX10_rows 5 = .ok (.astore_n 3, 1) := by decide +kernel
theorem dX10_rows_6 : decode cX10_rows 6 = .ok (.aload_n 0, 1) := by decide +kernel
theorem dX10_rows_7 : decode cX10_rows 7 = .ok (.iload_n 1, 1) := by decide +kernel
theorem dX10_rows_8 : decode cX10_rows 8 = .ok (.invokevirtual 100, 3) := by decide +kernel
theorem dX10_rows_11 : decode cX10_rows 11 = .ok (.ifCond .eq 7, 3) := by decide +kernel
theorem dX10_rows_14 : decode cX10_rows 14 = .ok (.aload_n 3, 1) := by decide +kernel
theorem dX10_rows_15 : decode cX10_rows 15 = .ok (.ifnonnull 9, 3) := by decide +kernel
theorem dX10_rows_18 : decode cX10_rows 18 = .ok (.aload_n 0, 1) := by decide +kernel
theorem dX10_rows_19 : decode cX10_rows 19 = .ok (.iconst 1, 1) := by decide +kernel
theorem dX10_rows_20 : decode cX10_rows 20 = .ok (.invokevirtual 78, 3) := by decide +kernel
theorem dX10_rows_23 : decode cX10_rows 23 = .ok (.ireturn, 1) := by decide +kernel
theorem dX10_rows_24 : decode cX10_rows 24 = .ok (.aload_n 3, 1) := by decide +kernel
theorem dX10_rows_25 : decode cX10_rows 25 = .ok (.invokevirtual 159, 3) := by decide +kernel
theorem dX10_rows_28 : decode cX10_rows 28 = .ok (.ifCond .eq 9, 3) := by decide +kernel
theorem dX10_rows_31 : decode cX10_rows 31 = .ok (.aload_n 0, 1) := by decide +kernel
theorem dX10_rows_32 : decode cX10_rows 32 = .ok (.iconst 2, 1) := by decide +kernel
theorem dX10_rows_33 : decode cX10_rows 33 = .ok (.invokevirtual 78, 3) := by decide +kernel
theorem dX10_rows_36 : decode cX10_rows 36 = .ok (.ireturn, 1) := by decide +kernel
theorem dX10_rows_37 : decode cX10_rows 37 = .ok (.iconst 0, 1) := by decide +kernel
theorem dX10_rows_38 : decode cX10_rows 38 = .ok (.istore 4, 2) := by decide +kernel
theorem dX10_rows_40 : decode cX10_rows 40 = .ok (.iload 4, 2) := by decide +kernel
theorem dX10_rows_42 : decode cX10_rows 42 = .ok (.bipush 40, 2) := by decide +kernel
theorem dX10_rows_44 : decode cX10_rows 44 = .ok (.if_icmp .ge 22, 3) := by decide +kernel
theorem dX10_rows_47 : decode cX10_rows 47 = .ok (.aload_n 0, 1) := by decide +kernel
theorem dX10_rows_48 : decode cX10_rows 48 = .ok (.iload_n 1, 1) := by decide +kernel
theorem dX10_rows_49 : decode cX10_rows 49 = .ok (.aload_n 3, 1) := by decide +kernel
theorem dX10_rows_50 : decode cX10_rows 50 = .ok (.iconst 2, 1) := by decide +kernel
theorem dX10_rows_51 : decode cX10_rows 51 = .ok (.iload 4, 2) := by decide +kernel
theorem dX10_rows_53 : decode cX10_rows 53 = .ok (.imul, 1) := by decide +kernel
theorem dX10_rows_54 : decode cX10_rows 54 = .ok (.invokevirtual 163, 3) := by decide +kernel
theorem dX10_rows_57 : decode cX10_rows 57 = .ok (.ifCond .eq 9, 3) := by decide +kernel
theorem dX10_rows_60 : decode cX10_rows 60 = .ok (.iinc 4 1, 3) := by decide +kernel
theorem dX10_rows_63 : decode cX10_rows 63 = .ok (.goto (-23), 3) := by decide +kernel
theorem dX10_rows_66 : decode cX10_rows 66 = .ok (.iload 4, 2) := by decide +kernel
theorem dX10_rows_68 : decode cX10_rows 68 = .ok (.ireturn, 1) := by decide +kernel
theorem dX10_addPair_0 : decode cX10_addPair 0 = .ok (.aload_n 2, 1) := by decide +kernel
theorem dX10_addPair_1 : decode cX10_addPair 1 = .ok (.iload_n 3, 1) := by decide +kernel
theorem dX10_addPair_2 : decode cX10_addPair 2 = .ok (.invokevirtual 167, 3) := by decide +kernel
theorem dX10_addPair_5 : decode cX10_addPair 5 = .ok (.ifCond .eq 13, 3) := by decide +kernel
theorem dX10_addPair_8 : decode cX10_addPair 8 = .ok (.aload_n 2, 1) := by decide +kernel
theorem dX10_addPair_9 : decode cX10_addPair 9 = .ok (.iload_n 3, 1) := by decide +kernel
theorem dX10_addPair_10 : decode cX10_addPair 10 = .ok (.iconst 1, 1) := by decide +kernel
theorem dX10_addPair_11 : decode cX10_addPair 11 = .ok (.iadd, 1) := by decide +kernel
theorem dX10_addPair_12 : decode cX10_addPair 12 = .ok (.invokevirtual 167, 3) := by decide +kernel
theorem dX10_addPair_15 : decode cX10_addPair 15 = .ok (.ifCond .ne 5, 3) := by decide +kernel
theorem dX10_addPair_18 : decode cX10_addPair 18 = .ok (.iconst 0, 1) := by decide +kernel
theorem dX10_addPair_19 : decode cX10_addPair 19 = .ok (.ireturn, 1) := by decide +kernel
theorem dX10_addPair_20 : decode cX10_addPair 20 = .ok (.aload_n 2, 1) := by decide +kernel
theorem dX10_addPair_21 : decode cX10_addPair 21 = .ok (.iload_n 3, 1) := by decide +kernel
theorem dX10_addPair_22 : decode cX10_addPair 22 = .ok (.invokevirtual 170, 3) := by decide +kernel
theorem dX10_addPair_25 : decode cX10_addPair 25 = .ok (.istore 4, 2) := by decide +kernel
theorem dX10_addPair_27 : decode cX10_addPair 27 = .ok (.aload_n 2, 1) := by decide +kernel
theorem dX10_addPair_28 : decode cX10_addPair 28 = .ok (.iload_n 3, 1) := by decide +kernel
theorem dX10_addPair_29 : decode cX10_addPair 29 = .ok (.iconst 1, 1) := by decide +kernel
theorem dX10_addPair_30 : decode cX10_addPair 30 = .ok (.iadd, 1) := by decide +kernel
theorem dX10_addPair_31 : decode cX10_addPair 31 = .ok (.invokevirtual 170, 3) := by decide +kernel
theorem dX10_addPair_34 : decode cX10_addPair 34 = .ok (.istore 5, 2) := by decide +kernel
theorem dX10_addPair_36 : decode cX10_addPair 36 = .ok (.iload 4, 2) := by decide +kernel
theorem dX10_addPair_38 : decode cX10_addPair 38 = .ok (.invokestatic 103, 3) := by decide +kernel
theorem dX10_addPair_41 : decode cX10_addPair 41 = .ok (.ifCond .eq 30, 3) := by decide +kernel
theorem dX10_addPair_44 : decode cX10_addPair 44 = .ok (.iload 5, 2) := by decide +kernel
theorem dX10_addPair_46 : decode cX10_addPair 46 = .ok (.invokestatic 106, 3) := by decide +kernel
theorem dX10_addPair_49 : decode cX10_addPair 49 = .ok (.ifCond .eq 22, 3) := by decide +kernel
theorem dX10_addPair_52 : decode cX10_addPair 52 = .ok (.aload_n 0, 1) := by decide +kernel
theorem dX10_addPair_53 : decode cX10_addPair 53 = .ok (.getfield 10, 3) := by decide +kernel
theorem dX10_addPair_56 : decode cX10_addPair 56 = .ok (.iload_n 1, 1) := by decide +kernel
theorem dX10_addPair_57 : decode cX10_addPair 57 = .ok (.iload 4, 2) := by decide +kernel
theorem dX10_addPair_59 : decode cX10_addPair 59 = .ok (.iload 5, 2) := by decide +kernel
theorem dX10_addPair_61 : decode cX10_addPair 61 = .ok (.invokevirtual 109, 3) := by decide +kernel
theorem dX10_addPair_64 : decode cX10_addPair 64 = .ok (.ifCond .eq 7, 3) := by decide +kernel
theorem dX10_addPair_67 : decode cX10_addPair 67 = .ok (.iconst 1, 1) := by decide +kernel
theorem dX10_addPair_68 : decode cX10_addPair 68 = .ok (.goto 4, 3) := by decide +kernel
theorem dX10_addPair_71 : decode cX10_addPair 71 = .ok (.iconst 0, 1) := by decide +kernel
theorem dX10_addPair_72 : decode cX10_addPair 72 = .ok (.ireturn, 1) := by decide +kernel
theorem dX10_feed_0 : decode cX10_feed 0 = .ok (.iload_n 3, 1) := by decide +kernel
theorem dX10_feed_1 : decode cX10_feed 1 = .ok (.iconst 1, 1) := by decide +kernel
theorem dX10_feed_2 : decode cX10_feed 2 = .ok (.bipush 8, 2) := by decide +kernel
theorem dX10_feed_4 : decode cX10_feed 4 = .ok (.invokestatic 74, 3) := by decide +kernel
theorem dX10_feed_7 : decode cX10_feed 7 = .ok (.ifCond .ne 9, 3) := by decide +kernel
theorem dX10_feed_10 : decode cX10_feed 10 = .ok (.aload_n 0, 1) := by decide +kernel
theorem dX10_feed_11 : decode cX10_feed 11 = .ok (.iconst 1, 1) := by decide +kernel
theorem dX10_feed_12 : decode cX10_feed 12 = .ok (.invokevirtual 78, 3) := by decide +kernel
theorem dX10_feed_15 : decode cX10_feed 15 = .ok (.ireturn, 1) := by decide +kernel
theorem dX10_feed_16 : decode cX10_feed 16 = .ok (.aload_n 0, 1) := by decide +kernel
theorem dX10_feed_17 : decode cX10_feed 17 = .ok (.getfield 10, 3) := by decide +kernel
theorem dX10_feed_20 : decode cX10_feed 20 = .ok (.getfield 173, 3) := by decide +kernel
theorem dX10_feed_23 : decode cX10_feed 23 = .ok (.invokevirtual 176, 3) := by decide +kernel
theorem dX10_feed_26 : decode cX10_feed 26 = .ok (.iload_n 3, 1) := by decide +kernel
theorem dX10_feed_27 : decode cX10_feed 27 = .ok (.if_icmp .ge 9, 3) := by decide +kernel
theorem dX10_feed_30 : decode cX10_feed 30 = .ok (.aload_n 0, 1) := by decide +kernel
theorem dX10_feed_31 : decode cX10_feed 31 = .ok (.iconst 4, 1) := by decide +kernel
theorem dX10_feed_32 : decode cX10_feed 32 = .ok (.invokevirtual 78, 3) := by decide +kernel
theorem dX10_feed_35 : decode cX10_feed 35 = .ok (.ireturn, 1) := by decide +kernel
theorem dX10_feed_36 : decode cX10_feed 36 = .ok (.iconst 0, 1) := by decide +kernel
theorem dX10_feed_37 : decode cX10_feed 37 = .ok (.istore 4, 2) := by decide +kernel
theorem dX10_feed_39 : decode cX10_feed 39 = .ok (.iload 4, 2) := by decide +kernel
theorem dX10_feed_41 : decode cX10_feed 41 = .ok (.iload_n 3, 1) := by decide +kernel
theorem dX10_feed_42 : decode cX10_feed 42 = .ok (.if_icmp .ge 32, 3) := by decide +kernel
theorem dX10_feed_45 : decode cX10_feed 45 = .ok (.aload_n 0, 1) := by decide +kernel
theorem dX10_feed_46 : decode cX10_feed 46 = .ok (.getfield 10, 3) := by decide +kernel
theorem dX10_feed_49 : decode cX10_feed 49 = .ok (.getfield 173, 3) := by decide +kernel
theorem dX10_feed_52 : decode cX10_feed 52 = .ok (.lload_n 1, 1) := by decide +kernel
theorem dX10_feed_53 : decode cX10_feed 53 = .ok (.bipush 8, 2) := by decide +kernel
theorem dX10_feed_55 : decode cX10_feed 55 = .ok (.iload 4, 2) := by decide +kernel
theorem dX10_feed_57 : decode cX10_feed 57 = .ok (.imul, 1) := by decide +kernel
theorem dX10_feed_58 : decode cX10_feed 58 = .ok (.lushr, 1) := by decide +kernel
theorem dX10_feed_59 : decode cX10_feed 59 = .ok (.ldc2_w 179, 3) := by decide +kernel
theorem dX10_feed_62 : decode cX10_feed 62 = .ok (.land, 1) := by decide +kernel
theorem dX10_feed_63 : decode cX10_feed 63 = .ok (.l2i, 1) := by decide +kernel
theorem dX10_feed_64 : decode cX10_feed 64 = .ok (.invokevirtual 92, 3) := by decide +kernel
theorem dX10_feed_67 : decode cX10_feed 67 = .ok (.pop, 1) := by decide +kernel
theorem dX10_feed_68 : decode cX10_feed 68 = .ok (.iinc 4 1, 3) := by decide +kernel
theorem dX10_feed_71 : decode cX10_feed 71 = .ok (.goto (-32), 3) := by decide +kernel
theorem dX10_feed_74 : decode cX10_feed 74 = .ok (.aload_n 0, 1) := by decide +kernel
theorem dX10_feed_75 : decode cX10_feed 75 = .ok (.getfield 10, 3) := by decide +kernel
theorem dX10_feed_78 : decode cX10_feed 78 = .ok (.getfield 173, 3) := by decide +kernel
theorem dX10_feed_81 : decode cX10_feed 81 = .ok (.invokevirtual 96, 3) := by decide +kernel
theorem dX10_feed_84 : decode cX10_feed 84 = .ok (.ireturn, 1) := by decide +kernel
theorem dX10_text_0 : decode cX10_text 0 = .ok (.iload_n 1, 1) := by decide +kernel
theorem dX10_text_1 : decode cX10_text 1 = .ok (.iconst 0, 1) := by decide +kernel
theorem dX10_text_2 : decode cX10_text 2 = .ok (.bipush 8, 2) := by decide +kernel
theorem dX10_text_4 : decode cX10_text 4 = .ok (.invokestatic 74, 3) := by decide +kernel
theorem dX10_text_7 : decode cX10_text 7 = .ok (.ifCond .ne 9, 3) := by decide +kernel
theorem dX10_text_10 : decode cX10_text 10 = .ok (.aload_n 0, 1) := by decide +kernel
theorem dX10_text_11 : decode cX10_text 11 = .ok (.iconst 1, 1) := by decide +kernel
theorem dX10_text_12 : decode cX10_text 12 = .ok (.invokevirtual 78, 3) := by decide +kernel
theorem dX10_text_15 : decode cX10_text 15 = .ok (.ireturn, 1) := by decide +kernel
theorem dX10_text_16 : decode cX10_text 16 = .ok (.aload_n 0, 1) := by decide +kernel
theorem dX10_text_17 : decode cX10_text 17 = .ok (.getfield 70, 3) := by decide +kernel
theorem dX10_text_20 : decode cX10_text 20 = .ok (.aload_n 0, 1) := by decide +kernel
theorem dX10_text_21 : decode cX10_text 21 = .ok (.getfield 10, 3) := by decide +kernel
theorem dX10_text_24 : decode cX10_text 24 = .ok (.getfield 173, 3) := by decide +kernel
theorem dX10_text_27 : decode cX10_text 27 = .ok (.iload_n 1, 1) := by decide +kernel
theorem dX10_text_28 : decode cX10_text 28 = .ok (.iconst 3, 1) := by decide +kernel
theorem dX10_text_29 : decode cX10_text 29 = .ok (.if_icmp .ge 8, 3) := by decide +kernel
theorem dX10_text_32 : decode cX10_text 32 = .ok (.ldc 181, 2) := by decide +kernel
theorem dX10_text_34 : decode cX10_text 34 = .ok (.goto 5, 3) := by decide +kernel
theorem dX10_text_37 : decode cX10_text 37 = .ok (.ldc 183, 2) := by decide +kernel
theorem dX10_text_39 : decode cX10_text 39 = .ok (.invokevirtual 185, 3) := by decide +kernel
theorem dX10_text_42 : decode cX10_text 42 = .ok (.istore_n 2, 1) := by decide +kernel
theorem dX10_text_43 : decode cX10_text 43 = .ok (.aload_n 0, 1) := by decide +kernel
theorem dX10_text_44 : decode cX10_text 44 = .ok (.getfield 10, 3) := by decide +kernel
theorem dX10_text_47 : decode cX10_text 47 = .ok (.getfield 173, 3) := by decide +kernel
theorem dX10_text_50 : decode cX10_text 50 = .ok (.invokevirtual 189, 3) := by decide +kernel
theorem dX10_text_53 : decode cX10_text 53 = .ok (.iload_n 2, 1) := by decide +kernel
theorem dX10_text_54 : decode cX10_text 54 = .ok (.iconst (-1), 1) := by decide +kernel
theorem dX10_text_55 : decode cX10_text 55 = .ok (.if_icmp .eq 8, 3) := by decide +kernel
theorem dX10_text_58 : decode cX10_text 58 = .ok (.bipush (-10), 2) := by decide +kernel
theorem dX10_text_60 : decode cX10_text 60 = .ok (.iload_n 2, 1) := by decide +kernel
theorem dX10_text_61 : decode cX10_text 61 = .ok (.isub, 1) := by decide +kernel
theorem dX10_text_62 : decode cX10_text 62 = .ok (.ireturn, 1) := by decide +kernel
theorem dX10_text_63 : decode cX10_text 63 = .ok (.aload_n 0, 1) := by decide +kernel
theorem dX10_text_64 : decode cX10_text 64 = .ok (.getfield 10, 3) := by decide +kernel
theorem dX10_text_67 : decode cX10_text 67 = .ok (.iload_n 1, 1) := by decide +kernel
theorem dX10_text_68 : decode cX10_text 68 = .ok (.new 192, 3) := by decide +kernel
theorem dX10_text_71 : decode cX10_text 71 = .ok (.dup, 1) := by decide +kernel
theorem dX10_text_72 : decode cX10_text 72 = .ok (.aload_n 0, 1) := by decide +kernel
theorem dX10_text_73 : decode cX10_text 73 = .ok (.getfield 70, 3) := by decide +kernel
theorem dX10_text_76 : decode cX10_text 76 = .ok (.getfield 194, 3) := by decide +kernel
theorem dX10_text_79 : decode cX10_text 79 = .ok (.invokespecial 197, 3) := by decide +kernel
theorem dX10_text_82 : decode cX10_text 82 = .ok (.invokevirtual 200, 3) := by decide +kernel
theorem dX10_text_85 : decode cX10_text 85 = .ok (.iconst 1, 1) := by decide +kernel
theorem dX10_text_86 : decode cX10_text 86 = .ok (.ireturn, 1) := by decide +kernel
theorem dX10_law_0 : decode cX10_law 0 = .ok (.iload_n 1, 1) := by decide +kernel
theorem dX10_law_1 : decode cX10_law 1 = .ok (.invokestatic 204, 3) := by decide +kernel
theorem dX10_law_4 : decode cX10_law 4 = .ok (.ifCond .ne 9, 3) := by decide +kernel
theorem dX10_law_7 : decode cX10_law 7 = .ok (.aload_n 0, 1) := by decide +kernel
theorem dX10_law_8 : decode cX10_law 8 = .ok (.iconst 1, 1) := by decide +kernel
theorem dX10_law_9 : decode cX10_law 9 = .ok (.invokevirtual 78, 3) := by decide +kernel
theorem dX10_law_12 : decode cX10_law 12 = .ok (.ireturn, 1) := by decide +kernel
theorem dX10_law_13 : decode cX10_law 13 = .ok (.aload_n 0, 1) := by decide +kernel
theorem dX10_law_14 : decode cX10_law 14 = .ok (.getfield 10, 3) := by decide +kernel
theorem dX10_law_17 : decode cX10_law 17 = .ok (.iload_n 1, 1) := by decide +kernel
theorem dX10_law_18 : decode cX10_law 18 = .ok (.iload_n 2, 1) := by decide +kernel
theorem dX10_law_19 : decode cX10_law 19 = .ok (.iload_n 3, 1) := by decide +kernel
theorem dX10_law_20 : decode cX10_law 20 = .ok (.invokevirtual 207, 3) := by decide +kernel
theorem dX10_law_23 : decode cX10_law 23 = .ok (.ireturn, 1) := by decide +kernel
theorem dX10_meets_0 : decode cX10_meets 0 = .ok (.aload_n 0, 1) := by decide +kernel
theorem dX10_meets_1 : decode cX10_meets 1 = .ok (.iload_n 1, 1) := by decide +kernel
theorem dX10_meets_2 : decode cX10_meets 2 = .ok (.invokevirtual 211, 3) := by decide +kernel
theorem dX10_meets_5 : decode cX10_meets 5 = .ok (.ifCond .eq 31, 3) := by decide +kernel
theorem dX10_meets_8 : decode cX10_meets 8 = .ok (.iload_n 2, 1) := by decide +kernel
theorem dX10_meets_9 : decode cX10_meets 9 = .ok (.invokestatic 145, 3) := by decide +kernel
theorem dX10_meets_12 : decode cX10_meets 12 = .ok (.ifCond .eq 24, 3) := by decide +kernel
theorem dX10_meets_15 : decode cX10_meets 15 = .ok (.iload_n 3, 1) := by decide +kernel
theorem dX10_meets_16 : decode cX10_meets 16 = .ok (.invokestatic 214, 3) := by decide +kernel
theorem dX10_meets_19 : decode cX10_meets 19 = .ok (.ifCond .eq 17, 3) := by decide +kernel
theorem dX10_meets_22 : decode cX10_meets 22 = .ok (.iload 4, 2) := by decide +kernel
theorem dX10_meets_24 : decode cX10_meets 24 = .ok (.sipush (-9999), 3) := by decide +kernel
theorem dX10_meets_27 : decode cX10_meets 27 = .ok (.sipush 9999, 3) := by decide +kernel
theorem dX10_meets_30 : decode cX10_meets 30 = .ok (.invokestatic 74, 3) := by decide +kernel
theorem dX10_meets_33 : decode cX10_meets 33 = .ok (.ifCond .ne 9, 3) := by decide +kernel
theorem dX10_meets_36 : decode cX10_meets 36 = .ok (.aload_n 0, 1) := by decide +kernel
theorem dX10_meets_37 : decode cX10_meets 37 = .ok (.iconst 1, 1) := by decide +kernel
theorem dX10_meets_38 : decode cX10_meets 38 = .ok (.invokevirtual 78, 3) := by decide +kernel
theorem dX10_meets_41 : decode cX10_meets 41 = .ok (.ireturn, 1) := by decide +kernel
theorem dX10_meets_42 : decode cX10_meets 42 = .ok (.aload_n 0, 1) := by decide +kernel
theorem dX10_meets_43 : decode cX10_meets 43 = .ok (.getfield 42, 3) := by decide +kernel
theorem dX10_meets_46 : decode cX10_meets 46 = .ok (.aload_n 0, 1) := by decide +kernel
theorem dX10_meets_47 : decode cX10_meets 47 = .ok (.getfield 10, 3) := by decide +kernel
theorem dX10_meets_50 : decode cX10_meets 50 = .ok (.iload_n 1, 1) := by decide +kernel
theorem dX10_meets_51 : decode cX10_meets 51 = .ok (.invokevirtual 217, 3) := by decide +kernel
theorem dX10_meets_54 : decode cX10_meets 54 = .ok (.aload_n 0, 1) := by decide +kernel
theorem dX10_meets_55 : decode cX10_meets 55 = .ok (.getfield 42, 3) := by decide +kernel
theorem dX10_meets_58 : decode cX10_meets 58 = .ok (.iload_n 2, 1) := by decide +kernel
theorem dX10_meets_59 : decode cX10_meets 59 = .ok (.invokevirtual 218, 3) := by decide +kernel
theorem dX10_meets_62 : decode cX10_meets 62 = .ok (.aload_n 0, 1) := by decide +kernel
theorem dX10_meets_63 : decode cX10_meets 63 = .ok (.getfield 42, 3) := by decide +kernel
theorem dX10_meets_66 : decode cX10_meets 66 = .ok (.iload_n 3, 1) := by decide +kernel
theorem dX10_meets_67 : decode cX10_meets 67 = .ok (.iload 4, 2) := by decide +kernel
theorem dX10_meets_69 : decode cX10_meets 69 = .ok (.invokevirtual 221, 3) := by decide +kernel
theorem dX10_meets_72 : decode cX10_meets 72 = .ok (.ireturn, 1) := by decide +kernel
theorem dX10_counting_0 : decode cX10_counting 0 = .ok (.iload_n 1, 1) := by decide +kernel
theorem dX10_counting_1 : decode cX10_counting 1 = .ok (.invokestatic 224, 3) := by decide +kernel
theorem dX10_counting_4 : decode cX10_counting 4 = .ok (.ifCond .eq 38, 3) := by decide +kernel
theorem dX10_counting_7 : decode cX10_counting 7 = .ok (.aload_n 0, 1) := by decide +kernel
theorem dX10_counting_8 : decode cX10_counting 8 = .ok (.iload_n 2, 1) := by decide +kernel
theorem dX10_counting_9 : decode cX10_counting 9 = .ok (.invokevirtual 211, 3) := by decide +kernel
theorem dX10_counting_12 : decode cX10_counting 12 = .ok (.ifCond .eq 30, 3) := by decide +kernel
theorem dX10_counting_15 : decode cX10_counting 15 = .ok (.iload_n 3, 1) := by decide +kernel
theorem dX10_counting_16 : decode cX10_counting 16 = .ok (.invokestatic 145, 3) := by decide +kernel
theorem dX10_counting_19 : decode cX10_counting 19 = .ok (.ifCond .eq 23, 3) := by decide +kernel
theorem dX10_counting_22 : decode cX10_counting 22 = .ok (.iload 4, 2) := by decide +kernel
theorem dX10_counting_24 : decode cX10_counting 24 = .ok (.invokestatic 214, 3) := by decide +kernel
theorem dX10_counting_27 : decode cX10_counting 27 = .ok (.ifCond .eq 15, 3) := by decide +kernel
theorem dX10_counting_30 : decode cX10_counting 30 = .ok (.iload 5, 2) := by decide +kernel
theorem dX10_counting_32 : decode cX10_counting 32 = .ok (.iconst 1, 1) := by decide +kernel
theorem dX10_counting_33 : decode cX10_counting 33 = .ok (.sipush 999, 3) := by decide +kernel
theorem dX10_counting_36 : decode cX10_counting 36 = .ok (.invokestatic 74, 3) := by decide +kernel
theorem dX10_counting_39 : decode cX10_counting 39 = .ok (.ifCond .ne 9, 3) := by decide +kernel
theorem dX10_counting_42 : decode cX10_counting 42 = .ok (.aload_n 0, 1) := by decide +kernel
theorem dX10_counting_43 : decode cX10_counting 43 = .ok (.iconst 1, 1) := by decide +kernel
theorem dX10_counting_44 : decode cX10_counting 44 = .ok (.invokevirtual 78, 3) := by decide +kernel
theorem dX10_counting_47 : decode cX10_counting 47 = .ok (.ireturn, 1) := by decide +kernel
theorem dX10_counting_48 : decode cX10_counting 48 = .ok (.aload_n 0, 1) := by decide +kernel
theorem dX10_counting_49 : decode cX10_counting 49 = .ok (.getfield 10, 3) := by decide +kernel
theorem dX10_counting_52 : decode cX10_counting 52 = .ok (.invokevirtual 227, 3) := by decide +kernel
theorem dX10_counting_55 : decode cX10_counting 55 = .ok (.istore 6, 2) := by decide +kernel
theorem dX10_counting_57 : decode cX10_counting 57 = .ok (.iload 6, 2) := by decide +kernel
theorem dX10_counting_59 : decode cX10_counting 59 = .ok (.bipush 12, 2) := by decide +kernel
theorem dX10_counting_61 : decode cX10_counting 61 = .ok (.if_icmp .lt 9, 3) := by decide +kernel
theorem dX10_counting_64 : decode cX10_counting 64 = .ok (.aload_n 0, 1) := by decide +kernel
theorem dX10_counting_65 : decode cX10_counting 65 = .ok (.iconst 4, 1) := by decide +kernel
theorem dX10_counting_66 : decode cX10_counting 66 = .ok (.invokevirtual 78, 3) := by decide +kernel
theorem dX10_counting_69 : decode cX10_counting 69 = .ok (.ireturn, 1) := by decide +kernel
theorem dX10_counting_70 : decode cX10_counting 70 = .ok (.aload_n 0, 1) := by decide +kernel
theorem dX10_counting_71 : decode cX10_counting 71 = .ok (.getfield 10, 3) := by decide +kernel
theorem dX10_counting_74 : decode cX10_counting 74 = .ok (.new 230, 3) := by decide +kernel
theorem dX10_counting_77 : decode cX10_counting 77 = .ok (.dup, 1) := by decide +kernel
theorem dX10_counting_78 : decode cX10_counting 78 = .ok (.iload 6, 2) := by decide +kernel
theorem dX10_counting_80 : decode cX10_counting 80 = .ok (.iload_n 1, 1) := by decide +kernel
theorem dX10_counting_81 : decode cX10_counting 81 = .ok (.iload_n 2, 1) := by decide +kernel
theorem dX10_counting_82 : decode cX10_counting 82 = .ok (.iload_n 3, 1) := by decide +kernel
theorem dX10_counting_83 : decode cX10_counting 83 = .ok (.iload 4, 2) := by decide +kernel
theorem dX10_counting_85 : decode cX10_counting 85 = .ok (.iload 5, 2) := by decide +kernel
theorem dX10_counting_87 : decode cX10_counting 87 = .ok (.invokespecial 232, 3) := by decide +kernel
theorem dX10_counting_90 : decode cX10_counting 90 = .ok (.invokevirtual 235, 3) := by decide +kernel
theorem dX10_counting_93 : decode cX10_counting 93 = .ok (.iload 6, 2) := by decide +kernel
theorem dX10_counting_95 : decode cX10_counting 95 = .ok (.ireturn, 1) := by decide +kernel
theorem dX10_as_0 : decode cX10_as 0 = .ok (.aload_n 0, 1) := by decide +kernel
theorem dX10_as_1 : decode cX10_as 1 = .ok (.getfield 10, 3) := by decide +kernel
theorem dX10_as_4 : decode cX10_as 4 = .ok (.iload_n 1, 1) := by decide +kernel
theorem dX10_as_5 : decode cX10_as 5 = .ok (.invokevirtual 239, 3) := by decide +kernel
theorem dX10_as_8 : decode cX10_as 8 = .ok (.astore_n 3, 1) := by decide +kernel
theorem dX10_as_9 : decode cX10_as 9 = .ok (.aload_n 3, 1) := by decide +kernel
theorem dX10_as_10 : decode cX10_as 10 = .ok (.ifnull 10, 3) := by decide +kernel
theorem dX10_as_13 : decode cX10_as 13 = .ok (.iload_n 2, 1) := by decide +kernel
theorem dX10_as_14 : decode cX10_as 14 = .ok (.invokestatic 224, 3) := by decide +kernel
theorem dX10_as_17 : decode cX10_as 17 = .ok (.ifCond .ne 9, 3) := by decide +kernel
theorem dX10_as_20 : decode cX10_as 20 = .ok (.aload_n 0, 1) := by decide +kernel
theorem dX10_as_21 : decode cX10_as 21 = .ok (.iconst 1, 1) := by decide +kernel
theorem dX10_as_22 : decode cX10_as 22 = .ok (.invokevirtual 78, 3) := by decide +kernel
theorem dX10_as_25 : decode cX10_as 25 = .ok (.ireturn, 1) := by decide +kernel
theorem dX10_as_26 : decode cX10_as 26 = .ok (.aload_n 3, 1) := by decide +kernel
theorem dX10_as_27 : decode cX10_as 27 = .ok (.iload_n 2, 1) := by decide +kernel
theorem dX10_as_28 : decode cX10_as 28 = .ok (.invokevirtual 243, 3) := by decide +kernel
theorem dX10_as_31 : decode cX10_as 31 = .ok (.ifCond .ne 9, 3) := by decide +kernel
theorem dX10_as_34 : decode cX10_as 34 = .ok (.aload_n 0, 1) := by decide +kernel
theorem dX10_as_35 : decode cX10_as 35 = .ok (.iconst 5, 1) := by decide +kernel
theorem dX10_as_36 : decode cX10_as 36 = .ok (.invokevirtual 78, 3) := by decide +kernel
theorem dX10_as_39 : decode cX10_as 39 = .ok (.ireturn, 1) := by decide +kernel
theorem dX10_as_40 : decode cX10_as 40 = .ok (.aload_n 3, 1) := by decide +kernel
theorem dX10_as_41 : decode cX10_as 41 = .ok (.getfield 246, 3) := by decide +kernel
theorem dX10_as_44 : decode cX10_as 44 = .ok (.ireturn, 1) := by decide +kernel
theorem dX10_gives_0 : decode cX10_gives 0 = .ok (.aload_n 0, 1) := by decide +kernel
theorem dX10_gives_1 : decode cX10_gives 1 = .ok (.getfield 10, 3) := by decide +kernel
theorem dX10_gives_4 : decode cX10_gives 4 = .ok (.iload_n 1, 1) := by decide +kernel
theorem dX10_gives_5 : decode cX10_gives 5 = .ok (.invokevirtual 239, 3) := by decide +kernel
theorem dX10_gives_8 : decode cX10_gives 8 = .ok (.astore_n 2, 1) := by decide +kernel
theorem dX10_gives_9 : decode cX10_gives 9 = .ok (.aload_n 2, 1) := by decide +kernel
theorem dX10_gives_10 : decode cX10_gives 10 = .ok (.ifnonnull 9, 3) := by decide +kernel
theorem dX10_gives_13 : decode cX10_gives 13 = .ok (.aload_n 0, 1) := by decide +kernel
theorem dX10_gives_14 : decode cX10_gives 14 = .ok (.iconst 1, 1) := by decide +kernel
theorem dX10_gives_15 : decode cX10_gives 15 = .ok (.invokevirtual 78, 3) := by decide +kernel
theorem dX10_gives_18 : decode cX10_gives 18 = .ok (.ireturn, 1) := by decide +kernel
theorem dX10_gives_19 : decode cX10_gives 19 = .ok (.aload_n 0, 1) := by decide +kernel
theorem dX10_gives_20 : decode cX10_gives 20 = .ok (.getfield 42, 3) := by decide +kernel
theorem dX10_gives_23 : decode cX10_gives 23 = .ok (.aload_n 0, 1) := by decide +kernel
theorem dX10_gives_24 : decode cX10_gives 24 = .ok (.getfield 10, 3) := by decide +kernel
theorem dX10_gives_27 : decode cX10_gives 27 = .ok (.aload_n 2, 1) := by decide +kernel
theorem dX10_gives_28 : decode cX10_gives 28 = .ok (.getfield 250, 3) := by decide +kernel
theorem dX10_gives_31 : decode cX10_gives 31 = .ok (.invokevirtual 217, 3) := by decide +kernel
theorem dX10_gives_34 : decode cX10_gives 34 = .ok (.aload_n 0, 1) := by decide +kernel
theorem dX10_gives_35 : decode cX10_gives 35 = .ok (.getfield 42, 3) := by decide +kernel
theorem dX10_gives_38 : decode cX10_gives 38 = .ok (.aload_n 2, 1) := by decide +kernel
theorem dX10_gives_39 : decode cX10_gives 39 = .ok (.aload_n 0, 1) := by decide +kernel
theorem dX10_gives_40 : decode cX10_gives 40 = .ok (.getfield 10, 3) := by decide +kernel
theorem dX10_gives_43 : decode cX10_gives 43 = .ok (.aload_n 2, 1) := by decide +kernel
theorem dX10_gives_44 : decode cX10_gives 44 = .ok (.getfield 250, 3) := by decide +kernel
theorem dX10_gives_47 : decode cX10_gives 47 = .ok (.bipush 10, 2) := by decide +kernel
theorem dX10_gives_49 : decode cX10_gives 49 = .ok (.idiv, 1) := by decide +kernel
theorem dX10_gives_50 : decode cX10_gives 50 = .ok (.invokevirtual 253, 3) := by decide +kernel
theorem dX10_gives_53 : decode cX10_gives 53 = .ok (.aload_n 0, 1) := by decide +kernel
theorem dX10_gives_54 : decode cX10_gives 54 = .ok (.getfield 10, 3) := by decide +kernel
theorem dX10_gives_57 : decode cX10_gives 57 = .ok (.aload_n 2, 1) := by decide +kernel
theorem dX10_gives_58 : decode cX10_gives 58 = .ok (.getfield 250, 3) := by decide +kernel
theorem dX10_gives_61 : decode cX10_gives 61 = .ok (.bipush 10, 2) := by decide +kernel
theorem dX10_gives_63 : decode cX10_gives 63 = .ok (.irem, 1) := by decide +kernel
theorem dX10_gives_64 : decode cX10_gives 64 = .ok (.invokevirtual 253, 3) := by decide +kernel
theorem dX10_gives_67 : decode cX10_gives 67 = .ok (.isub, 1) := by decide +kernel
theorem dX10_gives_68 : decode cX10_gives 68 = .ok (.invokevirtual 256, 3) := by decide +kernel
theorem dX10_gives_71 : decode cX10_gives 71 = .ok (.ireturn, 1) := by decide +kernel
theorem dX10_chance_0 : decode cX10_chance 0 = .ok (.aload_n 0, 1) := by decide +kernel
theorem dX10_chance_1 : decode cX10_chance 1 = .ok (.getfield 10, 3) := by decide +kernel
theorem dX10_chance_4 : decode cX10_chance 4 = .ok (.iload_n 1, 1) := by decide +kernel
theorem dX10_chance_5 : decode cX10_chance 5 = .ok (.invokevirtual 239, 3) := by decide +kernel
theorem dX10_chance_8 : decode cX10_chance 8 = .ok (.astore 4, 2) := by decide +kernel
theorem dX10_chance_10 : decode cX10_chance 10 = .ok (.aload 4, 2) := by decide +kernel
theorem dX10_chance_12 : decode cX10_chance 12 = .ok (.ifnull 17, 3) := by decide +kernel
theorem dX10_chance_15 : decode cX10_chance 15 = .ok (.iload_n 2, 1) := by decide +kernel
theorem dX10_chance_16 : decode cX10_chance 16 = .ok (.invokestatic 260, 3) := by decide +kernel
theorem dX10_chance_19 : decode cX10_chance 19 = .ok (.ifCond .eq 10, 3) := by decide +kernel
theorem dX10_chance_22 : decode cX10_chance 22 = .ok (.iload_n 3, 1) := by decide +kernel
theorem dX10_chance_23 : decode cX10_chance 23 = .ok (.invokestatic 263, 3) := by decide +kernel
theorem dX10_chance_26 : decode cX10_chance 26 = .ok (.ifCond .ne 9, 3) := by decide +kernel
theorem dX10_chance_29 : decode cX10_chance 29 = .ok (.aload_n 0, 1) := by decide +kernel
theorem dX10_chance_30 : decode cX10_chance 30 = .ok (.iconst 1, 1) := by decide +kernel
theorem dX10_chance_31 : decode cX10_chance 31 = .ok (.invokevirtual 78, 3) := by decide +kernel
theorem dX10_chance_34 : decode cX10_chance 34 = .ok (.ireturn, 1) := by decide +kernel
theorem dX10_chance_35 : decode cX10_chance 35 = .ok (.aload_n 0, 1) := by decide +kernel
theorem dX10_chance_36 : decode cX10_chance 36 = .ok (.getfield 42, 3) := by decide +kernel
theorem dX10_chance_39 : decode cX10_chance 39 = .ok (.aload_n 0, 1) := by decide +kernel
theorem dX10_chance_40 : decode cX10_chance 40 = .ok (.getfield 10, 3) := by decide +kernel
theorem dX10_chance_43 : decode cX10_chance 43 = .ok (.aload 4, 2) := by decide +kernel
theorem dX10_chance_45 : decode cX10_chance 45 = .ok (.getfield 250, 3) := by decide +kernel
theorem dX10_chance_48 : decode cX10_chance 48 = .ok (.invokevirtual 217, 3) := by decide +kernel
theorem dX10_chance_51 : decode cX10_chance 51 = .ok (.aload_n 0, 1) := by decide +kernel
theorem dX10_chance_52 : decode cX10_chance 52 = .ok (.getfield 56, 3) := by decide +kernel
theorem dX10_chance_55 : decode cX10_chance 55 = .ok (.aload_n 0, 1) := by decide +kernel
theorem dX10_chance_56 : decode cX10_chance 56 = .ok (.getfield 42, 3) := by decide +kernel
theorem dX10_chance_59 : decode cX10_chance 59 = .ok (.aload 4, 2) := by decide +kernel
theorem dX10_chance_61 : decode cX10_chance 61 = .ok (.aload 4, 2) := by decide +kernel
theorem dX10_chance_63 : decode cX10_chance 63 = .ok (.getfield 246, 3) := by decide +kernel
theorem dX10_chance_66 : decode cX10_chance 66 = .ok (.iload_n 2, 1) := by decide +kernel
theorem dX10_chance_67 : decode cX10_chance 67 = .ok (.invokevirtual 266, 3) := by decide +kernel
theorem dX10_chance_70 : decode cX10_chance 70 = .ok (.aload_n 0, 1) := by decide +kernel
theorem dX10_chance_71 : decode cX10_chance 71 = .ok (.getfield 56, 3) := by decide +kernel
theorem dX10_chance_74 : decode cX10_chance 74 = .ok (.invokevirtual 270, 3) := by decide +kernel
theorem dX10_chance_77 : decode cX10_chance 77 = .ok (.i2l, 1) := by decide +kernel
theorem dX10_chance_78 : decode cX10_chance 78 = .ok (.iload_n 2, 1) := by decide +kernel
theorem dX10_chance_79 : decode cX10_chance 79 = .ok (.i2l, 1) := by decide +kernel
theorem dX10_chance_80 : decode cX10_chance 80 = .ok (.iload_n 3, 1) := by decide +kernel
theorem dX10_chance_81 : decode cX10_chance 81 = .ok (.invokestatic 273, 3) := by decide +kernel
theorem dX10_chance_84 : decode cX10_chance 84 = .ok (.l2i, 1) := by decide +kernel
theorem dX10_chance_85 : decode cX10_chance 85 = .ok (.ireturn, 1) := by decide +kernel
theorem dX10_ahead_0 : decode cX10_ahead 0 = .ok (.aload_n 0, 1) := by decide +kernel
theorem dX10_ahead_1 : decode cX10_ahead 1 = .ok (.getfield 10, 3) := by decide +kernel
theorem dX10_ahead_4 : decode cX10_ahead 4 = .ok (.iload_n 1, 1) := by decide +kernel
theorem dX10_ahead_5 : decode cX10_ahead 5 = .ok (.invokevirtual 239, 3) := by decide +kernel
theorem dX10_ahead_8 : decode cX10_ahead 8 = .ok (.astore 4, 2) := by decide +kernel
theorem dX10_ahead_10 : decode cX10_ahead 10 = .ok (.aload 4, 2) := by decide +kernel
theorem dX10_ahead_12 : decode cX10_ahead 12 = .ok (.ifnull 20, 3) := by decide +kernel
theorem dX10_ahead_15 : decode cX10_ahead 15 = .ok (.iload_n 2, 1) := by decide +kernel
theorem dX10_ahead_16 : decode cX10_ahead 16 = .ok (.invokestatic 260, 3) := by decide +kernel
theorem dX10_ahead_19 : decode cX10_ahead 19 = .ok (.ifCond .eq 13, 3) := by decide +kernel
theorem dX10_ahead_22 : decode cX10_ahead 22 = .ok (.iload_n 3, 1) := by decide +kernel
theorem dX10_ahead_23 : decode cX10_ahead 23 = .ok (.iconst 0, 1) := by decide +kernel
theorem dX10_ahead_24 : decode cX10_ahead 24 = .ok (.bipush 100, 2) := by decide +kernel
theorem dX10_ahead_26 : decode cX10_ahead 26 = .ok (.invokestatic 74, 3) := by decide +kernel
theorem dX10_ahead_29 : decode cX10_ahead 29 = .ok (.ifCond .ne 9, 3) := by decide +kernel
theorem dX10_ahead_32 : decode cX10_ahead 32 = .ok (.aload_n 0, 1) := by decide +kernel
theorem dX10_ahead_33 : decode cX10_ahead 33 = .ok (.iconst 1, 1) := by decide +kernel
theorem dX10_ahead_34 : decode cX10_ahead 34 = .ok (.invokevirtual 78, 3) := by decide +kernel
theorem dX10_ahead_37 : decode cX10_ahead 37 = .ok (.ireturn, 1) := by decide +kernel
theorem dX10_ahead_38 : decode cX10_ahead 38 = .ok (.aload_n 0, 1) := by decide +kernel
theorem dX10_ahead_39 : decode cX10_ahead 39 = .ok (.getfield 42, 3) := by decide +kernel
theorem dX10_ahead_42 : decode cX10_ahead 42 = .ok (.aload_n 0, 1) := by decide +kernel
theorem dX10_ahead_43 : decode cX10_ahead 43 = .ok (.getfield 10, 3) := by decide +kernel
theorem dX10_ahead_46 : decode cX10_ahead 46 = .ok (.aload 4, 2) := by decide +kernel
theorem dX10_ahead_48 : decode cX10_ahead 48 = .ok (.getfield 250, 3) := by decide +kernel
theorem dX10_ahead_51 : decode cX10_ahead 51 = .ok (.invokevirtual 217, 3) := by decide +kernel
theorem dX10_ahead_54 : decode cX10_ahead 54 = .ok (.aload_n 0, 1) := by decide +kernel
theorem dX10_ahead_55 : decode cX10_ahead 55 = .ok (.getfield 56, 3) := by decide +kernel
theorem dX10_ahead_58 : decode cX10_ahead 58 = .ok (.aload_n 0, 1) := by decide +kernel
theorem dX10_ahead_59 : decode cX10_ahead 59 = .ok (.getfield 42, 3) := by decide +kernel
theorem dX10_ahead_62 : decode cX10_ahead 62 = .ok (.aload 4, 2) := by decide +kernel
theorem dX10_ahead_64 : decode cX10_ahead 64 = .ok (.aload 4, 2) := by decide +kernel
theorem dX10_ahead_66 : decode cX10_ahead 66 = .ok (.getfield 246, 3) := by decide +kernel
theorem dX10_ahead_69 : decode cX10_ahead 69 = .ok (.iload_n 2, 1) := by decide +kernel
theorem dX10_ahead_70 : decode cX10_ahead 70 = .ok (.invokevirtual 266, 3) := by decide +kernel
theorem dX10_ahead_73 : decode cX10_ahead 73 = .ok (.aload_n 0, 1) := by decide +kernel
theorem dX10_ahead_74 : decode cX10_ahead 74 = .ok (.getfield 56, 3) := by decide +kernel
theorem dX10_ahead_77 : decode cX10_ahead 77 = .ok (.iload_n 3, 1) := by decide +kernel
theorem dX10_ahead_78 : decode cX10_ahead 78 = .ok (.invokevirtual 277, 3) := by decide +kernel
theorem dX10_ahead_81 : decode cX10_ahead 81 = .ok (.ireturn, 1) := by decide +kernel
theorem dX10_line_0 : decode cX10_line 0 = .ok (.iload_n 1, 1) := by decide +kernel
theorem dX10_line_1 : decode cX10_line 1 = .ok (.invokestatic 145, 3) := by decide +kernel
theorem dX10_line_4 : decode cX10_line 4 = .ok (.ifCond .ne 9, 3) := by decide +kernel
theorem dX10_line_7 : decode cX10_line 7 = .ok (.aload_n 0, 1) := by decide +kernel
theorem dX10_line_8 : decode cX10_line 8 = .ok (.iconst 1, 1) := by decide +kernel
theorem dX10_line_9 : decode cX10_line 9 = .ok (.invokevirtual 78, 3) := by decide +kernel
theorem dX10_line_12 : decode cX10_line 12 = .ok (.ireturn, 1) := by decide +kernel
theorem dX10_line_13 : decode cX10_line 13 = .ok (.aload_n 0, 1) := by decide +kernel
theorem dX10_line_14 : decode cX10_line 14 = .ok (.getfield 10, 3) := by decide +kernel
theorem dX10_line_17 : decode cX10_line 17 = .ok (.getfield 280, 3) := by decide +kernel
theorem dX10_line_20 : decode cX10_line 20 = .ok (.iload_n 1, 1) := by decide +kernel
theorem dX10_line_21 : decode cX10_line 21 = .ok (.invokevirtual 92, 3) := by decide +kernel
theorem dX10_line_24 : decode cX10_line 24 = .ok (.ifCond .ne 9, 3) := by decide +kernel
theorem dX10_line_27 : decode cX10_line 27 = .ok (.aload_n 0, 1) := by decide +kernel
theorem dX10_line_28 : decode cX10_line 28 = .ok (.iconst 4, 1) := by decide +kernel
theorem dX10_line_29 : decode cX10_line 29 = .ok (.invokevirtual 78, 3) := by decide +kernel
theorem dX10_line_32 : decode cX10_line 32 = .ok (.ireturn, 1) := by decide +kernel
theorem dX10_line_33 : decode cX10_line 33 = .ok (.aload_n 0, 1) := by decide +kernel
theorem dX10_line_34 : decode cX10_line 34 = .ok (.getfield 10, 3) := by decide +kernel
theorem dX10_line_37 : decode cX10_line 37 = .ok (.getfield 280, 3) := by decide +kernel
theorem dX10_line_40 : decode cX10_line 40 = .ok (.invokevirtual 96, 3) := by decide +kernel
theorem dX10_line_43 : decode cX10_line 43 = .ok (.iconst 1, 1) := by decide +kernel
theorem dX10_line_44 : decode cX10_line 44 = .ok (.isub, 1) := by decide +kernel
theorem dX10_line_45 : decode cX10_line 45 = .ok (.ireturn, 1) := by decide +kernel
theorem dX10_chosen_0 : decode cX10_chosen 0 = .ok (.aload_n 0, 1) := by decide +kernel
theorem dX10_chosen_1 : decode cX10_chosen 1 = .ok (.getfield 10, 3) := by decide +kernel
theorem dX10_chosen_4 : decode cX10_chosen 4 = .ok (.iload_n 1, 1) := by decide +kernel
theorem dX10_chosen_5 : decode cX10_chosen 5 = .ok (.invokevirtual 239, 3) := by decide +kernel
theorem dX10_chosen_8 : decode cX10_chosen 8 = .ok (.astore_n 3, 1) := by decide +kernel
theorem dX10_chosen_9 : decode cX10_chosen 9 = .ok (.aload_n 3, 1) := by decide +kernel
theorem dX10_chosen_10 : decode cX10_chosen 10 = .ok (.ifnull 10, 3) := by decide +kernel
theorem dX10_chosen_13 : decode cX10_chosen 13 = .ok (.iload_n 2, 1) := by decide +kernel
theorem dX10_chosen_14 : decode cX10_chosen 14 = .ok (.invokestatic 260, 3) := by decide +kernel
theorem dX10_chosen_17 : decode cX10_chosen 17 = .ok (.ifCond .ne 9, 3) := by decide +kernel
theorem dX10_chosen_20 : decode cX10_chosen 20 = .ok (.aload_n 0, 1) := by decide +kernel
theorem dX10_chosen_21 : decode cX10_chosen 21 = .ok (.iconst 1, 1) := by decide +kernel
theorem dX10_chosen_22 : decode cX10_chosen 22 = .ok (.invokevirtual 78, 3) := by decide +kernel
theorem dX10_chosen_25 : decode cX10_chosen 25 = .ok (.ireturn, 1) := by decide +kernel
theorem dX10_chosen_26 : decode cX10_chosen 26 = .ok (.aload_n 0, 1) := by decide +kernel
theorem dX10_chosen_27 : decode cX10_chosen 27 = .ok (.getfield 10, 3) := by decide +kernel
theorem dX10_chosen_30 : decode cX10_chosen 30 = .ok (.getfield 280, 3) := by decide +kernel
theorem dX10_chosen_33 : decode cX10_chosen 33 = .ok (.invokevirtual 96, 3) := by decide +kernel
theorem dX10_chosen_36 : decode cX10_chosen 36 = .ok (.ifCond .ne 9, 3) := by decide +kernel
theorem dX10_chosen_39 : decode cX10_chosen 39 = .ok (.aload_n 0, 1) := by decide +kernel
theorem dX10_chosen_40 : decode cX10_chosen 40 = .ok (.iconst 2, 1) := by decide +kernel
theorem dX10_chosen_41 : decode cX10_chosen 41 = .ok (.invokevirtual 78, 3) := by decide +kernel
theorem dX10_chosen_44 : decode cX10_chosen 44 = .ok (.ireturn, 1) := by decide +kernel
theorem dX10_chosen_45 : decode cX10_chosen 45 = .ok (.aload_n 0, 1) := by decide +kernel
theorem dX10_chosen_46 : decode cX10_chosen 46 = .ok (.getfield 42, 3) := by decide +kernel
theorem dX10_chosen_49 : decode cX10_chosen 49 = .ok (.aload_n 0, 1) := by decide +kernel
theorem dX10_chosen_50 : decode cX10_chosen 50 = .ok (.getfield 10, 3) := by decide +kernel
theorem dX10_chosen_53 : decode cX10_chosen 53 = .ok (.aload_n 3, 1) := by decide +kernel
theorem dX10_chosen_54 : decode cX10_chosen 54 = .ok (.getfield 250, 3) := by decide +kernel
theorem dX10_chosen_57 : decode cX10_chosen 57 = .ok (.invokevirtual 217, 3) := by decide +kernel
theorem dX10_chosen_60 : decode cX10_chosen 60 = .ok (.aload_n 0, 1) := by decide +kernel
theorem dX10_chosen_61 : decode cX10_chosen 61 = .ok (.getfield 56, 3) := by decide +kernel
theorem dX10_chosen_64 : decode cX10_chosen 64 = .ok (.aload_n 0, 1) := by decide +kernel
theorem dX10_chosen_65 : decode cX10_chosen 65 = .ok (.getfield 42, 3) := by decide +kernel
theorem dX10_chosen_68 : decode cX10_chosen 68 = .ok (.aload_n 3, 1) := by decide +kernel
theorem dX10_chosen_69 : decode cX10_chosen 69 = .ok (.aload_n 0, 1) := by decide +kernel
theorem dX10_chosen_70 : decode cX10_chosen 70 = .ok (.getfield 10, 3) := by decide +kernel
theorem dX10_chosen_73 : decode cX10_chosen 73 = .ok (.getfield 280, 3) := by decide +kernel
theorem dX10_chosen_76 : decode cX10_chosen 76 = .ok (.iload_n 2, 1) := by decide +kernel
theorem dX10_chosen_77 : decode cX10_chosen 77 = .ok (.invokevirtual 283, 3) := by decide +kernel
theorem dX10_chosen_80 : decode cX10_chosen 80 = .ok (.ireturn, 1) := by decide +kernel
theorem dX10_paid_0 : decode cX10_paid 0 = .ok (.aload_n 0, 1) := by decide +kernel
theorem dX10_paid_1 : decode cX10_paid 1 = .ok (.getfield 10, 3) := by decide +kernel
theorem dX10_paid_4 : decode cX10_paid 4 = .ok (.iload_n 1, 1) := by decide +kernel
theorem dX10_paid_5 : decode cX10_paid 5 = .ok (.invokevirtual 239, 3) := by decide +kernel
theorem dX10_paid_8 : decode cX10_paid 8 = .ok (.astore 4, 2) := by decide +kernel
theorem dX10_paid_10 : decode cX10_paid 10 = .ok (.aload 4, 2) := by decide +kernel
theorem dX10_paid_12 : decode cX10_paid 12 = .ok (.ifnull 17, 3) := by decide +kernel
theorem dX10_paid_15 : decode cX10_paid 15 = .ok (.iload_n 2, 1) := by decide +kernel
theorem dX10_paid_16 : decode cX10_paid 16 = .ok (.invokestatic 260, 3) := by decide +kernel
theorem dX10_paid_19 : decode cX10_paid 19 = .ok (.ifCond .eq 10, 3) := by decide +kernel
theorem dX10_paid_22 : decode cX10_paid 22 = .ok (.iload_n 3, 1) := by decide +kernel
theorem dX10_paid_23 : decode cX10_paid 23 = .ok (.invokestatic 263, 3) := by decide +kernel
theorem dX10_paid_26 : decode cX10_paid 26 = .ok (.ifCond .ne 9, 3) := by decide +kernel
theorem dX10_paid_29 : decode cX10_paid 29 = .ok (.aload_n 0, 1) := by decide +kernel
theorem dX10_paid_30 : decode cX10_paid 30 = .ok (.iconst 1, 1) := by decide +kernel
theorem dX10_paid_31 : decode cX10_paid 31 = .ok (.invokevirtual 78, 3) := by decide +kernel
theorem dX10_paid_34 : decode cX10_paid 34 = .ok (.ireturn, 1) := by decide +kernel
theorem dX10_paid_35 : decode cX10_paid 35 = .ok (.aload_n 0, 1) := by decide +kernel
theorem dX10_paid_36 : decode cX10_paid 36 = .ok (.getfield 10, 3) := by decide +kernel
theorem dX10_paid_39 : decode cX10_paid 39 = .ok (.getfield 280, 3) := by decide +kernel
theorem dX10_paid_42 : decode cX10_paid 42 = .ok (.invokevirtual 96, 3) := by decide +kernel
theorem dX10_paid_45 : decode cX10_paid 45 = .ok (.ifCond .ne 9, 3) := by decide +kernel
theorem dX10_paid_48 : decode cX10_paid 48 = .ok (.aload_n 0, 1) := by decide +kernel
theorem dX10_paid_49 : decode cX10_paid 49 = .ok (.iconst 2, 1) := by decide +kernel
theorem dX10_paid_50 : decode cX10_paid 50 = .ok (.invokevirtual 78, 3) := by decide +kernel
theorem dX10_paid_53 : decode cX10_paid 53 = .ok (.ireturn, 1) := by decide +kernel
theorem dX10_paid_54 : decode cX10_paid 54 = .ok (.aload_n 0, 1) := by decide +kernel
theorem dX10_paid_55 : decode cX10_paid 55 = .ok (.getfield 42, 3) := by decide +kernel
theorem dX10_paid_58 : decode cX10_paid 58 = .ok (.aload_n 0, 1) := by decide +kernel
theorem dX10_paid_59 : decode cX10_paid 59 = .ok (.getfield 10, 3) := by decide +kernel
theorem dX10_paid_62 : decode cX10_paid 62 = .ok (.aload 4, 2) := by decide +kernel
theorem dX10_paid_64 : decode cX10_paid 64 = .ok (.getfield 250, 3) := by decide +kernel
theorem dX10_paid_67 : decode cX10_paid 67 = .ok (.invokevirtual 217, 3) := by decide +kernel
theorem dX10_paid_70 : decode cX10_paid 70 = .ok (.aload_n 0, 1) := by decide +kernel
theorem dX10_paid_71 : decode cX10_paid 71 = .ok (.getfield 56, 3) := by decide +kernel
theorem dX10_paid_74 : decode cX10_paid 74 = .ok (.aload_n 0, 1) := by decide +kernel
theorem dX10_paid_75 : decode cX10_paid 75 = .ok (.getfield 42, 3) := by decide +kernel
theorem dX10_paid_78 : decode cX10_paid 78 = .ok (.aload 4, 2) := by decide +kernel
theorem dX10_paid_80 : decode cX10_paid 80 = .ok (.aload_n 0, 1) := by decide +kernel
theorem dX10_paid_81 : decode cX10_paid 81 = .ok (.getfield 10, 3) := by decide +kernel
theorem dX10_paid_84 : decode cX10_paid 84 = .ok (.getfield 280, 3) := by decide +kernel
theorem dX10_paid_87 : decode cX10_paid 87 = .ok (.iload_n 2, 1) := by decide +kernel
theorem dX10_paid_88 : decode cX10_paid 88 = .ok (.invokevirtual 283, 3) := by decide +kernel
theorem dX10_paid_91 : decode cX10_paid 91 = .ok (.pop, 1) := by decide +kernel
theorem dX10_paid_92 : decode cX10_paid 92 = .ok (.aload_n 0, 1) := by decide +kernel
theorem dX10_paid_93 : decode cX10_paid 93 = .ok (.getfield 56, 3) := by decide +kernel
theorem dX10_paid_96 : decode cX10_paid 96 = .ok (.invokevirtual 287, 3) := by decide +kernel
theorem dX10_paid_99 : decode cX10_paid 99 = .ok (.i2l, 1) := by decide +kernel
theorem dX10_paid_100 : decode cX10_paid 100 = .ok (.iload_n 2, 1) := by decide +kernel
theorem dX10_paid_101 : decode cX10_paid 101 = .ok (.i2l, 1) := by decide +kernel
theorem dX10_paid_102 : decode cX10_paid 102 = .ok (.iload_n 3, 1) := by decide +kernel
theorem dX10_paid_103 : decode cX10_paid 103 = .ok (.invokestatic 273, 3) := by decide +kernel
theorem dX10_paid_106 : decode cX10_paid 106 = .ok (.l2i, 1) := by decide +kernel
theorem dX10_paid_107 : decode cX10_paid 107 = .ok (.ireturn, 1) := by decide +kernel
theorem dX10_let_0 : decode cX10_let 0 = .ok (.iload_n 1, 1) := by decide +kernel
theorem dX10_let_1 : decode cX10_let 1 = .ok (.invokestatic 103, 3) := by decide +kernel
theorem dX10_let_4 : decode cX10_let 4 = .ok (.ifCond .ne 9, 3) := by decide +kernel
theorem dX10_let_7 : decode cX10_let 7 = .ok (.aload_n 0, 1) := by decide +kernel
theorem dX10_let_8 : decode cX10_let 8 = .ok (.iconst 1, 1) := by decide +kernel
theorem dX10_let_9 : decode cX10_let 9 = .ok (.invokevirtual 78, 3) := by decide +kernel
theorem dX10_let_12 : decode cX10_let 12 = .ok (.ireturn, 1) := by decide +kernel
theorem dX10_let_13 : decode cX10_let 13 = .ok (.aload_n 0, 1) := by decide +kernel
theorem dX10_let_14 : decode cX10_let 14 = .ok (.getfield 10, 3) := by decide +kernel
theorem dX10_let_17 : decode cX10_let 17 = .ok (.getfield 290, 3) := by decide +kernel
theorem dX10_let_20 : decode cX10_let 20 = .ok (.iload_n 1, 1) := by decide +kernel
theorem dX10_let_21 : decode cX10_let 21 = .ok (.invokevirtual 92, 3) := by decide +kernel
theorem dX10_let_24 : decode cX10_let 24 = .ok (.ifCond .ne 9, 3) := by decide +kernel
theorem dX10_let_27 : decode cX10_let 27 = .ok (.aload_n 0, 1) := by decide +kernel
theorem dX10_let_28 : decode cX10_let 28 = .ok (.iconst 4, 1) := by decide +kernel
theorem dX10_let_29 : decode cX10_let 29 = .ok (.invokevirtual 78, 3) := by decide +kernel
theorem dX10_let_32 : decode cX10_let 32 = .ok (.ireturn, 1) := by decide +kernel
theorem dX10_let_33 : decode cX10_let 33 = .ok (.aload_n 0, 1) := by decide +kernel
theorem dX10_let_34 : decode cX10_let 34 = .ok (.getfield 10, 3) := by decide +kernel
theorem dX10_let_37 : decode cX10_let 37 = .ok (.getfield 290, 3) := by decide +kernel
theorem dX10_let_40 : decode cX10_let 40 = .ok (.invokevirtual 96, 3) := by decide +kernel
theorem dX10_let_43 : decode cX10_let 43 = .ok (.iconst 1, 1) := by decide +kernel
theorem dX10_let_44 : decode cX10_let 44 = .ok (.isub, 1) := by decide +kernel
theorem dX10_let_45 : decode cX10_let 45 = .ok (.ireturn, 1) := by decide +kernel
theorem dX10_seen_0 : decode cX10_seen 0 = .ok (.aload_n 0, 1) := by decide +kernel
theorem dX10_seen_1 : decode cX10_seen 1 = .ok (.iload_n 1, 1) := by decide +kernel
theorem dX10_seen_2 : decode cX10_seen 2 = .ok (.invokevirtual 100, 3) := by decide +kernel
theorem dX10_seen_5 : decode cX10_seen 5 = .ok (.ifCond .eq 17, 3) := by decide +kernel
theorem dX10_seen_8 : decode cX10_seen 8 = .ok (.iload_n 2, 1) := by decide +kernel
theorem dX10_seen_9 : decode cX10_seen 9 = .ok (.invokestatic 145, 3) := by decide +kernel
theorem dX10_seen_12 : decode cX10_seen 12 = .ok (.ifCond .eq 10, 3) := by decide +kernel
theorem dX10_seen_15 : decode cX10_seen 15 = .ok (.iload_n 3, 1) := by decide +kernel
theorem dX10_seen_16 : decode cX10_seen 16 = .ok (.invokestatic 214, 3) := by decide +kernel
theorem dX10_seen_19 : decode cX10_seen 19 = .ok (.ifCond .ne 9, 3) := by decide +kernel
theorem dX10_seen_22 : decode cX10_seen 22 = .ok (.aload_n 0, 1) := by decide +kernel
theorem dX10_seen_23 : decode cX10_seen 23 = .ok (.iconst 1, 1) := by decide +kernel
theorem dX10_seen_24 : decode cX10_seen 24 = .ok (.invokevirtual 78, 3) := by decide +kernel
theorem dX10_seen_27 : decode cX10_seen 27 = .ok (.ireturn, 1) := by decide +kernel
theorem dX10_seen_28 : decode cX10_seen 28 = .ok (.aload_n 0, 1) := by decide +kernel
theorem dX10_seen_29 : decode cX10_seen 29 = .ok (.getfield 49, 3) := by decide +kernel
theorem dX10_seen_32 : decode cX10_seen 32 = .ok (.aload_n 0, 1) := by decide +kernel
theorem dX10_seen_33 : decode cX10_seen 33 = .ok (.getfield 10, 3) := by decide +kernel
theorem dX10_seen_36 : decode cX10_seen 36 = .ok (.iload_n 1, 1) := by decide +kernel
theorem dX10_seen_37 : decode cX10_seen 37 = .ok (.invokevirtual 148, 3) := by decide +kernel
theorem dX10_seen_40 : decode cX10_seen 40 = .ok (.aload_n 0, 1) := by decide +kernel
theorem dX10_seen_41 : decode cX10_seen 41 = .ok (.getfield 49, 3) := by decide +kernel
theorem dX10_seen_44 : decode cX10_seen 44 = .ok (.iload_n 2, 1) := by decide +kernel
theorem dX10_seen_45 : decode cX10_seen 45 = .ok (.invokevirtual 293, 3) := by decide +kernel
theorem dX10_seen_48 : decode cX10_seen 48 = .ok (.aload_n 0, 1) := by decide +kernel
theorem dX10_seen_49 : decode cX10_seen 49 = .ok (.getfield 10, 3) := by decide +kernel
theorem dX10_seen_52 : decode cX10_seen 52 = .ok (.iload_n 1, 1) := by decide +kernel
theorem dX10_seen_53 : decode cX10_seen 53 = .ok (.invokevirtual 253, 3) := by decide +kernel
theorem dX10_seen_56 : decode cX10_seen 56 = .ok (.istore 4, 2) := by decide +kernel
theorem dX10_seen_58 : decode cX10_seen 58 = .ok (.iconst 0, 1) := by decide +kernel
theorem dX10_seen_59 : decode cX10_seen 59 = .ok (.istore 5, 2) := by decide +kernel
theorem dX10_seen_61 : decode cX10_seen 61 = .ok (.iconst 0, 1) := by decide +kernel
theorem dX10_seen_62 : decode cX10_seen 62 = .ok (.istore 6, 2) := by decide +kernel
theorem dX10_seen_64 : decode cX10_seen 64 = .ok (.iload 6, 2) := by decide +kernel
theorem dX10_seen_66 : decode cX10_seen 66 = .ok (.aload_n 0, 1) := by decide +kernel
theorem dX10_seen_67 : decode cX10_seen 67 = .ok (.getfield 10, 3) := by decide +kernel
theorem dX10_seen_70 : decode cX10_seen 70 = .ok (.getfield 290, 3) := by decide +kernel
theorem dX10_seen_73 : decode cX10_seen 73 = .ok (.invokevirtual 96, 3) := by decide +kernel
theorem dX10_seen_76 : decode cX10_seen 76 = .ok (.if_icmp .ge 47, 3) := by decide +kernel
theorem dX10_seen_79 : decode cX10_seen 79 = .ok (.aload_n 0, 1) := by decide +kernel
theorem dX10_seen_80 : decode cX10_seen 80 = .ok (.getfield 49, 3) := by decide +kernel
theorem dX10_seen_83 : decode cX10_seen 83 = .ok (.getfield 296, 3) := by decide +kernel
theorem dX10_seen_86 : decode cX10_seen 86 = .ok (.aload_n 0, 1) := by decide +kernel
theorem dX10_seen_87 : decode cX10_seen 87 = .ok (.getfield 10, 3) := by decide +kernel
theorem dX10_seen_90 : decode cX10_seen 90 = .ok (.getfield 290, 3) := by decide +kernel
theorem dX10_seen_93 : decode cX10_seen 93 = .ok (.iload 6, 2) := by decide +kernel
theorem dX10_seen_95 : decode cX10_seen 95 = .ok (.invokevirtual 121, 3) := by decide +kernel
theorem dX10_seen_98 : decode cX10_seen 98 = .ok (.iload 4, 2) := by decide +kernel
theorem dX10_seen_100 : decode cX10_seen 100 = .ok (.iadd, 1) := by decide +kernel
theorem dX10_seen_101 : decode cX10_seen 101 = .ok (.iload_n 3, 1) := by decide +kernel
theorem dX10_seen_102 : decode cX10_seen 102 = .ok (.invokevirtual 299, 3) := by decide +kernel
theorem dX10_seen_105 : decode cX10_seen 105 = .ok (.ifCond .eq 12, 3) := by decide +kernel
theorem dX10_seen_108 : decode cX10_seen 108 = .ok (.iload 5, 2) := by decide +kernel
theorem dX10_seen_110 : decode cX10_seen 110 = .ok (.iconst 1, 1) := by decide +kernel
theorem dX10_seen_111 : decode cX10_seen 111 = .ok (.iload 6, 2) := by decide +kernel
theorem dX10_seen_113 : decode cX10_seen 113 = .ok (.ishl, 1) := by decide +kernel
theorem dX10_seen_114 : decode cX10_seen 114 = .ok (.ior, 1) := by decide +kernel
theorem dX10_seen_115 : decode cX10_seen 115 = .ok (.istore 5, 2) := by decide +kernel
theorem dX10_seen_117 : decode cX10_seen 117 = .ok (.iinc 6 1, 3) := by decide +kernel
theorem dX10_seen_120 : decode cX10_seen 120 = .ok (.goto (-56), 3) := by decide +kernel
theorem dX10_seen_123 : decode cX10_seen 123 = .ok (.iload 5, 2) := by decide +kernel
theorem dX10_seen_125 : decode cX10_seen 125 = .ok (.ireturn, 1) := by decide +kernel
theorem dX10_wrong_0 : decode cX10_wrong 0 = .ok (.aload_n 0, 1) := by decide +kernel
theorem dX10_wrong_1 : decode cX10_wrong 1 = .ok (.iload_n 1, 1) := by decide +kernel
theorem dX10_wrong_2 : decode cX10_wrong 2 = .ok (.invokevirtual 100, 3) := by decide +kernel
theorem dX10_wrong_5 : decode cX10_wrong 5 = .ok (.ifCond .eq 17, 3) := by decide +kernel
theorem dX10_wrong_8 : decode cX10_wrong 8 = .ok (.iload_n 2, 1) := by decide +kernel
theorem dX10_wrong_9 : decode cX10_wrong 9 = .ok (.invokestatic 145, 3) := by decide +kernel
theorem dX10_wrong_12 : decode cX10_wrong 12 = .ok (.ifCond .eq 10, 3) := by decide +kernel
theorem dX10_wrong_15 : decode cX10_wrong 15 = .ok (.iload_n 3, 1) := by decide +kernel
theorem dX10_wrong_16 : decode cX10_wrong 16 = .ok (.invokestatic 214, 3) := by decide +kernel
theorem dX10_wrong_19 : decode cX10_wrong 19 = .ok (.ifCond .ne 9, 3) := by decide +kernel
theorem dX10_wrong_22 : decode cX10_wrong 22 = .ok (.aload_n 0, 1) := by decide +kernel
theorem dX10_wrong_23 : decode cX10_wrong 23 = .ok (.iconst 1, 1) := by decide +kernel
theorem dX10_wrong_24 : decode cX10_wrong 24 = .ok (.invokevirtual 78, 3) := by decide +kernel
theorem dX10_wrong_27 : decode cX10_wrong 27 = .ok (.ireturn, 1) := by decide +kernel
theorem dX10_wrong_28 : decode cX10_wrong 28 = .ok (.aload_n 0, 1) := by decide +kernel
theorem dX10_wrong_29 : decode cX10_wrong 29 = .ok (.getfield 49, 3) := by decide +kernel
theorem dX10_wrong_32 : decode cX10_wrong 32 = .ok (.aload_n 0, 1) := by decide +kernel
theorem dX10_wrong_33 : decode cX10_wrong 33 = .ok (.getfield 10, 3) := by decide +kernel
theorem dX10_wrong_36 : decode cX10_wrong 36 = .ok (.iload_n 1, 1) := by decide +kernel
theorem dX10_wrong_37 : decode cX10_wrong 37 = .ok (.invokevirtual 148, 3) := by decide +kernel
theorem dX10_wrong_40 : decode cX10_wrong 40 = .ok (.aload_n 0, 1) := by decide +kernel
theorem dX10_wrong_41 : decode cX10_wrong 41 = .ok (.getfield 49, 3) := by decide +kernel
theorem dX10_wrong_44 : decode cX10_wrong 44 = .ok (.iload_n 2, 1) := by decide +kernel
theorem dX10_wrong_45 : decode cX10_wrong 45 = .ok (.invokevirtual 293, 3) := by decide +kernel
theorem dX10_wrong_48 : decode cX10_wrong 48 = .ok (.aload_n 0, 1) := by decide +kernel
theorem dX10_wrong_49 : decode cX10_wrong 49 = .ok (.getfield 10, 3) := by decide +kernel
theorem dX10_wrong_52 : decode cX10_wrong 52 = .ok (.iload_n 1, 1) := by decide +kernel
theorem dX10_wrong_53 : decode cX10_wrong 53 = .ok (.invokevirtual 253, 3) := by decide +kernel
theorem dX10_wrong_56 : decode cX10_wrong 56 = .ok (.istore 4, 2) := by decide +kernel
theorem dX10_wrong_58 : decode cX10_wrong 58 = .ok (.iconst 0, 1) := by decide +kernel
theorem dX10_wrong_59 : decode cX10_wrong 59 = .ok (.istore 5, 2) := by decide +kernel
theorem dX10_wrong_61 : decode cX10_wrong 61 = .ok (.iconst 0, 1) := by decide +kernel
theorem dX10_wrong_62 : decode cX10_wrong 62 = .ok (.istore 6, 2) := by decide +kernel
theorem dX10_wrong_64 : decode cX10_wrong 64 = .ok (.iload 6, 2) := by decide +kernel
theorem dX10_wrong_66 : decode cX10_wrong 66 = .ok (.aload_n 0, 1) := by decide +kernel
theorem dX10_wrong_67 : decode cX10_wrong 67 = .ok (.getfield 49, 3) := by decide +kernel
theorem dX10_wrong_70 : decode cX10_wrong 70 = .ok (.getfield 296, 3) := by decide +kernel
theorem dX10_wrong_73 : decode cX10_wrong 73 = .ok (.invokevirtual 96, 3) := by decide +kernel
theorem dX10_wrong_76 : decode cX10_wrong 76 = .ok (.if_icmp .ge 41, 3) := by decide +kernel
theorem dX10_wrong_79 : decode cX10_wrong 79 = .ok (.aload_n 0, 1) := by decide +kernel
theorem dX10_wrong_80 : decode cX10_wrong 80 = .ok (.getfield 10, 3) := by decide +kernel
theorem dX10_wrong_83 : decode cX10_wrong 83 = .ok (.getfield 290, 3) := by decide +kernel
theorem dX10_wrong_86 : decode cX10_wrong 86 = .ok (.aload_n 0, 1) := by decide +kernel
theorem dX10_wrong_87 : decode cX10_wrong 87 = .ok (.getfield 49, 3) := by decide +kernel
theorem dX10_wrong_90 : decode cX10_wrong 90 = .ok (.getfield 296, 3) := by decide +kernel
theorem dX10_wrong_93 : decode cX10_wrong 93 = .ok (.iload 6, 2) := by decide +kernel
theorem dX10_wrong_95 : decode cX10_wrong 95 = .ok (.invokevirtual 121, 3) := by decide +kernel
theorem dX10_wrong_98 : decode cX10_wrong 98 = .ok (.iload 4, 2) := by decide +kernel
theorem dX10_wrong_100 : decode cX10_wrong 100 = .ok (.isub, 1) := by decide +kernel
theorem dX10_wrong_101 : decode cX10_wrong 101 = .ok (.iload_n 3, 1) := by decide +kernel
theorem dX10_wrong_102 : decode cX10_wrong 102 = .ok (.invokevirtual 299, 3) := by decide +kernel
theorem dX10_wrong_105 : decode cX10_wrong 105 = .ok (.ifCond .ne 6, 3) := by decide +kernel
theorem dX10_wrong_108 : decode cX10_wrong 108 = .ok (.iinc 5 1, 3) := by decide +kernel
theorem dX10_wrong_111 : decode cX10_wrong 111 = .ok (.iinc 6 1, 3) := by decide +kernel
theorem dX10_wrong_114 : decode cX10_wrong 114 = .ok (.goto (-50), 3) := by decide +kernel
theorem dX10_wrong_117 : decode cX10_wrong 117 = .ok (.iload 5, 2) := by decide +kernel
theorem dX10_wrong_119 : decode cX10_wrong 119 = .ok (.ireturn, 1) := by decide +kernel
theorem dX10_hours_0 : decode cX10_hours 0 = .ok (.aload_n 0, 1) := by decide +kernel
theorem dX10_hours_1 : decode cX10_hours 1 = .ok (.iload_n 1, 1) := by decide +kernel
theorem dX10_hours_2 : decode cX10_hours 2 = .ok (.invokevirtual 211, 3) := by decide +kernel
theorem dX10_hours_5 : decode cX10_hours 5 = .ok (.ifCond .eq 35, 3) := by decide +kernel
theorem dX10_hours_8 : decode cX10_hours 8 = .ok (.iload_n 2, 1) := by decide +kernel
theorem dX10_hours_9 : decode cX10_hours 9 = .ok (.iconst 0, 1) := by decide +kernel
theorem dX10_hours_10 : decode cX10_hours 10 = .ok (.ldc_w 302, 3) := by decide +kernel
theorem dX10_hours_13 : decode cX10_hours 13 = .ok (.invokestatic 74, 3) := by decide +kernel
theorem dX10_hours_16 : decode cX10_hours 16 = .ok (.ifCond .eq 24, 3) := by decide +kernel
theorem dX10_hours_19 : decode cX10_hours 19 = .ok (.iload_n 3, 1) := by decide +kernel
theorem dX10_hours_20 : decode cX10_hours 20 = .ok (.iconst 0, 1) := by decide +kernel
theorem dX10_hours_21 : decode cX10_hours 21 = .ok (.sipush 400, 3) := by decide +kernel
theorem dX10_hours_24 : decode cX10_hours 24 = .ok (.invokestatic 74, 3) := by decide +kernel
theorem dX10_hours_27 : decode cX10_hours 27 = .ok (.ifCond .eq 13, 3) := by decide +kernel
theorem dX10_hours_30 : decode cX10_hours 30 = .ok (.iload 4, 2) := by decide +kernel
theorem dX10_hours_32 : decode cX10_hours 32 = .ok (.iconst 0, 1) := by decide +kernel
theorem dX10_hours_33 : decode cX10_hours 33 = .ok (.iconst 1, 1) := by decide +kernel
theorem dX10_hours_34 : decode cX10_hours 34 = .ok (.invokestatic 74, 3) := by decide +kernel
theorem dX10_hours_37 : decode cX10_hours 37 = .ok (.ifCond .ne 9, 3) := by decide +kernel
theorem dX10_hours_40 : decode cX10_hours 40 = .ok (.aload_n 0, 1) := by decide +kernel
theorem dX10_hours_41 : decode cX10_hours 41 = .ok (.iconst 1, 1) := by decide +kernel
theorem dX10_hours_42 : decode cX10_hours 42 = .ok (.invokevirtual 78, 3) := by decide +kernel
theorem dX10_hours_45 : decode cX10_hours 45 = .ok (.ireturn, 1) := by decide +kernel
theorem dX10_hours_46 : decode cX10_hours 46 = .ok (.aload_n 0, 1) := by decide +kernel
theorem dX10_hours_47 : decode cX10_hours 47 = .ok (.getfield 42, 3) := by decide +kernel
theorem dX10_hours_50 : decode cX10_hours 50 = .ok (.aload_n 0, 1) := by decide +kernel
theorem dX10_hours_51 : decode cX10_hours 51 = .ok (.getfield 10, 3) := by decide +kernel
theorem dX10_hours_54 : decode cX10_hours 54 = .ok (.iload_n 1, 1) := by decide +kernel
theorem dX10_hours_55 : decode cX10_hours 55 = .ok (.invokevirtual 217, 3) := by decide +kernel
theorem dX10_hours_58 : decode cX10_hours 58 = .ok (.aload_n 0, 1) := by decide +kernel
theorem dX10_hours_59 : decode cX10_hours 59 = .ok (.getfield 42, 3) := by decide +kernel
theorem dX10_hours_62 : decode cX10_hours 62 = .ok (.iload_n 2, 1) := by decide +kernel
theorem dX10_hours_63 : decode cX10_hours 63 = .ok (.sipush 1000, 3) := by decide +kernel
theorem dX10_hours_66 : decode cX10_hours 66 = .ok (.irem, 1) := by decide +kernel
theorem dX10_hours_67 : decode cX10_hours 67 = .ok (.invokevirtual 218, 3) := by decide +kernel
theorem dX10_hours_70 : decode cX10_hours 70 = .ok (.aload_n 0, 1) := by decide +kernel
theorem dX10_hours_71 : decode cX10_hours 71 = .ok (.getfield 42, 3) := by decide +kernel
theorem dX10_hours_74 : decode cX10_hours 74 = .ok (.iload_n 2, 1) := by decide +kernel
theorem dX10_hours_75 : decode cX10_hours 75 = .ok (.sipush 1000, 3) := by decide +kernel
theorem dX10_hours_78 : decode cX10_hours 78 = .ok (.idiv, 1) := by decide +kernel
theorem dX10_hours_79 : decode cX10_hours 79 = .ok (.iload_n 3, 1) := by decide +kernel
theorem dX10_hours_80 : decode cX10_hours 80 = .ok (.invokevirtual 303, 3) := by decide +kernel
theorem dX10_hours_83 : decode cX10_hours 83 = .ok (.iconst 0, 1) := by decide +kernel
theorem dX10_hours_84 : decode cX10_hours 84 = .ok (.istore 5, 2) := by decide +kernel
theorem dX10_hours_86 : decode cX10_hours 86 = .ok (.iconst 1, 1) := by decide +kernel
theorem dX10_hours_87 : decode cX10_hours 87 = .ok (.istore 6, 2) := by decide +kernel
theorem dX10_hours_89 : decode cX10_hours 89 = .ok (.iload 6, 2) := by decide +kernel
theorem dX10_hours_91 : decode cX10_hours 91 = .ok (.iload_n 3, 1) := by decide +kernel
theorem dX10_hours_92 : decode cX10_hours 92 = .ok (.if_icmp .gt 75, 3) := by decide +kernel
theorem dX10_hours_95 : decode cX10_hours 95 = .ok (.aload_n 0, 1) := by decide +kernel
theorem dX10_hours_96 : decode cX10_hours 96 = .ok (.getfield 42, 3) := by decide +kernel
theorem dX10_hours_99 : decode cX10_hours 99 = .ok (.iload 6, 2) := by decide +kernel
theorem dX10_hours_101 : decode cX10_hours 101 = .ok (.ineg, 1) := by decide +kernel
theorem dX10_hours_102 : decode cX10_hours 102 = .ok (.iload_n 3, 1) := by decide +kernel
theorem dX10_hours_103 : decode cX10_hours 103 = .ok (.invokevirtual 306, 3) := by decide +kernel
theorem dX10_hours_106 : decode cX10_hours 106 = .ok (.aload_n 0, 1) := by decide +kernel
theorem dX10_hours_107 : decode cX10_hours 107 = .ok (.getfield 42, 3) := by decide +kernel
theorem dX10_hours_110 : decode cX10_hours 110 = .ok (.iload 5, 2) := by decide +kernel
theorem dX10_hours_112 : decode cX10_hours 112 = .ok (.iload_n 3, 1) := by decide +kernel
theorem dX10_hours_113 : decode cX10_hours 113 = .ok (.invokevirtual 306, 3) := by decide +kernel
theorem dX10_hours_116 : decode cX10_hours 116 = .ok (.if_icmp .le 9, 3) := by decide +kernel
theorem dX10_hours_119 : decode cX10_hours 119 = .ok (.iload 6, 2) := by decide +kernel
theorem dX10_hours_121 : decode cX10_hours 121 = .ok (.ineg, 1) := by decide +kernel
theorem dX10_hours_122 : decode cX10_hours 122 = .ok (.goto 5, 3) := by decide +kernel
theorem dX10_hours_125 : decode cX10_hours 125 = .ok (.iload 5, 2) := by decide +kernel
theorem dX10_hours_127 : decode cX10_hours 127 = .ok (.istore 5, 2) := by decide +kernel
theorem dX10_hours_129 : decode cX10_hours 129 = .ok (.aload_n 0, 1) := by decide +kernel
theorem dX10_hours_130 : decode cX10_hours 130 = .ok (.getfield 42, 3) := by decide +kernel
theorem dX10_hours_133 : decode cX10_hours 133 = .ok (.iload 6, 2) := by decide +kernel
theorem dX10_hours_135 : decode cX10_hours 135 = .ok (.iload_n 3, 1) := by decide +kernel
theorem dX10_hours_136 : decode cX10_hours 136 = .ok (.invokevirtual 306, 3) := by decide +kernel
theorem dX10_hours_139 : decode cX10_hours 139 = .ok (.aload_n 0, 1) := by decide +kernel
theorem dX10_hours_140 : decode cX10_hours 140 = .ok (.getfield 42, 3) := by decide +kernel
theorem dX10_hours_143 : decode cX10_hours 143 = .ok (.iload 5, 2) := by decide +kernel
theorem dX10_hours_145 : decode cX10_hours 145 = .ok (.iload_n 3, 1) := by decide +kernel
theorem dX10_hours_146 : decode cX10_hours 146 = .ok (.invokevirtual 306, 3) := by decide +kernel
theorem dX10_hours_149 : decode cX10_hours 149 = .ok (.if_icmp .le 8, 3) := by decide +kernel
theorem dX10_hours_152 : decode cX10_hours 152 = .ok (.iload 6, 2) := by decide +kernel
theorem dX10_hours_154 : decode cX10_hours 154 = .ok (.goto 5, 3) := by decide +kernel
theorem dX10_hours_157 : decode cX10_hours 157 = .ok (.iload 5, 2) := by decide +kernel
theorem dX10_hours_159 : decode cX10_hours 159 = .ok (.istore 5, 2) := by decide +kernel
theorem dX10_hours_161 : decode cX10_hours 161 = .ok (.iinc 6 1, 3) := by decide +kernel
theorem dX10_hours_164 : decode cX10_hours 164 = .ok (.goto (-75), 3) := by decide +kernel
theorem dX10_hours_167 : decode cX10_hours 167 = .ok (.iload 4, 2) := by decide +kernel
theorem dX10_hours_169 : decode cX10_hours 169 = .ok (.ifCond .ne 8, 3) := by decide +kernel
theorem dX10_hours_172 : decode cX10_hours 172 = .ok (.iload 5, 2) := by decide +kernel
theorem dX10_hours_174 : decode cX10_hours 174 = .ok (.goto 13, 3) := by decide +kernel
theorem dX10_hours_177 : decode cX10_hours 177 = .ok (.aload_n 0, 1) := by decide +kernel
theorem dX10_hours_178 : decode cX10_hours 178 = .ok (.getfield 42, 3) := by decide +kernel
theorem dX10_hours_181 : decode cX10_hours 181 = .ok (.iload 5, 2) := by decide +kernel
theorem dX10_hours_183 : decode cX10_hours 183 = .ok (.iload_n 3, 1) := by decide +kernel
theorem dX10_hours_184 : decode cX10_hours 184 = .ok (.invokevirtual 306, 3) := by decide +kernel
theorem dX10_hours_187 : decode cX10_hours 187 = .ok (.ireturn, 1) := by decide +kernel
theorem dX10_spread_0 : decode cX10_spread 0 = .ok (.aload_n 0, 1) := by decide +kernel
theorem dX10_spread_1 : decode cX10_spread 1 = .ok (.iload_n 1, 1) := by decide +kernel
theorem dX10_spread_2 : decode cX10_spread 2 = .ok (.invokevirtual 100, 3) := by decide +kernel
theorem dX10_spread_5 : decode cX10_spread 5 = .ok (.ifCond .eq 17, 3) := by decide +kernel
theorem dX10_spread_8 : decode cX10_spread 8 = .ok (.iload_n 2, 1) := by decide +kernel
theorem dX10_spread_9 : decode cX10_spread 9 = .ok (.invokestatic 145, 3) := by decide +kernel
theorem dX10_spread_12 : decode cX10_spread 12 = .ok (.ifCond .eq 10, 3) := by decide +kernel
theorem dX10_spread_15 : decode cX10_spread 15 = .ok (.iload_n 3, 1) := by decide +kernel
theorem dX10_spread_16 : decode cX10_spread 16 = .ok (.invokestatic 309, 3) := by decide +kernel
theorem dX10_spread_19 : decode cX10_spread 19 = .ok (.ifCond .ne 9, 3) := by decide +kernel
theorem dX10_spread_22 : decode cX10_spread 22 = .ok (.aload_n 0, 1) := by decide +kernel
theorem dX10_spread_23 : decode cX10_spread 23 = .ok (.iconst 1, 1) := by decide +kernel
theorem dX10_spread_24 : decode cX10_spread 24 = .ok (.invokevirtual 78, 3) := by decide +kernel
theorem dX10_spread_27 : decode cX10_spread 27 = .ok (.ireturn, 1) := by decide +kernel
theorem dX10_spread_28 : decode cX10_spread 28 = .ok (.aload_n 0, 1) := by decide +kernel
theorem dX10_spread_29 : decode cX10_spread 29 = .ok (.getfield 49, 3) := by decide +kernel
theorem dX10_spread_32 : decode cX10_spread 32 = .ok (.aload_n 0, 1) := by decide +kernel
theorem dX10_spread_33 : decode cX10_spread 33 = .ok (.getfield 10, 3) := by decide +kernel
theorem dX10_spread_36 : decode cX10_spread 36 = .ok (.iload_n 1, 1) := by decide +kernel
theorem dX10_spread_37 : decode cX10_spread 37 = .ok (.invokevirtual 148, 3) := by decide +kernel
theorem dX10_spread_40 : decode cX10_spread 40 = .ok (.aload_n 0, 1) := by decide +kernel
theorem dX10_spread_41 : decode cX10_spread 41 = .ok (.getfield 49, 3) := by decide +kernel
theorem dX10_spread_44 : decode cX10_spread 44 = .ok (.iload_n 2, 1) := by decide +kernel
theorem dX10_spread_45 : decode cX10_spread 45 = .ok (.invokevirtual 293, 3) := by decide +kernel
theorem dX10_spread_48 : decode cX10_spread 48 = .ok (.aload_n 0, 1) := by decide +kernel
theorem dX10_spread_49 : decode cX10_spread 49 = .ok (.getfield 49, 3) := by decide +kernel
theorem dX10_spread_52 : decode cX10_spread 52 = .ok (.iload_n 3, 1) := by decide +kernel
theorem dX10_spread_53 : decode cX10_spread 53 = .ok (.invokevirtual 312, 3) := by decide +kernel
theorem dX10_spread_56 : decode cX10_spread 56 = .ok (.ireturn, 1) := by decide +kernel
theorem dX10_stars_0 : decode cX10_stars 0 = .ok (.aload_n 0, 1) := by decide +kernel
theorem dX10_stars_1 : decode cX10_stars 1 = .ok (.iload_n 1, 1) := by decide +kernel
theorem dX10_stars_2 : decode cX10_stars 2 = .ok (.invokevirtual 100, 3) := by decide +kernel
theorem dX10_stars_5 : decode cX10_stars 5 = .ok (.ifCond .eq 19, 3) := by decide +kernel
theorem dX10_stars_8 : decode cX10_stars 8 = .ok (.iload_n 2, 1) := by decide +kernel
theorem dX10_stars_9 : decode cX10_stars 9 = .ok (.invokestatic 145, 3) := by decide +kernel
theorem dX10_stars_12 : decode cX10_stars 12 = .ok (.ifCond .eq 12, 3) := by decide +kernel
theorem dX10_stars_15 : decode cX10_stars 15 = .ok (.iload_n 3, 1) := by decide +kernel
theorem dX10_stars_16 : decode cX10_stars 16 = .ok (.iload 4, 2) := by decide +kernel
theorem dX10_stars_18 : decode cX10_stars 18 = .ok (.invokestatic 315, 3) := by decide +kernel
theorem dX10_stars_21 : decode cX10_stars 21 = .ok (.ifCond .ne 9, 3) := by decide +kernel
theorem dX10_stars_24 : decode cX10_stars 24 = .ok (.aload_n 0, 1) := by decide +kernel
theorem dX10_stars_25 : decode cX10_stars 25 = .ok (.iconst 1, 1) := by decide +kernel
theorem dX10_stars_26 : decode cX10_stars 26 = .ok (.invokevirtual 78, 3) := by decide +kernel
theorem dX10_stars_29 : decode cX10_stars 29 = .ok (.ireturn, 1) := by decide +kernel
theorem dX10_stars_30 : decode cX10_stars 30 = .ok (.aload_n 0, 1) := by decide +kernel
theorem dX10_stars_31 : decode cX10_stars 31 = .ok (.getfield 49, 3) := by decide +kernel
theorem dX10_stars_34 : decode cX10_stars 34 = .ok (.aload_n 0, 1) := by decide +kernel
theorem dX10_stars_35 : decode cX10_stars 35 = .ok (.getfield 10, 3) := by decide +kernel
theorem dX10_stars_38 : decode cX10_stars 38 = .ok (.iload_n 1, 1) := by decide +kernel
theorem dX10_stars_39 : decode cX10_stars 39 = .ok (.invokevirtual 148, 3) := by decide +kernel
theorem dX10_stars_42 : decode cX10_stars 42 = .ok (.aload_n 0, 1) := by decide +kernel
theorem dX10_stars_43 : decode cX10_stars 43 = .ok (.getfield 49, 3) := by decide +kernel
theorem dX10_stars_46 : decode cX10_stars 46 = .ok (.iload_n 2, 1) := by decide +kernel
theorem dX10_stars_47 : decode cX10_stars 47 = .ok (.invokevirtual 293, 3) := by decide +kernel
theorem dX10_stars_50 : decode cX10_stars 50 = .ok (.iload_n 3, 1) := by decide +kernel
theorem dX10_stars_51 : decode cX10_stars 51 = .ok (.istore 5, 2) := by decide +kernel
theorem dX10_stars_53 : decode cX10_stars 53 = .ok (.aload_n 0, 1) := by decide +kernel
theorem dX10_stars_54 : decode cX10_stars 54 = .ok (.getfield 49, 3) := by decide +kernel
theorem dX10_stars_57 : decode cX10_stars 57 = .ok (.iload_n 3, 1) := by decide +kernel
theorem dX10_stars_58 : decode cX10_stars 58 = .ok (.invokevirtual 312, 3) := by decide +kernel
theorem dX10_stars_61 : decode cX10_stars 61 = .ok (.istore 6, 2) := by decide +kernel
theorem dX10_stars_63 : decode cX10_stars 63 = .ok (.iload_n 3, 1) := by decide +kernel
theorem dX10_stars_64 : decode cX10_stars 64 = .ok (.iconst 1, 1) := by decide +kernel
theorem dX10_stars_65 : decode cX10_stars 65 = .ok (.iadd, 1) := by decide +kernel
theorem dX10_stars_66 : decode cX10_stars 66 = .ok (.istore 7, 2) := by decide +kernel
theorem dX10_stars_68 : decode cX10_stars 68 = .ok (.iload 7, 2) := by decide +kernel
theorem dX10_stars_70 : decode cX10_stars 70 = .ok (.iload 4, 2) := by decide +kernel
theorem dX10_stars_72 : decode cX10_stars 72 = .ok (.if_icmp .gt 35, 3) := by decide +kernel
theorem dX10_stars_75 : decode cX10_stars 75 = .ok (.aload_n 0, 1) := by decide +kernel
theorem dX10_stars_76 : decode cX10_stars 76 = .ok (.getfield 49, 3) := by decide +kernel
theorem dX10_stars_79 : decode cX10_stars 79 = .ok (.iload 7, 2) := by decide +kernel
theorem dX10_stars_81 : decode cX10_stars 81 = .ok (.invokevirtual 312, 3) := by decide +kernel
