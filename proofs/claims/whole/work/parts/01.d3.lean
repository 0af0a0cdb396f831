theorem dX11_seen_23 : decode cX11_seen 23 = .ok (.iconst 1, 1) := by decide +kernel
theorem dX11_seen_24 : decode cX11_seen 24 = .ok (.invokevirtual 73, 3) := by decide +kernel
theorem dX11_seen_27 : decode cX11_seen 27 = .ok (.ireturn, 1) := by decide +kernel
theorem dX11_seen_28 : decode cX11_seen 28 = .ok (.aload_n 0, 1) := by decide +kernel
theorem dX11_seen_29 : decode cX11_seen 29 = .ok (.invokevirtual 120, 3) := by decide +kernel
theorem dX11_seen_32 : decode cX11_seen 32 = .ok (.iconst 0, 1) := by decide +kernel
theorem dX11_seen_33 : decode cX11_seen 33 = .ok (.istore 4, 2) := by decide +kernel
theorem dX11_seen_35 : decode cX11_seen 35 = .ok (.iconst 0, 1) := by decide +kernel
theorem dX11_seen_36 : decode cX11_seen 36 = .ok (.istore 5, 2) := by decide +kernel
theorem dX11_seen_38 : decode cX11_seen 38 = .ok (.iload 5, 2) := by decide +kernel
theorem dX11_seen_40 : decode cX11_seen 40 = .ok (.aload_n 0, 1) := by decide +kernel
theorem dX11_seen_41 : decode cX11_seen 41 = .ok (.getfield 9, 3) := by decide +kernel
theorem dX11_seen_44 : decode cX11_seen 44 = .ok (.iconst 4, 1) := by decide +kernel
theorem dX11_seen_45 : decode cX11_seen 45 = .ok (.iaload, 1) := by decide +kernel
theorem dX11_seen_46 : decode cX11_seen 46 = .ok (.if_icmp .ge 65, 3) := by decide +kernel
theorem dX11_seen_49 : decode cX11_seen 49 = .ok (.iconst 0, 1) := by decide +kernel
theorem dX11_seen_50 : decode cX11_seen 50 = .ok (.istore 6, 2) := by decide +kernel
theorem dX11_seen_52 : decode cX11_seen 52 = .ok (.iload 6, 2) := by decide +kernel
theorem dX11_seen_54 : decode cX11_seen 54 = .ok (.aload_n 0, 1) := by decide +kernel
theorem dX11_seen_55 : decode cX11_seen 55 = .ok (.getfield 9, 3) := by decide +kernel
theorem dX11_seen_58 : decode cX11_seen 58 = .ok (.iconst 1, 1) := by decide +kernel
theorem dX11_seen_59 : decode cX11_seen 59 = .ok (.iaload, 1) := by decide +kernel
theorem dX11_seen_60 : decode cX11_seen 60 = .ok (.if_icmp .ge 45, 3) := by decide +kernel
theorem dX11_seen_63 : decode cX11_seen 63 = .ok (.iload 4, 2) := by decide +kernel
theorem dX11_seen_65 : decode cX11_seen 65 = .ok (.aload_n 0, 1) := by decide +kernel
theorem dX11_seen_66 : decode cX11_seen 66 = .ok (.iload 6, 2) := by decide +kernel
theorem dX11_seen_68 : decode cX11_seen 68 = .ok (.iload_n 1, 1) := by decide +kernel
theorem dX11_seen_69 : decode cX11_seen 69 = .ok (.iload_n 2, 1) := by decide +kernel
theorem dX11_seen_70 : decode cX11_seen 70 = .ok (.invokevirtual 123, 3) := by decide +kernel
theorem dX11_seen_73 : decode cX11_seen 73 = .ok (.ifCond .eq 22, 3) := by decide +kernel
theorem dX11_seen_76 : decode cX11_seen 76 = .ok (.aload_n 0, 1) := by decide +kernel
theorem dX11_seen_77 : decode cX11_seen 77 = .ok (.iload 6, 2) := by decide +kernel
theorem dX11_seen_79 : decode cX11_seen 79 = .ok (.iload 5, 2) := by decide +kernel
theorem dX11_seen_81 : decode cX11_seen 81 = .ok (.iload_n 3, 1) := by decide +kernel
theorem dX11_seen_82 : decode cX11_seen 82 = .ok (.invokevirtual 273, 3) := by decide +kernel
theorem dX11_seen_85 : decode cX11_seen 85 = .ok (.ifCond .eq 10, 3) := by decide +kernel
theorem dX11_seen_88 : decode cX11_seen 88 = .ok (.iconst 1, 1) := by decide +kernel
theorem dX11_seen_89 : decode cX11_seen 89 = .ok (.iload 5, 2) := by decide +kernel
theorem dX11_seen_91 : decode cX11_seen 91 = .ok (.ishl, 1) := by decide +kernel
theorem dX11_seen_92 : decode cX11_seen 92 = .ok (.goto 4, 3) := by decide +kernel
theorem dX11_seen_95 : decode cX11_seen 95 = .ok (.iconst 0, 1) := by decide +kernel
theorem dX11_seen_96 : decode cX11_seen 96 = .ok (.ior, 1) := by decide +kernel
theorem dX11_seen_97 : decode cX11_seen 97 = .ok (.istore 4, 2) := by decide +kernel
theorem dX11_seen_99 : decode cX11_seen 99 = .ok (.iinc 6 1, 3) := by decide +kernel
theorem dX11_seen_102 : decode cX11_seen 102 = .ok (.goto (-50), 3) := by decide +kernel
theorem dX11_seen_105 : decode cX11_seen 105 = .ok (.iinc 5 1, 3) := by decide +kernel
theorem dX11_seen_108 : decode cX11_seen 108 = .ok (.goto (-70), 3) := by decide +kernel
theorem dX11_seen_111 : decode cX11_seen 111 = .ok (.iload 4, 2) := by decide +kernel
theorem dX11_seen_113 : decode cX11_seen 113 = .ok (.ireturn, 1) := by decide +kernel
theorem dX11_wrong_0 : decode cX11_wrong 0 = .ok (.aload_n 0, 1) := by decide +kernel
theorem dX11_wrong_1 : decode cX11_wrong 1 = .ok (.iload_n 1, 1) := by decide +kernel
theorem dX11_wrong_2 : decode cX11_wrong 2 = .ok (.invokevirtual 65, 3) := by decide +kernel
theorem dX11_wrong_5 : decode cX11_wrong 5 = .ok (.ifCond .eq 17, 3) := by decide +kernel
theorem dX11_wrong_8 : decode cX11_wrong 8 = .ok (.iload_n 2, 1) := by decide +kernel
theorem dX11_wrong_9 : decode cX11_wrong 9 = .ok (.invokestatic 117, 3) := by decide +kernel
theorem dX11_wrong_12 : decode cX11_wrong 12 = .ok (.ifCond .eq 10, 3) := by decide +kernel
theorem dX11_wrong_15 : decode cX11_wrong 15 = .ok (.iload_n 3, 1) := by decide +kernel
theorem dX11_wrong_16 : decode cX11_wrong 16 = .ok (.invokestatic 134, 3) := by decide +kernel
theorem dX11_wrong_19 : decode cX11_wrong 19 = .ok (.ifCond .ne 9, 3) := by decide +kernel
theorem dX11_wrong_22 : decode cX11_wrong 22 = .ok (.aload_n 0, 1) := by decide +kernel
theorem dX11_wrong_23 : decode cX11_wrong 23 = .ok (.iconst 1, 1) := by decide +kernel
theorem dX11_wrong_24 : decode cX11_wrong 24 = .ok (.invokevirtual 73, 3) := by decide +kernel
theorem dX11_wrong_27 : decode cX11_wrong 27 = .ok (.ireturn, 1) := by decide +kernel
theorem dX11_wrong_28 : decode cX11_wrong 28 = .ok (.aload_n 0, 1) := by decide +kernel
theorem dX11_wrong_29 : decode cX11_wrong 29 = .ok (.invokevirtual 120, 3) := by decide +kernel
theorem dX11_wrong_32 : decode cX11_wrong 32 = .ok (.iconst 0, 1) := by decide +kernel
theorem dX11_wrong_33 : decode cX11_wrong 33 = .ok (.istore 4, 2) := by decide +kernel
theorem dX11_wrong_35 : decode cX11_wrong 35 = .ok (.iconst 0, 1) := by decide +kernel
theorem dX11_wrong_36 : decode cX11_wrong 36 = .ok (.istore 5, 2) := by decide +kernel
theorem dX11_wrong_38 : decode cX11_wrong 38 = .ok (.iload 5, 2) := by decide +kernel
theorem dX11_wrong_40 : decode cX11_wrong 40 = .ok (.aload_n 0, 1) := by decide +kernel
theorem dX11_wrong_41 : decode cX11_wrong 41 = .ok (.getfield 9, 3) := by decide +kernel
theorem dX11_wrong_44 : decode cX11_wrong 44 = .ok (.iconst 1, 1) := by decide +kernel
theorem dX11_wrong_45 : decode cX11_wrong 45 = .ok (.iaload, 1) := by decide +kernel
theorem dX11_wrong_46 : decode cX11_wrong 46 = .ok (.if_icmp .ge 78, 3) := by decide +kernel
theorem dX11_wrong_49 : decode cX11_wrong 49 = .ok (.aload_n 0, 1) := by decide +kernel
theorem dX11_wrong_50 : decode cX11_wrong 50 = .ok (.iload 5, 2) := by decide +kernel
theorem dX11_wrong_52 : decode cX11_wrong 52 = .ok (.iload_n 1, 1) := by decide +kernel
theorem dX11_wrong_53 : decode cX11_wrong 53 = .ok (.iload_n 2, 1) := by decide +kernel
theorem dX11_wrong_54 : decode cX11_wrong 54 = .ok (.invokevirtual 123, 3) := by decide +kernel
theorem dX11_wrong_57 : decode cX11_wrong 57 = .ok (.istore 6, 2) := by decide +kernel
theorem dX11_wrong_59 : decode cX11_wrong 59 = .ok (.iconst 0, 1) := by decide +kernel
theorem dX11_wrong_60 : decode cX11_wrong 60 = .ok (.istore 7, 2) := by decide +kernel
theorem dX11_wrong_62 : decode cX11_wrong 62 = .ok (.iload 7, 2) := by decide +kernel
theorem dX11_wrong_64 : decode cX11_wrong 64 = .ok (.aload_n 0, 1) := by decide +kernel
theorem dX11_wrong_65 : decode cX11_wrong 65 = .ok (.getfield 9, 3) := by decide +kernel
theorem dX11_wrong_68 : decode cX11_wrong 68 = .ok (.iconst 4, 1) := by decide +kernel
theorem dX11_wrong_69 : decode cX11_wrong 69 = .ok (.iaload, 1) := by decide +kernel
theorem dX11_wrong_70 : decode cX11_wrong 70 = .ok (.if_icmp .ge 33, 3) := by decide +kernel
theorem dX11_wrong_73 : decode cX11_wrong 73 = .ok (.iload 6, 2) := by decide +kernel
theorem dX11_wrong_75 : decode cX11_wrong 75 = .ok (.ifCond .eq 28, 3) := by decide +kernel
theorem dX11_wrong_78 : decode cX11_wrong 78 = .ok (.aload_n 0, 1) := by decide +kernel
theorem dX11_wrong_79 : decode cX11_wrong 79 = .ok (.iload 5, 2) := by decide +kernel
theorem dX11_wrong_81 : decode cX11_wrong 81 = .ok (.iload 7, 2) := by decide +kernel
theorem dX11_wrong_83 : decode cX11_wrong 83 = .ok (.iload_n 3, 1) := by decide +kernel
theorem dX11_wrong_84 : decode cX11_wrong 84 = .ok (.invokevirtual 273, 3) := by decide +kernel
theorem dX11_wrong_87 : decode cX11_wrong 87 = .ok (.ifCond .ne 7, 3) := by decide +kernel
theorem dX11_wrong_90 : decode cX11_wrong 90 = .ok (.iconst 1, 1) := by decide +kernel
theorem dX11_wrong_91 : decode cX11_wrong 91 = .ok (.goto 4, 3) := by decide +kernel
theorem dX11_wrong_94 : decode cX11_wrong 94 = .ok (.iconst 0, 1) := by decide +kernel
theorem dX11_wrong_95 : decode cX11_wrong 95 = .ok (.istore 6, 2) := by decide +kernel
theorem dX11_wrong_97 : decode cX11_wrong 97 = .ok (.iinc 7 1, 3) := by decide +kernel
theorem dX11_wrong_100 : decode cX11_wrong 100 = .ok (.goto (-38), 3) := by decide +kernel
theorem dX11_wrong_103 : decode cX11_wrong 103 = .ok (.iload 4, 2) := by decide +kernel
theorem dX11_wrong_105 : decode cX11_wrong 105 = .ok (.iload 6, 2) := by decide +kernel
theorem dX11_wrong_107 : decode cX11_wrong 107 = .ok (.ifCond .eq 7, 3) := by decide +kernel
theorem dX11_wrong_110 : decode cX11_wrong 110 = .ok (.iconst 1, 1) := by decide +kernel
theorem dX11_wrong_111 : decode cX11_wrong 111 = .ok (.goto 4, 3) := by decide +kernel
theorem dX11_wrong_114 : decode cX11_wrong 114 = .ok (.iconst 0, 1) := by decide +kernel
theorem dX11_wrong_115 : decode cX11_wrong 115 = .ok (.iadd, 1) := by decide +kernel
theorem dX11_wrong_116 : decode cX11_wrong 116 = .ok (.istore 4, 2) := by decide +kernel
theorem dX11_wrong_118 : decode cX11_wrong 118 = .ok (.iinc 5 1, 3) := by decide +kernel
theorem dX11_wrong_121 : decode cX11_wrong 121 = .ok (.goto (-83), 3) := by decide +kernel
theorem dX11_wrong_124 : decode cX11_wrong 124 = .ok (.iload 4, 2) := by decide +kernel
theorem dX11_wrong_126 : decode cX11_wrong 126 = .ok (.ireturn, 1) := by decide +kernel
theorem dX11_hours_0 : decode cX11_hours 0 = .ok (.aload_n 0, 1) := by decide +kernel
theorem dX11_hours_1 : decode cX11_hours 1 = .ok (.iload_n 1, 1) := by decide +kernel
theorem dX11_hours_2 : decode cX11_hours 2 = .ok (.invokevirtual 131, 3) := by decide +kernel
theorem dX11_hours_5 : decode cX11_hours 5 = .ok (.ifCond .eq 38, 3) := by decide +kernel
theorem dX11_hours_8 : decode cX11_hours 8 = .ok (.iload_n 2, 1) := by decide +kernel
theorem dX11_hours_9 : decode cX11_hours 9 = .ok (.i2l, 1) := by decide +kernel
theorem dX11_hours_10 : decode cX11_hours 10 = .ok (.lconst 0, 1) := by decide +kernel
theorem dX11_hours_11 : decode cX11_hours 11 = .ok (.ldc2_w 276, 3) := by decide +kernel
theorem dX11_hours_14 : decode cX11_hours 14 = .ok (.invokestatic 57, 3) := by decide +kernel
theorem dX11_hours_17 : decode cX11_hours 17 = .ok (.ifCond .eq 26, 3) := by decide +kernel
theorem dX11_hours_20 : decode cX11_hours 20 = .ok (.iload_n 3, 1) := by decide +kernel
theorem dX11_hours_21 : decode cX11_hours 21 = .ok (.i2l, 1) := by decide +kernel
theorem dX11_hours_22 : decode cX11_hours 22 = .ok (.lconst 0, 1) := by decide +kernel
theorem dX11_hours_23 : decode cX11_hours 23 = .ok (.ldc2_w 278, 3) := by decide +kernel
theorem dX11_hours_26 : decode cX11_hours 26 = .ok (.invokestatic 57, 3) := by decide +kernel
theorem dX11_hours_29 : decode cX11_hours 29 = .ok (.ifCond .eq 14, 3) := by decide +kernel
theorem dX11_hours_32 : decode cX11_hours 32 = .ok (.iload 4, 2) := by decide +kernel
theorem dX11_hours_34 : decode cX11_hours 34 = .ok (.i2l, 1) := by decide +kernel
theorem dX11_hours_35 : decode cX11_hours 35 = .ok (.lconst 0, 1) := by decide +kernel
theorem dX11_hours_36 : decode cX11_hours 36 = .ok (.lconst 1, 1) := by decide +kernel
theorem dX11_hours_37 : decode cX11_hours 37 = .ok (.invokestatic 57, 3) := by decide +kernel
theorem dX11_hours_40 : decode cX11_hours 40 = .ok (.ifCond .ne 9, 3) := by decide +kernel
theorem dX11_hours_43 : decode cX11_hours 43 = .ok (.aload_n 0, 1) := by decide +kernel
theorem dX11_hours_44 : decode cX11_hours 44 = .ok (.iconst 1, 1) := by decide +kernel
theorem dX11_hours_45 : decode cX11_hours 45 = .ok (.invokevirtual 73, 3) := by decide +kernel
theorem dX11_hours_48 : decode cX11_hours 48 = .ok (.ireturn, 1) := by decide +kernel
theorem dX11_hours_49 : decode cX11_hours 49 = .ok (.aload_n 0, 1) := by decide +kernel
theorem dX11_hours_50 : decode cX11_hours 50 = .ok (.invokevirtual 120, 3) := by decide +kernel
theorem dX11_hours_53 : decode cX11_hours 53 = .ok (.iconst 0, 1) := by decide +kernel
theorem dX11_hours_54 : decode cX11_hours 54 = .ok (.istore 5, 2) := by decide +kernel
theorem dX11_hours_56 : decode cX11_hours 56 = .ok (.aload_n 0, 1) := by decide +kernel
theorem dX11_hours_57 : decode cX11_hours 57 = .ok (.iload_n 1, 1) := by decide +kernel
theorem dX11_hours_58 : decode cX11_hours 58 = .ok (.iload_n 2, 1) := by decide +kernel
theorem dX11_hours_59 : decode cX11_hours 59 = .ok (.sipush 1000, 3) := by decide +kernel
theorem dX11_hours_62 : decode cX11_hours 62 = .ok (.irem, 1) := by decide +kernel
theorem dX11_hours_63 : decode cX11_hours 63 = .ok (.iload_n 2, 1) := by decide +kernel
theorem dX11_hours_64 : decode cX11_hours 64 = .ok (.sipush 1000, 3) := by decide +kernel
theorem dX11_hours_67 : decode cX11_hours 67 = .ok (.idiv, 1) := by decide +kernel
theorem dX11_hours_68 : decode cX11_hours 68 = .ok (.iconst 0, 1) := by decide +kernel
theorem dX11_hours_69 : decode cX11_hours 69 = .ok (.invokevirtual 139, 3) := by decide +kernel
theorem dX11_hours_72 : decode cX11_hours 72 = .ok (.istore 6, 2) := by decide +kernel
theorem dX11_hours_74 : decode cX11_hours 74 = .ok (.iconst 1, 1) := by decide +kernel
theorem dX11_hours_75 : decode cX11_hours 75 = .ok (.istore 7, 2) := by decide +kernel
theorem dX11_hours_77 : decode cX11_hours 77 = .ok (.iload 7, 2) := by decide +kernel
theorem dX11_hours_79 : decode cX11_hours 79 = .ok (.iload_n 3, 1) := by decide +kernel
theorem dX11_hours_80 : decode cX11_hours 80 = .ok (.if_icmp .gt 70, 3) := by decide +kernel
theorem dX11_hours_83 : decode cX11_hours 83 = .ok (.iload 7, 2) := by decide +kernel
theorem dX11_hours_85 : decode cX11_hours 85 = .ok (.ineg, 1) := by decide +kernel
theorem dX11_hours_86 : decode cX11_hours 86 = .ok (.istore 8, 2) := by decide +kernel
theorem dX11_hours_88 : decode cX11_hours 88 = .ok (.iload 8, 2) := by decide +kernel
theorem dX11_hours_90 : decode cX11_hours 90 = .ok (.iload 7, 2) := by decide +kernel
theorem dX11_hours_92 : decode cX11_hours 92 = .ok (.if_icmp .gt 52, 3) := by decide +kernel
theorem dX11_hours_95 : decode cX11_hours 95 = .ok (.aload_n 0, 1) := by decide +kernel
theorem dX11_hours_96 : decode cX11_hours 96 = .ok (.iload_n 1, 1) := by decide +kernel
theorem dX11_hours_97 : decode cX11_hours 97 = .ok (.iload_n 2, 1) := by decide +kernel
theorem dX11_hours_98 : decode cX11_hours 98 = .ok (.sipush 1000, 3) := by decide +kernel
theorem dX11_hours_101 : decode cX11_hours 101 = .ok (.irem, 1) := by decide +kernel
theorem dX11_hours_102 : decode cX11_hours 102 = .ok (.iload_n 2, 1) := by decide +kernel
theorem dX11_hours_103 : decode cX11_hours 103 = .ok (.sipush 1000, 3) := by decide +kernel
theorem dX11_hours_106 : decode cX11_hours 106 = .ok (.idiv, 1) := by decide +kernel
theorem dX11_hours_107 : decode cX11_hours 107 = .ok (.iload 8, 2) := by decide +kernel
theorem dX11_hours_109 : decode cX11_hours 109 = .ok (.invokevirtual 139, 3) := by decide +kernel
theorem dX11_hours_112 : decode cX11_hours 112 = .ok (.istore 9, 2) := by decide +kernel
theorem dX11_hours_114 : decode cX11_hours 114 = .ok (.iload 9, 2) := by decide +kernel
theorem dX11_hours_116 : decode cX11_hours 116 = .ok (.iload 6, 2) := by decide +kernel
theorem dX11_hours_118 : decode cX11_hours 118 = .ok (.if_icmp .gt 6, 3) := by decide +kernel
theorem dX11_hours_121 : decode cX11_hours 121 = .ok (.goto 11, 3) := by decide +kernel
theorem dX11_hours_124 : decode cX11_hours 124 = .ok (.iload 8, 2) := by decide +kernel
theorem dX11_hours_126 : decode cX11_hours 126 = .ok (.istore 5, 2) := by decide +kernel
theorem dX11_hours_128 : decode cX11_hours 128 = .ok (.iload 9, 2) := by decide +kernel
theorem dX11_hours_130 : decode cX11_hours 130 = .ok (.istore 6, 2) := by decide +kernel
theorem dX11_hours_132 : decode cX11_hours 132 = .ok (.iload 8, 2) := by decide +kernel
theorem dX11_hours_134 : decode cX11_hours 134 = .ok (.iconst 2, 1) := by decide +kernel
theorem dX11_hours_135 : decode cX11_hours 135 = .ok (.iload 7, 2) := by decide +kernel
theorem dX11_hours_137 : decode cX11_hours 137 = .ok (.imul, 1) := by decide +kernel
theorem dX11_hours_138 : decode cX11_hours 138 = .ok (.iadd, 1) := by decide +kernel
theorem dX11_hours_139 : decode cX11_hours 139 = .ok (.istore 8, 2) := by decide +kernel
theorem dX11_hours_141 : decode cX11_hours 141 = .ok (.goto (-53), 3) := by decide +kernel
theorem dX11_hours_144 : decode cX11_hours 144 = .ok (.iinc 7 1, 3) := by decide +kernel
theorem dX11_hours_147 : decode cX11_hours 147 = .ok (.goto (-70), 3) := by decide +kernel
theorem dX11_hours_150 : decode cX11_hours 150 = .ok (.iload 4, 2) := by decide +kernel
theorem dX11_hours_152 : decode cX11_hours 152 = .ok (.ifCond .ne 8, 3) := by decide +kernel
theorem dX11_hours_155 : decode cX11_hours 155 = .ok (.iload 5, 2) := by decide +kernel
theorem dX11_hours_157 : decode cX11_hours 157 = .ok (.goto 5, 3) := by decide +kernel
theorem dX11_hours_160 : decode cX11_hours 160 = .ok (.iload 6, 2) := by decide +kernel
theorem dX11_hours_162 : decode cX11_hours 162 = .ok (.ireturn, 1) := by decide +kernel
theorem dX11_isPeriod_0 : decode cX11_isPeriod 0 = .ok (.iload_n 0, 1) := by decide +kernel
theorem dX11_isPeriod_1 : decode cX11_isPeriod 1 = .ok (.i2l, 1) := by decide +kernel
theorem dX11_isPeriod_2 : decode cX11_isPeriod 2 = .ok (.ldc2_w 280, 3) := by decide +kernel
theorem dX11_isPeriod_5 : decode cX11_isPeriod 5 = .ok (.ldc2_w 61, 3) := by decide +kernel
theorem dX11_isPeriod_8 : decode cX11_isPeriod 8 = .ok (.invokestatic 57, 3) := by decide +kernel
theorem dX11_isPeriod_11 : decode cX11_isPeriod 11 = .ok (.ireturn, 1) := by decide +kernel
theorem dX11_spreadOf_0 : decode cX11_spreadOf 0 = .ok (.iconst 0, 1) := by decide +kernel
theorem dX11_spreadOf_1 : decode cX11_spreadOf 1 = .ok (.istore 4, 2) := by decide +kernel
theorem dX11_spreadOf_3 : decode cX11_spreadOf 3 = .ok (.iload 4, 2) := by decide +kernel
theorem dX11_spreadOf_5 : decode cX11_spreadOf 5 = .ok (.bipush 12, 2) := by decide +kernel
theorem dX11_spreadOf_7 : decode cX11_spreadOf 7 = .ok (.if_icmp .ge 17, 3) := by decide +kernel
theorem dX11_spreadOf_10 : decode cX11_spreadOf 10 = .ok (.aload_n 0, 1) := by decide +kernel
theorem dX11_spreadOf_11 : decode cX11_spreadOf 11 = .ok (.getfield 50, 3) := by decide +kernel
theorem dX11_spreadOf_14 : decode cX11_spreadOf 14 = .ok (.iload 4, 2) := by decide +kernel
theorem dX11_spreadOf_16 : decode cX11_spreadOf 16 = .ok (.iconst 0, 1) := by decide +kernel
theorem dX11_spreadOf_17 : decode cX11_spreadOf 17 = .ok (.iastore, 1) := by decide +kernel
theorem dX11_spreadOf_18 : decode cX11_spreadOf 18 = .ok (.iinc 4 1, 3) := by decide +kernel
theorem dX11_spreadOf_21 : decode cX11_spreadOf 21 = .ok (.goto (-18), 3) := by decide +kernel
theorem dX11_spreadOf_24 : decode cX11_spreadOf 24 = .ok (.iconst 0, 1) := by decide +kernel
theorem dX11_spreadOf_25 : decode cX11_spreadOf 25 = .ok (.istore 4, 2) := by decide +kernel
theorem dX11_spreadOf_27 : decode cX11_spreadOf 27 = .ok (.iload 4, 2) := by decide +kernel
theorem dX11_spreadOf_29 : decode cX11_spreadOf 29 = .ok (.aload_n 0, 1) := by decide +kernel
theorem dX11_spreadOf_30 : decode cX11_spreadOf 30 = .ok (.getfield 9, 3) := by decide +kernel
theorem dX11_spreadOf_33 : decode cX11_spreadOf 33 = .ok (.iconst 1, 1) := by decide +kernel
theorem dX11_spreadOf_34 : decode cX11_spreadOf 34 = .ok (.iaload, 1) := by decide +kernel
theorem dX11_spreadOf_35 : decode cX11_spreadOf 35 = .ok (.if_icmp .ge 45, 3) := by decide +kernel
theorem dX11_spreadOf_38 : decode cX11_spreadOf 38 = .ok (.aload_n 0, 1) := by decide +kernel
theorem dX11_spreadOf_39 : decode cX11_spreadOf 39 = .ok (.iload 4, 2) := by decide +kernel
theorem dX11_spreadOf_41 : decode cX11_spreadOf 41 = .ok (.iload_n 1, 1) := by decide +kernel
theorem dX11_spreadOf_42 : decode cX11_spreadOf 42 = .ok (.iload_n 2, 1) := by decide +kernel
theorem dX11_spreadOf_43 : decode cX11_spreadOf 43 = .ok (.invokevirtual 123, 3) := by decide +kernel
theorem dX11_spreadOf_46 : decode cX11_spreadOf 46 = .ok (.ifCond .eq 28, 3) := by decide +kernel
theorem dX11_spreadOf_49 : decode cX11_spreadOf 49 = .ok (.aload_n 0, 1) := by decide +kernel
theorem dX11_spreadOf_50 : decode cX11_spreadOf 50 = .ok (.getfield 50, 3) := by decide +kernel
theorem dX11_spreadOf_53 : decode cX11_spreadOf 53 = .ok (.bipush 12, 2) := by decide +kernel
theorem dX11_spreadOf_55 : decode cX11_spreadOf 55 = .ok (.aload_n 0, 1) := by decide +kernel
theorem dX11_spreadOf_56 : decode cX11_spreadOf 56 = .ok (.getfield 19, 3) := by decide +kernel
theorem dX11_spreadOf_59 : decode cX11_spreadOf 59 = .ok (.iload 4, 2) := by decide +kernel
theorem dX11_spreadOf_61 : decode cX11_spreadOf 61 = .ok (.iaload, 1) := by decide +kernel
theorem dX11_spreadOf_62 : decode cX11_spreadOf 62 = .ok (.iload_n 3, 1) := by decide +kernel
theorem dX11_spreadOf_63 : decode cX11_spreadOf 63 = .ok (.invokestatic 111, 3) := by decide +kernel
theorem dX11_spreadOf_66 : decode cX11_spreadOf 66 = .ok (.imul, 1) := by decide +kernel
theorem dX11_spreadOf_67 : decode cX11_spreadOf 67 = .ok (.iload_n 3, 1) := by decide +kernel
theorem dX11_spreadOf_68 : decode cX11_spreadOf 68 = .ok (.idiv, 1) := by decide +kernel
theorem dX11_spreadOf_69 : decode cX11_spreadOf 69 = .ok (.dup2, 1) := by decide +kernel
theorem dX11_spreadOf_70 : decode cX11_spreadOf 70 = .ok (.iaload, 1) := by decide +kernel
theorem dX11_spreadOf_71 : decode cX11_spreadOf 71 = .ok (.iconst 1, 1) := by decide +kernel
theorem dX11_spreadOf_72 : decode cX11_spreadOf 72 = .ok (.iadd, 1) := by decide +kernel
theorem dX11_spreadOf_73 : decode cX11_spreadOf 73 = .ok (.iastore, 1) := by decide +kernel
theorem dX11_spreadOf_74 : decode cX11_spreadOf 74 = .ok (.iinc 4 1, 3) := by decide +kernel
theorem dX11_spreadOf_77 : decode cX11_spreadOf 77 = .ok (.goto (-50), 3) := by decide +kernel
theorem dX11_spreadOf_80 : decode cX11_spreadOf 80 = .ok (.iconst 0, 1) := by decide +kernel
theorem dX11_spreadOf_81 : decode cX11_spreadOf 81 = .ok (.istore 4, 2) := by decide +kernel
theorem dX11_spreadOf_83 : decode cX11_spreadOf 83 = .ok (.iconst 0, 1) := by decide +kernel
theorem dX11_spreadOf_84 : decode cX11_spreadOf 84 = .ok (.istore 5, 2) := by decide +kernel
theorem dX11_spreadOf_86 : decode cX11_spreadOf 86 = .ok (.iload 5, 2) := by decide +kernel
theorem dX11_spreadOf_88 : decode cX11_spreadOf 88 = .ok (.bipush 12, 2) := by decide +kernel
theorem dX11_spreadOf_90 : decode cX11_spreadOf 90 = .ok (.if_icmp .ge 29, 3) := by decide +kernel
theorem dX11_spreadOf_93 : decode cX11_spreadOf 93 = .ok (.iload 4, 2) := by decide +kernel
theorem dX11_spreadOf_95 : decode cX11_spreadOf 95 = .ok (.aload_n 0, 1) := by decide +kernel
theorem dX11_spreadOf_96 : decode cX11_spreadOf 96 = .ok (.getfield 50, 3) := by decide +kernel
theorem dX11_spreadOf_99 : decode cX11_spreadOf 99 = .ok (.iload 5, 2) := by decide +kernel
theorem dX11_spreadOf_101 : decode cX11_spreadOf 101 = .ok (.iaload, 1) := by decide +kernel
theorem dX11_spreadOf_102 : decode cX11_spreadOf 102 = .ok (.aload_n 0, 1) := by decide +kernel
theorem dX11_spreadOf_103 : decode cX11_spreadOf 103 = .ok (.getfield 50, 3) := by decide +kernel
theorem dX11_spreadOf_106 : decode cX11_spreadOf 106 = .ok (.iload 5, 2) := by decide +kernel
theorem dX11_spreadOf_108 : decode cX11_spreadOf 108 = .ok (.iaload, 1) := by decide +kernel
theorem dX11_spreadOf_109 : decode cX11_spreadOf 109 = .ok (.imul, 1) := by decide +kernel
theorem dX11_spreadOf_110 : decode cX11_spreadOf 110 = .ok (.iadd, 1) := by decide +kernel
theorem dX11_spreadOf_111 : decode cX11_spreadOf 111 = .ok (.istore 4, 2) := by decide +kernel
theorem dX11_spreadOf_113 : decode cX11_spreadOf 113 = .ok (.iinc 5 1, 3) := by decide +kernel
theorem dX11_spreadOf_116 : decode cX11_spreadOf 116 = .ok (.goto (-30), 3) := by decide +kernel
theorem dX11_spreadOf_119 : decode cX11_spreadOf 119 = .ok (.iload 4, 2) := by decide +kernel
theorem dX11_spreadOf_121 : decode cX11_spreadOf 121 = .ok (.ireturn, 1) := by decide +kernel
theorem dX11_spread_0 : decode cX11_spread 0 = .ok (.aload_n 0, 1) := by decide +kernel
theorem dX11_spread_1 : decode cX11_spread 1 = .ok (.iload_n 1, 1) := by decide +kernel
theorem dX11_spread_2 : decode cX11_spread 2 = .ok (.invokevirtual 65, 3) := by decide +kernel
theorem dX11_spread_5 : decode cX11_spread 5 = .ok (.ifCond .eq 17, 3) := by decide +kernel
theorem dX11_spread_8 : decode cX11_spread 8 = .ok (.iload_n 2, 1) := by decide +kernel
theorem dX11_spread_9 : decode cX11_spread 9 = .ok (.invokestatic 117, 3) := by decide +kernel
theorem dX11_spread_12 : decode cX11_spread 12 = .ok (.ifCond .eq 10, 3) := by decide +kernel
theorem dX11_spread_15 : decode cX11_spread 15 = .ok (.iload_n 3, 1) := by decide +kernel
theorem dX11_spread_16 : decode cX11_spread 16 = .ok (.invokestatic 282, 3) := by decide +kernel
theorem dX11_spread_19 : decode cX11_spread 19 = .ok (.ifCond .ne 9, 3) := by decide +kernel
theorem dX11_spread_22 : decode cX11_spread 22 = .ok (.aload_n 0, 1) := by decide +kernel
theorem dX11_spread_23 : decode cX11_spread 23 = .ok (.iconst 1, 1) := by decide +kernel
theorem dX11_spread_24 : decode cX11_spread 24 = .ok (.invokevirtual 73, 3) := by decide +kernel
theorem dX11_spread_27 : decode cX11_spread 27 = .ok (.ireturn, 1) := by decide +kernel
theorem dX11_spread_28 : decode cX11_spread 28 = .ok (.aload_n 0, 1) := by decide +kernel
theorem dX11_spread_29 : decode cX11_spread 29 = .ok (.invokevirtual 120, 3) := by decide +kernel
theorem dX11_spread_32 : decode cX11_spread 32 = .ok (.aload_n 0, 1) := by decide +kernel
theorem dX11_spread_33 : decode cX11_spread 33 = .ok (.iload_n 1, 1) := by decide +kernel
theorem dX11_spread_34 : decode cX11_spread 34 = .ok (.iload_n 2, 1) := by decide +kernel
theorem dX11_spread_35 : decode cX11_spread 35 = .ok (.iload_n 3, 1) := by decide +kernel
theorem dX11_spread_36 : decode cX11_spread 36 = .ok (.invokevirtual 285, 3) := by decide +kernel
theorem dX11_spread_39 : decode cX11_spread 39 = .ok (.ireturn, 1) := by decide +kernel
theorem dX11_areStars_0 : decode cX11_areStars 0 = .ok (.aload_n 0, 1) := by decide +kernel
theorem dX11_areStars_1 : decode cX11_areStars 1 = .ok (.iload_n 1, 1) := by decide +kernel
theorem dX11_areStars_2 : decode cX11_areStars 2 = .ok (.invokevirtual 65, 3) := by decide +kernel
theorem dX11_areStars_5 : decode cX11_areStars 5 = .ok (.ifCond .eq 44, 3) := by decide +kernel
theorem dX11_areStars_8 : decode cX11_areStars 8 = .ok (.iload_n 2, 1) := by decide +kernel
theorem dX11_areStars_9 : decode cX11_areStars 9 = .ok (.invokestatic 117, 3) := by decide +kernel
theorem dX11_areStars_12 : decode cX11_areStars 12 = .ok (.ifCond .eq 37, 3) := by decide +kernel
theorem dX11_areStars_15 : decode cX11_areStars 15 = .ok (.iload_n 3, 1) := by decide +kernel
theorem dX11_areStars_16 : decode cX11_areStars 16 = .ok (.invokestatic 282, 3) := by decide +kernel
theorem dX11_areStars_19 : decode cX11_areStars 19 = .ok (.ifCond .eq 30, 3) := by decide +kernel
theorem dX11_areStars_22 : decode cX11_areStars 22 = .ok (.iload 4, 2) := by decide +kernel
theorem dX11_areStars_24 : decode cX11_areStars 24 = .ok (.invokestatic 282, 3) := by decide +kernel
theorem dX11_areStars_27 : decode cX11_areStars 27 = .ok (.ifCond .eq 22, 3) := by decide +kernel
theorem dX11_areStars_30 : decode cX11_areStars 30 = .ok (.iload 4, 2) := by decide +kernel
theorem dX11_areStars_32 : decode cX11_areStars 32 = .ok (.iload_n 3, 1) := by decide +kernel
theorem dX11_areStars_33 : decode cX11_areStars 33 = .ok (.isub, 1) := by decide +kernel
theorem dX11_areStars_34 : decode cX11_areStars 34 = .ok (.i2l, 1) := by decide +kernel
theorem dX11_areStars_35 : decode cX11_areStars 35 = .ok (.lconst 0, 1) := by decide +kernel
theorem dX11_areStars_36 : decode cX11_areStars 36 = .ok (.ldc2_w 288, 3) := by decide +kernel
theorem dX11_areStars_39 : decode cX11_areStars 39 = .ok (.invokestatic 57, 3) := by decide +kernel
theorem dX11_areStars_42 : decode cX11_areStars 42 = .ok (.ifCond .eq 7, 3) := by decide +kernel
theorem dX11_areStars_45 : decode cX11_areStars 45 = .ok (.iconst 1, 1) := by decide +kernel
theorem dX11_areStars_46 : decode cX11_areStars 46 = .ok (.goto 4, 3) := by decide +kernel
theorem dX11_areStars_49 : decode cX11_areStars 49 = .ok (.iconst 0, 1) := by decide +kernel
theorem dX11_areStars_50 : decode cX11_areStars 50 = .ok (.ireturn, 1) := by decide +kernel
theorem dX11_stars_0 : decode cX11_stars 0 = .ok (.aload_n 0, 1) := by decide +kernel
theorem dX11_stars_1 : decode cX11_stars 1 = .ok (.iload_n 1, 1) := by decide +kernel
theorem dX11_stars_2 : decode cX11_stars 2 = .ok (.iload_n 2, 1) := by decide +kernel
theorem dX11_stars_3 : decode cX11_stars 3 = .ok (.iload_n 3, 1) := by decide +kernel
theorem dX11_stars_4 : decode cX11_stars 4 = .ok (.iload 4, 2) := by decide +kernel
theorem dX11_stars_6 : decode cX11_stars 6 = .ok (.invokevirtual 290, 3) := by decide +kernel
theorem dX11_stars_9 : decode cX11_stars 9 = .ok (.ifCond .ne 9, 3) := by decide +kernel
theorem dX11_stars_12 : decode cX11_stars 12 = .ok (.aload_n 0, 1) := by decide +kernel
theorem dX11_stars_13 : decode cX11_stars 13 = .ok (.iconst 1, 1) := by decide +kernel
theorem dX11_stars_14 : decode cX11_stars 14 = .ok (.invokevirtual 73, 3) := by decide +kernel
theorem dX11_stars_17 : decode cX11_stars 17 = .ok (.ireturn, 1) := by decide +kernel
theorem dX11_stars_18 : decode cX11_stars 18 = .ok (.aload_n 0, 1) := by decide +kernel
theorem dX11_stars_19 : decode cX11_stars 19 = .ok (.invokevirtual 120, 3) := by decide +kernel
theorem dX11_stars_22 : decode cX11_stars 22 = .ok (.iload_n 3, 1) := by decide +kernel
theorem dX11_stars_23 : decode cX11_stars 23 = .ok (.istore 5, 2) := by decide +kernel
theorem dX11_stars_25 : decode cX11_stars 25 = .ok (.aload_n 0, 1) := by decide +kernel
theorem dX11_stars_26 : decode cX11_stars 26 = .ok (.iload_n 1, 1) := by decide +kernel
theorem dX11_stars_27 : decode cX11_stars 27 = .ok (.iload_n 2, 1) := by decide +kernel
theorem dX11_stars_28 : decode cX11_stars 28 = .ok (.iload_n 3, 1) := by decide +kernel
theorem dX11_stars_29 : decode cX11_stars 29 = .ok (.invokevirtual 285, 3) := by decide +kernel
theorem dX11_stars_32 : decode cX11_stars 32 = .ok (.istore 6, 2) := by decide +kernel
theorem dX11_stars_34 : decode cX11_stars 34 = .ok (.iload_n 3, 1) := by decide +kernel
theorem dX11_stars_35 : decode cX11_stars 35 = .ok (.iconst 1, 1) := by decide +kernel
theorem dX11_stars_36 : decode cX11_stars 36 = .ok (.iadd, 1) := by decide +kernel
theorem dX11_stars_37 : decode cX11_stars 37 = .ok (.istore 7, 2) := by decide +kernel
theorem dX11_stars_39 : decode cX11_stars 39 = .ok (.iload 7, 2) := by decide +kernel
theorem dX11_stars_41 : decode cX11_stars 41 = .ok (.iload 4, 2) := by decide +kernel
theorem dX11_stars_43 : decode cX11_stars 43 = .ok (.if_icmp .gt 37, 3) := by decide +kernel
theorem dX11_stars_46 : decode cX11_stars 46 = .ok (.aload_n 0, 1) := by decide +kernel
theorem dX11_stars_47 : decode cX11_stars 47 = .ok (.iload_n 1, 1) := by decide +kernel
theorem dX11_stars_48 : decode cX11_stars 48 = .ok (.iload_n 2, 1) := by decide +kernel
theorem dX11_stars_49 : decode cX11_stars 49 = .ok (.iload 7, 2) := by decide +kernel
theorem dX11_stars_51 : decode cX11_stars 51 = .ok (.invokevirtual 285, 3) := by decide +kernel
theorem dX11_stars_54 : decode cX11_stars 54 = .ok (.istore 8, 2) := by decide +kernel
theorem dX11_stars_56 : decode cX11_stars 56 = .ok (.iload 8, 2) := by decide +kernel
theorem dX11_stars_58 : decode cX11_stars 58 = .ok (.iload 6, 2) := by decide +kernel
theorem dX11_stars_60 : decode cX11_stars 60 = .ok (.if_icmp .gt 6, 3) := by decide +kernel
theorem dX11_stars_63 : decode cX11_stars 63 = .ok (.goto 11, 3) := by decide +kernel
theorem dX11_stars_66 : decode cX11_stars 66 = .ok (.iload 7, 2) := by decide +kernel
theorem dX11_stars_68 : decode cX11_stars 68 = .ok (.istore 5, 2) := by decide +kernel
theorem dX11_stars_70 : decode cX11_stars 70 = .ok (.iload 8, 2) := by decide +kernel
theorem dX11_stars_72 : decode cX11_stars 72 = .ok (.istore 6, 2) := by decide +kernel
theorem dX11_stars_74 : decode cX11_stars 74 = .ok (.iinc 7 1, 3) := by decide +kernel
theorem dX11_stars_77 : decode cX11_stars 77 = .ok (.goto (-38), 3) := by decide +kernel
theorem dX11_stars_80 : decode cX11_stars 80 = .ok (.iload 5, 2) := by decide +kernel
theorem dX11_stars_82 : decode cX11_stars 82 = .ok (.ireturn, 1) := by decide +kernel
theorem dX11_tried_0 : decode cX11_tried 0 = .ok (.aload_n 0, 1) := by decide +kernel
theorem dX11_tried_1 : decode cX11_tried 1 = .ok (.iload_n 1, 1) := by decide +kernel
theorem dX11_tried_2 : decode cX11_tried 2 = .ok (.iload_n 2, 1) := by decide +kernel
theorem dX11_tried_3 : decode cX11_tried 3 = .ok (.iload_n 3, 1) := by decide +kernel
theorem dX11_tried_4 : decode cX11_tried 4 = .ok (.iload 4, 2) := by decide +kernel
theorem dX11_tried_6 : decode cX11_tried 6 = .ok (.invokevirtual 290, 3) := by decide +kernel
theorem dX11_tried_9 : decode cX11_tried 9 = .ok (.ifCond .eq 11, 3) := by decide +kernel
theorem dX11_tried_12 : decode cX11_tried 12 = .ok (.iload 5, 2) := by decide +kernel
theorem dX11_tried_14 : decode cX11_tried 14 = .ok (.invokestatic 282, 3) := by decide +kernel
theorem dX11_tried_17 : decode cX11_tried 17 = .ok (.ifCond .ne 9, 3) := by decide +kernel
theorem dX11_tried_20 : decode cX11_tried 20 = .ok (.aload_n 0, 1) := by decide +kernel
theorem dX11_tried_21 : decode cX11_tried 21 = .ok (.iconst 1, 1) := by decide +kernel
theorem dX11_tried_22 : decode cX11_tried 22 = .ok (.invokevirtual 73, 3) := by decide +kernel
theorem dX11_tried_25 : decode cX11_tried 25 = .ok (.ireturn, 1) := by decide +kernel
theorem dX11_tried_26 : decode cX11_tried 26 = .ok (.aload_n 0, 1) := by decide +kernel
theorem dX11_tried_27 : decode cX11_tried 27 = .ok (.invokevirtual 120, 3) := by decide +kernel
theorem dX11_tried_30 : decode cX11_tried 30 = .ok (.aload_n 0, 1) := by decide +kernel
theorem dX11_tried_31 : decode cX11_tried 31 = .ok (.iload_n 1, 1) := by decide +kernel
theorem dX11_tried_32 : decode cX11_tried 32 = .ok (.iload_n 2, 1) := by decide +kernel
theorem dX11_tried_33 : decode cX11_tried 33 = .ok (.iload 5, 2) := by decide +kernel
theorem dX11_tried_35 : decode cX11_tried 35 = .ok (.invokevirtual 285, 3) := by decide +kernel
theorem dX11_tried_38 : decode cX11_tried 38 = .ok (.istore 6, 2) := by decide +kernel
theorem dX11_tried_40 : decode cX11_tried 40 = .ok (.iconst 0, 1) := by decide +kernel
theorem dX11_tried_41 : decode cX11_tried 41 = .ok (.istore 7, 2) := by decide +kernel
theorem dX11_tried_43 : decode cX11_tried 43 = .ok (.iload_n 3, 1) := by decide +kernel
theorem dX11_tried_44 : decode cX11_tried 44 = .ok (.istore 8, 2) := by decide +kernel
theorem dX11_tried_46 : decode cX11_tried 46 = .ok (.iload 8, 2) := by decide +kernel
theorem dX11_tried_48 : decode cX11_tried 48 = .ok (.iload 4, 2) := by decide +kernel
theorem dX11_tried_50 : decode cX11_tried 50 = .ok (.if_icmp .gt 32, 3) := by decide +kernel
theorem dX11_tried_53 : decode cX11_tried 53 = .ok (.iload 7, 2) := by decide +kernel
theorem dX11_tried_55 : decode cX11_tried 55 = .ok (.aload_n 0, 1) := by decide +kernel
theorem dX11_tried_56 : decode cX11_tried 56 = .ok (.iload_n 1, 1) := by decide +kernel
theorem dX11_tried_57 : decode cX11_tried 57 = .ok (.iload_n 2, 1) := by decide +kernel
theorem dX11_tried_58 : decode cX11_tried 58 = .ok (.iload 8, 2) := by decide +kernel
theorem dX11_tried_60 : decode cX11_tried 60 = .ok (.invokevirtual 285, 3) := by decide +kernel
theorem dX11_tried_63 : decode cX11_tried 63 = .ok (.iload 6, 2) := by decide +kernel
theorem dX11_tried_65 : decode cX11_tried 65 = .ok (.if_icmp .lt 7, 3) := by decide +kernel
theorem dX11_tried_68 : decode cX11_tried 68 = .ok (.iconst 1, 1) := by decide +kernel
theorem dX11_tried_69 : decode cX11_tried 69 = .ok (.goto 4, 3) := by decide +kernel
theorem dX11_tried_72 : decode cX11_tried 72 = .ok (.iconst 0, 1) := by decide +kernel
theorem dX11_tried_73 : decode cX11_tried 73 = .ok (.iadd, 1) := by decide +kernel
theorem dX11_tried_74 : decode cX11_tried 74 = .ok (.istore 7, 2) := by decide +kernel
theorem dX11_tried_76 : decode cX11_tried 76 = .ok (.iinc 8 1, 3) := by decide +kernel
theorem dX11_tried_79 : decode cX11_tried 79 = .ok (.goto (-33), 3) := by decide +kernel
theorem dX11_tried_82 : decode cX11_tried 82 = .ok (.iload 7, 2) := by decide +kernel
theorem dX11_tried_84 : decode cX11_tried 84 = .ok (.ireturn, 1) := by decide +kernel
theorem dX11_weight_0 : decode cX11_weight 0 = .ok (.iload_n 1, 1) := by decide +kernel
theorem dX11_weight_1 : decode cX11_weight 1 = .ok (.invokestatic 211, 3) := by decide +kernel
theorem dX11_weight_4 : decode cX11_weight 4 = .ok (.ifCond .eq 15, 3) := by decide +kernel
theorem dX11_weight_7 : decode cX11_weight 7 = .ok (.iload_n 2, 1) := by decide +kernel
theorem dX11_weight_8 : decode cX11_weight 8 = .ok (.i2l, 1) := by decide +kernel
theorem dX11_weight_9 : decode cX11_weight 9 = .ok (.lconst 0, 1) := by decide +kernel
theorem dX11_weight_10 : decode cX11_weight 10 = .ok (.ldc2_w 294, 3) := by decide +kernel
theorem dX11_weight_13 : decode cX11_weight 13 = .ok (.invokestatic 57, 3) := by decide +kernel
theorem dX11_weight_16 : decode cX11_weight 16 = .ok (.ifCond .ne 9, 3) := by decide +kernel
theorem dX11_weight_19 : decode cX11_weight 19 = .ok (.aload_n 0, 1) := by decide +kernel
theorem dX11_weight_20 : decode cX11_weight 20 = .ok (.iconst 1, 1) := by decide +kernel
theorem dX11_weight_21 : decode cX11_weight 21 = .ok (.invokevirtual 73, 3) := by decide +kernel
theorem dX11_weight_24 : decode cX11_weight 24 = .ok (.ireturn, 1) := by decide +kernel
theorem dX11_weight_25 : decode cX11_weight 25 = .ok (.aload_n 0, 1) := by decide +kernel
theorem dX11_weight_26 : decode cX11_weight 26 = .ok (.getfield 9, 3) := by decide +kernel
theorem dX11_weight_29 : decode cX11_weight 29 = .ok (.sipush 398, 3) := by decide +kernel
theorem dX11_weight_32 : decode cX11_weight 32 = .ok (.iload_n 1, 1) := by decide +kernel
theorem dX11_weight_33 : decode cX11_weight 33 = .ok (.iadd, 1) := by decide +kernel
theorem dX11_weight_34 : decode cX11_weight 34 = .ok (.iaload, 1) := by decide +kernel
theorem dX11_weight_35 : decode cX11_weight 35 = .ok (.istore_n 3, 1) := by decide +kernel
theorem dX11_weight_36 : decode cX11_weight 36 = .ok (.aload_n 0, 1) := by decide +kernel
theorem dX11_weight_37 : decode cX11_weight 37 = .ok (.getfield 9, 3) := by decide +kernel
theorem dX11_weight_40 : decode cX11_weight 40 = .ok (.sipush 398, 3) := by decide +kernel
theorem dX11_weight_43 : decode cX11_weight 43 = .ok (.iload_n 1, 1) := by decide +kernel
theorem dX11_weight_44 : decode cX11_weight 44 = .ok (.iadd, 1) := by decide +kernel
theorem dX11_weight_45 : decode cX11_weight 45 = .ok (.iload_n 2, 1) := by decide +kernel
theorem dX11_weight_46 : decode cX11_weight 46 = .ok (.iastore, 1) := by decide +kernel
theorem dX11_weight_47 : decode cX11_weight 47 = .ok (.iload_n 3, 1) := by decide +kernel
theorem dX11_weight_48 : decode cX11_weight 48 = .ok (.ireturn, 1) := by decide +kernel
theorem dX11_isYear_0 : decode cX11_isYear 0 = .ok (.iload_n 0, 1) := by decide +kernel
theorem dX11_isYear_1 : decode cX11_isYear 1 = .ok (.i2l, 1) := by decide +kernel
theorem dX11_isYear_2 : decode cX11_isYear 2 = .ok (.lconst 0, 1) := by decide +kernel
theorem dX11_isYear_3 : decode cX11_isYear 3 = .ok (.ldc2_w 217, 3) := by decide +kernel
theorem dX11_isYear_6 : decode cX11_isYear 6 = .ok (.invokestatic 57, 3) := by decide +kernel
theorem dX11_isYear_9 : decode cX11_isYear 9 = .ok (.ireturn, 1) := by decide +kernel
theorem dX11_year_0 : decode cX11_year 0 = .ok (.iload_n 1, 1) := by decide +kernel
theorem dX11_year_1 : decode cX11_year 1 = .ok (.invokestatic 296, 3) := by decide +kernel
theorem dX11_year_4 : decode cX11_year 4 = .ok (.ifCond .eq 15, 3) := by decide +kernel
theorem dX11_year_7 : decode cX11_year 7 = .ok (.iload_n 2, 1) := by decide +kernel
theorem dX11_year_8 : decode cX11_year 8 = .ok (.i2l, 1) := by decide +kernel
theorem dX11_year_9 : decode cX11_year 9 = .ok (.lconst 0, 1) := by decide +kernel
theorem dX11_year_10 : decode cX11_year 10 = .ok (.ldc2_w 294, 3) := by decide +kernel
theorem dX11_year_13 : decode cX11_year 13 = .ok (.invokestatic 57, 3) := by decide +kernel
theorem dX11_year_16 : decode cX11_year 16 = .ok (.ifCond .ne 9, 3) := by decide +kernel
theorem dX11_year_19 : decode cX11_year 19 = .ok (.aload_n 0, 1) := by decide +kernel
theorem dX11_year_20 : decode cX11_year 20 = .ok (.iconst 1, 1) := by decide +kernel
theorem dX11_year_21 : decode cX11_year 21 = .ok (.invokevirtual 73, 3) := by decide +kernel
theorem dX11_year_24 : decode cX11_year 24 = .ok (.ireturn, 1) := by decide +kernel
theorem dX11_year_25 : decode cX11_year 25 = .ok (.aload_n 0, 1) := by decide +kernel
theorem dX11_year_26 : decode cX11_year 26 = .ok (.getfield 9, 3) := by decide +kernel
theorem dX11_year_29 : decode cX11_year 29 = .ok (.sipush 404, 3) := by decide +kernel
theorem dX11_year_32 : decode cX11_year 32 = .ok (.iload_n 1, 1) := by decide +kernel
theorem dX11_year_33 : decode cX11_year 33 = .ok (.iadd, 1) := by decide +kernel
theorem dX11_year_34 : decode cX11_year 34 = .ok (.iaload, 1) := by decide +kernel
theorem dX11_year_35 : decode cX11_year 35 = .ok (.istore_n 3, 1) := by decide +kernel
theorem dX11_year_36 : decode cX11_year 36 = .ok (.aload_n 0, 1) := by decide +kernel
theorem dX11_year_37 : decode cX11_year 37 = .ok (.getfield 9, 3) := by decide +kernel
theorem dX11_year_40 : decode cX11_year 40 = .ok (.sipush 404, 3) := by decide +kernel
theorem dX11_year_43 : decode cX11_year 43 = .ok (.iload_n 1, 1) := by decide +kernel
theorem dX11_year_44 : decode cX11_year 44 = .ok (.iadd, 1) := by decide +kernel
theorem dX11_year_45 : decode cX11_year 45 = .ok (.iload_n 2, 1) := by decide +kernel
theorem dX11_year_46 : decode cX11_year 46 = .ok (.iastore, 1) := by decide +kernel
theorem dX11_year_47 : decode cX11_year 47 = .ok (.iload_n 3, 1) := by decide +kernel
theorem dX11_year_48 : decode cX11_year 48 = .ok (.ireturn, 1) := by decide +kernel
theorem dX11_oddsOf_0 : decode cX11_oddsOf 0 = .ok (.aload_n 0, 1) := by decide +kernel
theorem dX11_oddsOf_1 : decode cX11_oddsOf 1 = .ok (.getfield 9, 3) := by decide +kernel
theorem dX11_oddsOf_4 : decode cX11_oddsOf 4 = .ok (.sipush 398, 3) := by decide +kernel
theorem dX11_oddsOf_7 : decode cX11_oddsOf 7 = .ok (.iload_n 1, 1) := by decide +kernel
theorem dX11_oddsOf_8 : decode cX11_oddsOf 8 = .ok (.iadd, 1) := by decide +kernel
theorem dX11_oddsOf_9 : decode cX11_oddsOf 9 = .ok (.iaload, 1) := by decide +kernel
theorem dX11_oddsOf_10 : decode cX11_oddsOf 10 = .ok (.i2l, 1) := by decide +kernel
theorem dX11_oddsOf_11 : decode cX11_oddsOf 11 = .ok (.lstore_n 3, 1) := by decide +kernel
theorem dX11_oddsOf_12 : decode cX11_oddsOf 12 = .ok (.iconst 0, 1) := by decide +kernel
theorem dX11_oddsOf_13 : decode cX11_oddsOf 13 = .ok (.istore 5, 2) := by decide +kernel
theorem dX11_oddsOf_15 : decode cX11_oddsOf 15 = .ok (.iload 5, 2) := by decide +kernel
theorem dX11_oddsOf_17 : decode cX11_oddsOf 17 = .ok (.iload_n 2, 1) := by decide +kernel
theorem dX11_oddsOf_18 : decode cX11_oddsOf 18 = .ok (.if_icmp .gt 31, 3) := by decide +kernel
theorem dX11_oddsOf_21 : decode cX11_oddsOf 21 = .ok (.lload_n 3, 1) := by decide +kernel
theorem dX11_oddsOf_22 : decode cX11_oddsOf 22 = .ok (.aload_n 0, 1) := by decide +kernel
theorem dX11_oddsOf_23 : decode cX11_oddsOf 23 = .ok (.iload_n 1, 1) := by decide +kernel
theorem dX11_oddsOf_24 : decode cX11_oddsOf 24 = .ok (.aload_n 0, 1) := by decide +kernel
theorem dX11_oddsOf_25 : decode cX11_oddsOf 25 = .ok (.getfield 9, 3) := by decide +kernel
theorem dX11_oddsOf_28 : decode cX11_oddsOf 28 = .ok (.sipush 404, 3) := by decide +kernel
theorem dX11_oddsOf_31 : decode cX11_oddsOf 31 = .ok (.iload 5, 2) := by decide +kernel
theorem dX11_oddsOf_33 : decode cX11_oddsOf 33 = .ok (.iadd, 1) := by decide +kernel
theorem dX11_oddsOf_34 : decode cX11_oddsOf 34 = .ok (.iaload, 1) := by decide +kernel
theorem dX11_oddsOf_35 : decode cX11_oddsOf 35 = .ok (.iload 5, 2) := by decide +kernel
theorem dX11_oddsOf_37 : decode cX11_oddsOf 37 = .ok (.invokevirtual 214, 3) := by decide +kernel
theorem dX11_oddsOf_40 : decode cX11_oddsOf 40 = .ok (.i2l, 1) := by decide +kernel
theorem dX11_oddsOf_41 : decode cX11_oddsOf 41 = .ok (.lmul, 1) := by decide +kernel
theorem dX11_oddsOf_42 : decode cX11_oddsOf 42 = .ok (.lstore_n 3, 1) := by decide +kernel
theorem dX11_oddsOf_43 : decode cX11_oddsOf 43 = .ok (.iinc 5 1, 3) := by decide +kernel
theorem dX11_oddsOf_46 : decode cX11_oddsOf 46 = .ok (.goto (-31), 3) := by decide +kernel
theorem dX11_oddsOf_49 : decode cX11_oddsOf 49 = .ok (.lload_n 3, 1) := by decide +kernel
theorem dX11_oddsOf_50 : decode cX11_oddsOf 50 = .ok (.lreturn, 1) := by decide +kernel
theorem dX11_oddsOfAll_0 : decode cX11_oddsOfAll 0 = .ok (.lconst 0, 1) := by decide +kernel
theorem dX11_oddsOfAll_1 : decode cX11_oddsOfAll 1 = .ok (.lstore_n 2, 1) := by decide +kernel
theorem dX11_oddsOfAll_2 : decode cX11_oddsOfAll 2 = .ok (.iconst 0, 1) := by decide +kernel
theorem dX11_oddsOfAll_3 : decode cX11_oddsOfAll 3 = .ok (.istore 4, 2) := by decide +kernel
theorem dX11_oddsOfAll_5 : decode cX11_oddsOfAll 5 = .ok (.iload 4, 2) := by decide +kernel
theorem dX11_oddsOfAll_7 : decode cX11_oddsOfAll 7 = .ok (.bipush 6, 2) := by decide +kernel
theorem dX11_oddsOfAll_9 : decode cX11_oddsOfAll 9 = .ok (.if_icmp .ge 19, 3) := by decide +kernel
theorem dX11_oddsOfAll_12 : decode cX11_oddsOfAll 12 = .ok (.lload_n 2, 1) := by decide +kernel
theorem dX11_oddsOfAll_13 : decode cX11_oddsOfAll 13 = .ok (.aload_n 0, 1) := by decide +kernel
theorem dX11_oddsOfAll_14 : decode cX11_oddsOfAll 14 = .ok (.iload 4, 2) := by decide +kernel
theorem dX11_oddsOfAll_16 : decode cX11_oddsOfAll 16 = .ok (.iload_n 1, 1) := by decide +kernel
theorem dX11_oddsOfAll_17 : decode cX11_oddsOfAll 17 = .ok (.invokevirtual 299, 3) := by decide +kernel
theorem dX11_oddsOfAll_20 : decode cX11_oddsOfAll 20 = .ok (.ladd, 1) := by decide +kernel
theorem dX11_oddsOfAll_21 : decode cX11_oddsOfAll 21 = .ok (.lstore_n 2, 1) := by decide +kernel
theorem dX11_oddsOfAll_22 : decode cX11_oddsOfAll 22 = .ok (.iinc 4 1, 3) := by decide +kernel
theorem dX11_oddsOfAll_25 : decode cX11_oddsOfAll 25 = .ok (.goto (-20), 3) := by decide +kernel
theorem dX11_oddsOfAll_28 : decode cX11_oddsOfAll 28 = .ok (.lload_n 2, 1) := by decide +kernel
theorem dX11_oddsOfAll_29 : decode cX11_oddsOfAll 29 = .ok (.lreturn, 1) := by decide +kernel
theorem dX11_all_0 : decode cX11_all 0 = .ok (.iload_n 1, 1) := by decide +kernel
theorem dX11_all_1 : decode cX11_all 1 = .ok (.invokestatic 211, 3) := by decide +kernel
theorem dX11_all_4 : decode cX11_all 4 = .ok (.ifCond .eq 20, 3) := by decide +kernel
theorem dX11_all_7 : decode cX11_all 7 = .ok (.iload_n 2, 1) := by decide +kernel
theorem dX11_all_8 : decode cX11_all 8 = .ok (.invokestatic 296, 3) := by decide +kernel
theorem dX11_all_11 : decode cX11_all 11 = .ok (.ifCond .eq 13, 3) := by decide +kernel
theorem dX11_all_14 : decode cX11_all 14 = .ok (.iload_n 3, 1) := by decide +kernel
theorem dX11_all_15 : decode cX11_all 15 = .ok (.i2l, 1) := by decide +kernel
theorem dX11_all_16 : decode cX11_all 16 = .ok (.lconst 0, 1) := by decide +kernel
theorem dX11_all_17 : decode cX11_all 17 = .ok (.lconst 1, 1) := by decide +kernel
theorem dX11_all_18 : decode cX11_all 18 = .ok (.invokestatic 57, 3) := by decide +kernel
theorem dX11_all_21 : decode cX11_all 21 = .ok (.ifCond .ne 10, 3) := by decide +kernel
theorem dX11_all_24 : decode cX11_all 24 = .ok (.aload_n 0, 1) := by decide +kernel
theorem dX11_all_25 : decode cX11_all 25 = .ok (.iconst 1, 1) := by decide +kernel
theorem dX11_all_26 : decode cX11_all 26 = .ok (.invokevirtual 73, 3) := by decide +kernel
theorem dX11_all_29 : decode cX11_all 29 = .ok (.i2l, 1) := by decide +kernel
theorem dX11_all_30 : decode cX11_all 30 = .ok (.lreturn, 1) := by decide +kernel
theorem dX11_all_31 : decode cX11_all 31 = .ok (.aload_n 0, 1) := by decide +kernel
theorem dX11_all_32 : decode cX11_all 32 = .ok (.iload_n 2, 1) := by decide +kernel
theorem dX11_all_33 : decode cX11_all 33 = .ok (.invokevirtual 303, 3) := by decide +kernel
theorem dX11_all_36 : decode cX11_all 36 = .ok (.lstore 4, 2) := by decide +kernel
theorem dX11_all_38 : decode cX11_all 38 = .ok (.lload 4, 2) := by decide +kernel
theorem dX11_all_40 : decode cX11_all 40 = .ok (.lconst 0, 1) := by decide +kernel
theorem dX11_all_41 : decode cX11_all 41 = .ok (.lcmp, 1) := by decide +kernel
theorem dX11_all_42 : decode cX11_all 42 = .ok (.ifCond .ne 6, 3) := by decide +kernel
theorem dX11_all_45 : decode cX11_all 45 = .ok (.iload_n 3, 1) := by decide +kernel
theorem dX11_all_46 : decode cX11_all 46 = .ok (.i2l, 1) := by decide +kernel
theorem dX11_all_47 : decode cX11_all 47 = .ok (.lreturn, 1) := by decide +kernel
theorem dX11_all_48 : decode cX11_all 48 = .ok (.aload_n 0, 1) := by decide +kernel
theorem dX11_all_49 : decode cX11_all 49 = .ok (.iload_n 1, 1) := by decide +kernel
theorem dX11_all_50 : decode cX11_all 50 = .ok (.iload_n 2, 1) := by decide +kernel
theorem dX11_all_51 : decode cX11_all 51 = .ok (.invokevirtual 299, 3) := by decide +kernel
theorem dX11_all_54 : decode cX11_all 54 = .ok (.lstore 6, 2) := by decide +kernel
theorem dX11_all_56 : decode cX11_all 56 = .ok (.lload 6, 2) := by decide +kernel
theorem dX11_all_58 : decode cX11_all 58 = .ok (.lload 4, 2) := by decide +kernel
theorem dX11_all_60 : decode cX11_all 60 = .ok (.invokestatic 249, 3) := by decide +kernel
theorem dX11_all_63 : decode cX11_all 63 = .ok (.lstore 8, 2) := by decide +kernel
theorem dX11_all_65 : decode cX11_all 65 = .ok (.iload_n 3, 1) := by decide +kernel
theorem dX11_all_66 : decode cX11_all 66 = .ok (.ifCond .ne 11, 3) := by decide +kernel
theorem dX11_all_69 : decode cX11_all 69 = .ok (.lload 6, 2) := by decide +kernel
theorem dX11_all_71 : decode cX11_all 71 = .ok (.lload 8, 2) := by decide +kernel
theorem dX11_all_73 : decode cX11_all 73 = .ok (.ldiv, 1) := by decide +kernel
theorem dX11_all_74 : decode cX11_all 74 = .ok (.goto 8, 3) := by decide +kernel
theorem dX11_all_77 : decode cX11_all 77 = .ok (.lload 4, 2) := by decide +kernel
theorem dX11_all_79 : decode cX11_all 79 = .ok (.lload 8, 2) := by decide +kernel
theorem dX11_all_81 : decode cX11_all 81 = .ok (.ldiv, 1) := by decide +kernel
theorem dX11_all_82 : decode cX11_all 82 = .ok (.lreturn, 1) := by decide +kernel
theorem dX11_say_0 : decode cX11_say 0 = .ok (.iload_n 1, 1) := by decide +kernel
theorem dX11_say_1 : decode cX11_say 1 = .ok (.invokestatic 296, 3) := by decide +kernel
theorem dX11_say_4 : decode cX11_say 4 = .ok (.ifCond .ne 9, 3) := by decide +kernel
theorem dX11_say_7 : decode cX11_say 7 = .ok (.aload_n 0, 1) := by decide +kernel
theorem dX11_say_8 : decode cX11_say 8 = .ok (.iconst 1, 1) := by decide +kernel
theorem dX11_say_9 : decode cX11_say 9 = .ok (.invokevirtual 73, 3) := by decide +kernel
theorem dX11_say_12 : decode cX11_say 12 = .ok (.ireturn, 1) := by decide +kernel
theorem dX11_say_13 : decode cX11_say 13 = .ok (.aload_n 0, 1) := by decide +kernel
theorem dX11_say_14 : decode cX11_say 14 = .ok (.iload_n 1, 1) := by decide +kernel
theorem dX11_say_15 : decode cX11_say 15 = .ok (.invokevirtual 303, 3) := by decide +kernel
theorem dX11_say_18 : decode cX11_say 18 = .ok (.lstore_n 2, 1) := by decide +kernel
theorem dX11_say_19 : decode cX11_say 19 = .ok (.iconst 0, 1) := by decide +kernel
theorem dX11_say_20 : decode cX11_say 20 = .ok (.istore 4, 2) := by decide +kernel
theorem dX11_say_22 : decode cX11_say 22 = .ok (.iconst 0, 1) := by decide +kernel
theorem dX11_say_23 : decode cX11_say 23 = .ok (.istore 5, 2) := by decide +kernel
theorem dX11_say_25 : decode cX11_say 25 = .ok (.iload 5, 2) := by decide +kernel
theorem dX11_say_27 : decode cX11_say 27 = .ok (.bipush 6, 2) := by decide +kernel
theorem dX11_say_29 : decode cX11_say 29 = .ok (.if_icmp .ge 77, 3) := by decide +kernel
theorem dX11_say_32 : decode cX11_say 32 = .ok (.lload_n 2, 1) := by decide +kernel
theorem dX11_say_33 : decode cX11_say 33 = .ok (.lconst 0, 1) := by decide +kernel
theorem dX11_say_34 : decode cX11_say 34 = .ok (.lcmp, 1) := by decide +kernel
theorem dX11_say_35 : decode cX11_say 35 = .ok (.ifCond .le 71, 3) := by decide +kernel
theorem dX11_say_38 : decode cX11_say 38 = .ok (.aload_n 0, 1) := by decide +kernel
theorem dX11_say_39 : decode cX11_say 39 = .ok (.iload 5, 2) := by decide +kernel
theorem dX11_say_41 : decode cX11_say 41 = .ok (.iload_n 1, 1) := by decide +kernel
theorem dX11_say_42 : decode cX11_say 42 = .ok (.invokevirtual 299, 3) := by decide +kernel
theorem dX11_say_45 : decode cX11_say 45 = .ok (.lstore 6, 2) := by decide +kernel
theorem dX11_say_47 : decode cX11_say 47 = .ok (.ldc2_w 307, 3) := by decide +kernel
theorem dX11_say_50 : decode cX11_say 50 = .ok (.lload 6, 2) := by decide +kernel
theorem dX11_say_52 : decode cX11_say 52 = .ok (.lmul, 1) := by decide +kernel
theorem dX11_say_53 : decode cX11_say 53 = .ok (.ldc2_w 309, 3) := by decide +kernel
theorem dX11_say_56 : decode cX11_say 56 = .ok (.lload_n 2, 1) := by decide +kernel
theorem dX11_say_57 : decode cX11_say 57 = .ok (.lmul, 1) := by decide +kernel
theorem dX11_say_58 : decode cX11_say 58 = .ok (.lcmp, 1) := by decide +kernel
theorem dX11_say_59 : decode cX11_say 59 = .ok (.ifCond .lt 7, 3) := by decide +kernel
theorem dX11_say_62 : decode cX11_say 62 = .ok (.iconst 2, 1) := by decide +kernel
theorem dX11_say_63 : decode cX11_say 63 = .ok (.goto 19, 3) := by decide +kernel
theorem dX11_say_66 : decode cX11_say 66 = .ok (.ldc2_w 69, 3) := by decide +kernel
theorem dX11_say_69 : decode cX11_say 69 = .ok (.lload 6, 2) := by decide +kernel
theorem dX11_say_71 : decode cX11_say 71 = .ok (.lmul, 1) := by decide +kernel
theorem dX11_say_72 : decode cX11_say 72 = .ok (.lload_n 2, 1) := by decide +kernel
theorem dX11_say_73 : decode cX11_say 73 = .ok (.lcmp, 1) := by decide +kernel
theorem dX11_say_74 : decode cX11_say 74 = .ok (.ifCond .lt 7, 3) := by decide +kernel
theorem dX11_say_77 : decode cX11_say 77 = .ok (.iconst 1, 1) := by decide +kernel
theorem dX11_say_78 : decode cX11_say 78 = .ok (.goto 4, 3) := by decide +kernel
theorem dX11_say_81 : decode cX11_say 81 = .ok (.iconst 0, 1) := by decide +kernel
theorem dX11_say_82 : decode cX11_say 82 = .ok (.istore 8, 2) := by decide +kernel
theorem dX11_say_84 : decode cX11_say 84 = .ok (.iload 8, 2) := by decide +kernel
theorem dX11_say_86 : decode cX11_say 86 = .ok (.iload 4, 2) := by decide +kernel
theorem dX11_say_88 : decode cX11_say 88 = .ok (.if_icmp .le 8, 3) := by decide +kernel
theorem dX11_say_91 : decode cX11_say 91 = .ok (.iload 8, 2) := by decide +kernel
theorem dX11_say_93 : decode cX11_say 93 = .ok (.goto 5, 3) := by decide +kernel
theorem dX11_say_96 : decode cX11_say 96 = .ok (.iload 4, 2) := by decide +kernel
theorem dX11_say_98 : decode cX11_say 98 = .ok (.istore 4, 2) := by decide +kernel
theorem dX11_say_100 : decode cX11_say 100 = .ok (.iinc 5 1, 3) := by decide +kernel
theorem dX11_say_103 : decode cX11_say 103 = .ok (.goto (-78), 3) := by decide +kernel
theorem dX11_say_106 : decode cX11_say 106 = .ok (.iload 4, 2) := by decide +kernel
theorem dX11_say_108 : decode cX11_say 108 = .ok (.ireturn, 1) := by decide +kernel
theorem dX11_find_0 : decode cX11_find 0 = .ok (.iload_n 1, 1) := by decide +kernel
theorem dX11_find_1 : decode cX11_find 1 = .ok (.invokestatic 211, 3) := by decide +kernel
theorem dX11_find_4 : decode cX11_find 4 = .ok (.ifCond .eq 10, 3) := by decide +kernel
theorem dX11_find_7 : decode cX11_find 7 = .ok (.iload_n 2, 1) := by decide +kernel
theorem dX11_find_8 : decode cX11_find 8 = .ok (.invokestatic 211, 3) := by decide +kernel
theorem dX11_find_11 : decode cX11_find 11 = .ok (.ifCond .ne 9, 3) := by decide +kernel
theorem dX11_find_14 : decode cX11_find 14 = .ok (.aload_n 0, 1) := by decide +kernel
theorem dX11_find_15 : decode cX11_find 15 = .ok (.iconst 1, 1) := by decide +kernel
theorem dX11_find_16 : decode cX11_find 16 = .ok (.invokevirtual 73, 3) := by decide +kernel
theorem dX11_find_19 : decode cX11_find 19 = .ok (.ireturn, 1) := by decide +kernel
theorem dX11_find_20 : decode cX11_find 20 = .ok (.iconst 0, 1) := by decide +kernel
theorem dX11_find_21 : decode cX11_find 21 = .ok (.istore_n 3, 1) := by decide +kernel
theorem dX11_find_22 : decode cX11_find 22 = .ok (.iload_n 3, 1) := by decide +kernel
theorem dX11_find_23 : decode cX11_find 23 = .ok (.bipush 100, 2) := by decide +kernel
theorem dX11_find_25 : decode cX11_find 25 = .ok (.if_icmp .ge 52, 3) := by decide +kernel
theorem dX11_find_28 : decode cX11_find 28 = .ok (.iconst 0, 1) := by decide +kernel
theorem dX11_find_29 : decode cX11_find 29 = .ok (.istore 4, 2) := by decide +kernel
theorem dX11_find_31 : decode cX11_find 31 = .ok (.iload 4, 2) := by decide +kernel
theorem dX11_find_33 : decode cX11_find 33 = .ok (.bipush 8, 2) := by decide +kernel
theorem dX11_find_35 : decode cX11_find 35 = .ok (.if_icmp .ge 36, 3) := by decide +kernel
theorem dX11_find_38 : decode cX11_find 38 = .ok (.aload_n 0, 1) := by decide +kernel
theorem dX11_find_39 : decode cX11_find 39 = .ok (.iload_n 1, 1) := by decide +kernel
theorem dX11_find_40 : decode cX11_find 40 = .ok (.iload_n 3, 1) := by decide +kernel
theorem dX11_find_41 : decode cX11_find 41 = .ok (.iload 4, 2) := by decide +kernel
theorem dX11_find_43 : decode cX11_find 43 = .ok (.invokevirtual 214, 3) := by decide +kernel
theorem dX11_find_46 : decode cX11_find 46 = .ok (.aload_n 0, 1) := by decide +kernel
theorem dX11_find_47 : decode cX11_find 47 = .ok (.iload_n 2, 1) := by decide +kernel
theorem dX11_find_48 : decode cX11_find 48 = .ok (.iload_n 3, 1) := by decide +kernel
theorem dX11_find_49 : decode cX11_find 49 = .ok (.iload 4, 2) := by decide +kernel
theorem dX11_find_51 : decode cX11_find 51 = .ok (.invokevirtual 214, 3) := by decide +kernel
theorem dX11_find_54 : decode cX11_find 54 = .ok (.if_icmp .eq 11, 3) := by decide +kernel
theorem dX11_find_57 : decode cX11_find 57 = .ok (.bipush 10, 2) := by decide +kernel
theorem dX11_find_59 : decode cX11_find 59 = .ok (.iload_n 3, 1) := by decide +kernel
theorem dX11_find_60 : decode cX11_find 60 = .ok (.imul, 1) := by decide +kernel
theorem dX11_find_61 : decode cX11_find 61 = .ok (.iload 4, 2) := by decide +kernel
theorem dX11_find_63 : decode cX11_find 63 = .ok (.iadd, 1) := by decide +kernel
theorem dX11_find_64 : decode cX11_find 64 = .ok (.ireturn, 1) := by decide +kernel
theorem dX11_find_65 : decode cX11_find 65 = .ok (.iinc 4 1, 3) := by decide +kernel
theorem dX11_find_68 : decode cX11_find 68 = .ok (.goto (-37), 3) := by decide +kernel
theorem dX11_find_71 : decode cX11_find 71 = .ok (.iinc 3 1, 3) := by decide +kernel
theorem dX11_find_74 : decode cX11_find 74 = .ok (.goto (-52), 3) := by decide +kernel
theorem dX11_find_77 : decode cX11_find 77 = .ok (.aload_n 0, 1) := by decide +kernel
theorem dX11_find_78 : decode cX11_find 78 = .ok (.iconst 2, 1) := by decide +kernel
theorem dX11_find_79 : decode cX11_find 79 = .ok (.invokevirtual 73, 3) := by decide +kernel
theorem dX11_find_82 : decode cX11_find 82 = .ok (.ireturn, 1) := by decide +kernel
theorem dX11_quiet_0 : decode cX11_quiet 0 = .ok (.iload_n 1, 1) := by decide +kernel
theorem dX11_quiet_1 : decode cX11_quiet 1 = .ok (.i2l, 1) := by decide +kernel
theorem dX11_quiet_2 : decode cX11_quiet 2 = .ok (.lconst 1, 1) := by decide +kernel
theorem dX11_quiet_3 : decode cX11_quiet 3 = .ok (.ldc2_w 61, 3) := by decide +kernel
theorem dX11_quiet_6 : decode cX11_quiet 6 = .ok (.invokestatic 57, 3) := by decide +kernel
theorem dX11_quiet_9 : decode cX11_quiet 9 = .ok (.ifCond .eq 15, 3) := by decide +kernel
theorem dX11_quiet_12 : decode cX11_quiet 12 = .ok (.iload_n 2, 1) := by decide +kernel
theorem dX11_quiet_13 : decode cX11_quiet 13 = .ok (.i2l, 1) := by decide +kernel
theorem dX11_quiet_14 : decode cX11_quiet 14 = .ok (.lconst 1, 1) := by decide +kernel
theorem dX11_quiet_15 : decode cX11_quiet 15 = .ok (.ldc2_w 77, 3) := by decide +kernel
theorem dX11_quiet_18 : decode cX11_quiet 18 = .ok (.invokestatic 57, 3) := by decide +kernel
theorem dX11_quiet_21 : decode cX11_quiet 21 = .ok (.ifCond .ne 9, 3) := by decide +kernel
theorem dX11_quiet_24 : decode cX11_quiet 24 = .ok (.aload_n 0, 1) := by decide +kernel
theorem dX11_quiet_25 : decode cX11_quiet 25 = .ok (.iconst 1, 1) := by decide +kernel
theorem dX11_quiet_26 : decode cX11_quiet 26 = .ok (.invokevirtual 73, 3) := by decide +kernel
theorem dX11_quiet_29 : decode cX11_quiet 29 = .ok (.ireturn, 1) := by decide +kernel
theorem dX11_quiet_30 : decode cX11_quiet 30 = .ok (.aload_n 0, 1) := by decide +kernel
theorem dX11_quiet_31 : decode cX11_quiet 31 = .ok (.getfield 9, 3) := by decide +kernel
theorem dX11_quiet_34 : decode cX11_quiet 34 = .ok (.iconst 5, 1) := by decide +kernel
theorem dX11_quiet_35 : decode cX11_quiet 35 = .ok (.iaload, 1) := by decide +kernel
theorem dX11_quiet_36 : decode cX11_quiet 36 = .ok (.istore_n 3, 1) := by decide +kernel
theorem dX11_quiet_37 : decode cX11_quiet 37 = .ok (.iload_n 3, 1) := by decide +kernel
theorem dX11_quiet_38 : decode cX11_quiet 38 = .ok (.bipush 8, 2) := by decide +kernel
theorem dX11_quiet_40 : decode cX11_quiet 40 = .ok (.if_icmp .ne 9, 3) := by decide +kernel
theorem dX11_quiet_43 : decode cX11_quiet 43 = .ok (.aload_n 0, 1) := by decide +kernel
theorem dX11_quiet_44 : decode cX11_quiet 44 = .ok (.iconst 4, 1) := by decide +kernel
theorem dX11_quiet_45 : decode cX11_quiet 45 = .ok (.invokevirtual 73, 3) := by decide +kernel
theorem dX11_quiet_48 : decode cX11_quiet 48 = .ok (.ireturn, 1) := by decide +kernel
theorem dX11_quiet_49 : decode cX11_quiet 49 = .ok (.aload_n 0, 1) := by decide +kernel
theorem dX11_quiet_50 : decode cX11_quiet 50 = .ok (.getfield 9, 3) := by decide +kernel
theorem dX11_quiet_53 : decode cX11_quiet 53 = .ok (.sipush 382, 3) := by decide +kernel
theorem dX11_quiet_56 : decode cX11_quiet 56 = .ok (.iconst 2, 1) := by decide +kernel
theorem dX11_quiet_57 : decode cX11_quiet 57 = .ok (.iload_n 3, 1) := by decide +kernel
theorem dX11_quiet_58 : decode cX11_quiet 58 = .ok (.imul, 1) := by decide +kernel
theorem dX11_quiet_59 : decode cX11_quiet 59 = .ok (.iadd, 1) := by decide +kernel
theorem dX11_quiet_60 : decode cX11_quiet 60 = .ok (.iload_n 1, 1) := by decide +kernel
theorem dX11_quiet_61 : decode cX11_quiet 61 = .ok (.iastore, 1) := by decide +kernel
theorem dX11_quiet_62 : decode cX11_quiet 62 = .ok (.aload_n 0, 1) := by decide +kernel
theorem dX11_quiet_63 : decode cX11_quiet 63 = .ok (.getfield 9, 3) := by decide +kernel
theorem dX11_quiet_66 : decode cX11_quiet 66 = .ok (.sipush 382, 3) := by decide +kernel
theorem dX11_quiet_69 : decode cX11_quiet 69 = .ok (.iconst 2, 1) := by decide +kernel
theorem dX11_quiet_70 : decode cX11_quiet 70 = .ok (.iload_n 3, 1) := by decide +kernel
theorem dX11_quiet_71 : decode cX11_quiet 71 = .ok (.imul, 1) := by decide +kernel
theorem dX11_quiet_72 : decode cX11_quiet 72 = .ok (.iadd, 1) := by decide +kernel
theorem dX11_quiet_73 : decode cX11_quiet 73 = .ok (.iconst 1, 1) := by decide +kernel
theorem dX11_quiet_74 : decode cX11_quiet 74 = .ok (.iadd, 1) := by decide +kernel
theorem dX11_quiet_75 : decode cX11_quiet 75 = .ok (.iload_n 2, 1) := by decide +kernel
theorem dX11_quiet_76 : decode cX11_quiet 76 = .ok (.iastore, 1) := by decide +kernel
theorem dX11_quiet_77 : decode cX11_quiet 77 = .ok (.aload_n 0, 1) := by decide +kernel
theorem dX11_quiet_78 : decode cX11_quiet 78 = .ok (.getfield 9, 3) := by decide +kernel
theorem dX11_quiet_81 : decode cX11_quiet 81 = .ok (.iconst 5, 1) := by decide +kernel
theorem dX11_quiet_82 : decode cX11_quiet 82 = .ok (.dup2, 1) := by decide +kernel
theorem dX11_quiet_83 : decode cX11_quiet 83 = .ok (.iaload, 1) := by decide +kernel
theorem dX11_quiet_84 : decode cX11_quiet 84 = .ok (.iconst 1, 1) := by decide +kernel
theorem dX11_quiet_85 : decode cX11_quiet 85 = .ok (.iadd, 1) := by decide +kernel
theorem dX11_quiet_86 : decode cX11_quiet 86 = .ok (.iastore, 1) := by decide +kernel
theorem dX11_quiet_87 : decode cX11_quiet 87 = .ok (.iload_n 3, 1) := by decide +kernel
theorem dX11_quiet_88 : decode cX11_quiet 88 = .ok (.iconst 1, 1) := by decide +kernel
theorem dX11_quiet_89 : decode cX11_quiet 89 = .ok (.iadd, 1) := by decide +kernel
theorem dX11_quiet_90 : decode cX11_quiet 90 = .ok (.ireturn, 1) := by decide +kernel
theorem dX11_bound_0 : decode cX11_bound 0 = .ok (.iload_n 1, 1) := by decide +kernel
theorem dX11_bound_1 : decode cX11_bound 1 = .ok (.i2l, 1) := by decide +kernel
theorem dX11_bound_2 : decode cX11_bound 2 = .ok (.lconst 1, 1) := by decide +kernel
theorem dX11_bound_3 : decode cX11_bound 3 = .ok (.ldc2_w 61, 3) := by decide +kernel
theorem dX11_bound_6 : decode cX11_bound 6 = .ok (.invokestatic 57, 3) := by decide +kernel
theorem dX11_bound_9 : decode cX11_bound 9 = .ok (.ifCond .ne 9, 3) := by decide +kernel
theorem dX11_bound_12 : decode cX11_bound 12 = .ok (.aload_n 0, 1) := by decide +kernel
theorem dX11_bound_13 : decode cX11_bound 13 = .ok (.iconst 1, 1) := by decide +kernel
theorem dX11_bound_14 : decode cX11_bound 14 = .ok (.invokevirtual 73, 3) := by decide +kernel
theorem dX11_bound_17 : decode cX11_bound 17 = .ok (.ireturn, 1) := by decide +kernel
theorem dX11_bound_18 : decode cX11_bound 18 = .ok (.iconst (-1), 1) := by decide +kernel
theorem dX11_bound_19 : decode cX11_bound 19 = .ok (.istore_n 2, 1) := by decide +kernel
theorem dX11_bound_20 : decode cX11_bound 20 = .ok (.iconst 0, 1) := by decide +kernel
theorem dX11_bound_21 : decode cX11_bound 21 = .ok (.istore_n 3, 1) := by decide +kernel
theorem dX11_bound_22 : decode cX11_bound 22 = .ok (.iload_n 3, 1) := by decide +kernel
theorem dX11_bound_23 : decode cX11_bound 23 = .ok (.aload_n 0, 1) := by decide +kernel
theorem dX11_bound_24 : decode cX11_bound 24 = .ok (.getfield 9, 3) := by decide +kernel
theorem dX11_bound_27 : decode cX11_bound 27 = .ok (.iconst 5, 1) := by decide +kernel
theorem dX11_bound_28 : decode cX11_bound 28 = .ok (.iaload, 1) := by decide +kernel
theorem dX11_bound_29 : decode cX11_bound 29 = .ok (.if_icmp .ge 58, 3) := by decide +kernel
theorem dX11_bound_32 : decode cX11_bound 32 = .ok (.sipush 30000, 3) := by decide +kernel
theorem dX11_bound_35 : decode cX11_bound 35 = .ok (.aload_n 0, 1) := by decide +kernel
theorem dX11_bound_36 : decode cX11_bound 36 = .ok (.getfield 9, 3) := by decide +kernel
theorem dX11_bound_39 : decode cX11_bound 39 = .ok (.sipush 382, 3) := by decide +kernel
theorem dX11_bound_42 : decode cX11_bound 42 = .ok (.iconst 2, 1) := by decide +kernel
theorem dX11_bound_43 : decode cX11_bound 43 = .ok (.iload_n 3, 1) := by decide +kernel
theorem dX11_bound_44 : decode cX11_bound 44 = .ok (.imul, 1) := by decide +kernel
theorem dX11_bound_45 : decode cX11_bound 45 = .ok (.iadd, 1) := by decide +kernel
theorem dX11_bound_46 : decode cX11_bound 46 = .ok (.iconst 1, 1) := by decide +kernel
theorem dX11_bound_47 : decode cX11_bound 47 = .ok (.iadd, 1) := by decide +kernel
theorem dX11_bound_48 : decode cX11_bound 48 = .ok (.iaload, 1) := by decide +kernel
theorem dX11_bound_49 : decode cX11_bound 49 = .ok (.idiv, 1) := by decide +kernel
theorem dX11_bound_50 : decode cX11_bound 50 = .ok (.istore 4, 2) := by decide +kernel
theorem dX11_bound_52 : decode cX11_bound 52 = .ok (.aload_n 0, 1) := by decide +kernel
theorem dX11_bound_53 : decode cX11_bound 53 = .ok (.getfield 9, 3) := by decide +kernel
theorem dX11_bound_56 : decode cX11_bound 56 = .ok (.sipush 382, 3) := by decide +kernel
theorem dX11_bound_59 : decode cX11_bound 59 = .ok (.iconst 2, 1) := by decide +kernel
theorem dX11_bound_60 : decode cX11_bound 60 = .ok (.iload_n 3, 1) := by decide +kernel
theorem dX11_bound_61 : decode cX11_bound 61 = .ok (.imul, 1) := by decide +kernel
theorem dX11_bound_62 : decode cX11_bound 62 = .ok (.iadd, 1) := by decide +kernel
theorem dX11_bound_63 : decode cX11_bound 63 = .ok (.iaload, 1) := by decide +kernel
theorem dX11_bound_64 : decode cX11_bound 64 = .ok (.iload_n 1, 1) := by decide +kernel
theorem dX11_bound_65 : decode cX11_bound 65 = .ok (.if_icmp .gt 16, 3) := by decide +kernel
theorem dX11_bound_68 : decode cX11_bound 68 = .ok (.iload_n 2, 1) := by decide +kernel
theorem dX11_bound_69 : decode cX11_bound 69 = .ok (.ifCond .lt 9, 3) := by decide +kernel
theorem dX11_bound_72 : decode cX11_bound 72 = .ok (.iload 4, 2) := by decide +kernel
theorem dX11_bound_74 : decode cX11_bound 74 = .ok (.iload_n 2, 1) := by decide +kernel
theorem dX11_bound_75 : decode cX11_bound 75 = .ok (.if_icmp .ge 6, 3) := by decide +kernel
theorem dX11_bound_78 : decode cX11_bound 78 = .ok (.iload 4, 2) := by decide +kernel
theorem dX11_bound_80 : decode cX11_bound 80 = .ok (.istore_n 2, 1) := by decide +kernel
theorem dX11_bound_81 : decode cX11_bound 81 = .ok (.iinc 3 1, 3) := by decide +kernel
theorem dX11_bound_84 : decode cX11_bound 84 = .ok (.goto (-62), 3) := by decide +kernel
theorem dX11_bound_87 : decode cX11_bound 87 = .ok (.iload_n 2, 1) := by decide +kernel
theorem dX11_bound_88 : decode cX11_bound 88 = .ok (.ifCond .ge 11, 3) := by decide +kernel
theorem dX11_bound_91 : decode cX11_bound 91 = .ok (.aload_n 0, 1) := by decide +kernel
theorem dX11_bound_92 : decode cX11_bound 92 = .ok (.iconst 2, 1) := by decide +kernel
theorem dX11_bound_93 : decode cX11_bound 93 = .ok (.invokevirtual 73, 3) := by decide +kernel
theorem dX11_bound_96 : decode cX11_bound 96 = .ok (.goto 4, 3) := by decide +kernel
theorem dX11_bound_99 : decode cX11_bound 99 = .ok (.iload_n 2, 1) := by decide +kernel
theorem dX11_bound_100 : decode cX11_bound 100 = .ok (.ireturn, 1) := by decide +kernel
theorem dX11_gone_0 : decode cX11_gone 0 = .ok (.iload_n 1, 1) := by decide +kernel
theorem dX11_gone_1 : decode cX11_gone 1 = .ok (.i2l, 1) := by decide +kernel
theorem dX11_gone_2 : decode cX11_gone 2 = .ok (.lconst 1, 1) := by decide +kernel
theorem dX11_gone_3 : decode cX11_gone 3 = .ok (.ldc2_w 311, 3) := by decide +kernel
theorem dX11_gone_6 : decode cX11_gone 6 = .ok (.invokestatic 57, 3) := by decide +kernel
theorem dX11_gone_9 : decode cX11_gone 9 = .ok (.ifCond .eq 27, 3) := by decide +kernel
theorem dX11_gone_12 : decode cX11_gone 12 = .ok (.iload_n 2, 1) := by decide +kernel
theorem dX11_gone_13 : decode cX11_gone 13 = .ok (.i2l, 1) := by decide +kernel
theorem dX11_gone_14 : decode cX11_gone 14 = .ok (.lconst 1, 1) := by decide +kernel
theorem dX11_gone_15 : decode cX11_gone 15 = .ok (.ldc2_w 61, 3) := by decide +kernel
theorem dX11_gone_18 : decode cX11_gone 18 = .ok (.invokestatic 57, 3) := by decide +kernel
theorem dX11_gone_21 : decode cX11_gone 21 = .ok (.ifCond .eq 15, 3) := by decide +kernel
theorem dX11_gone_24 : decode cX11_gone 24 = .ok (.iload_n 3, 1) := by decide +kernel
theorem dX11_gone_25 : decode cX11_gone 25 = .ok (.i2l, 1) := by decide +kernel
theorem dX11_gone_26 : decode cX11_gone 26 = .ok (.lconst 1, 1) := by decide +kernel
theorem dX11_gone_27 : decode cX11_gone 27 = .ok (.ldc2_w 309, 3) := by decide +kernel
theorem dX11_gone_30 : decode cX11_gone 30 = .ok (.invokestatic 57, 3) := by decide +kernel
theorem dX11_gone_33 : decode cX11_gone 33 = .ok (.ifCond .ne 9, 3) := by decide +kernel
theorem dX11_gone_36 : decode cX11_gone 36 = .ok (.aload_n 0, 1) := by decide +kernel
theorem dX11_gone_37 : decode cX11_gone 37 = .ok (.iconst 1, 1) := by decide +kernel
theorem dX11_gone_38 : decode cX11_gone 38 = .ok (.invokevirtual 73, 3) := by decide +kernel
theorem dX11_gone_41 : decode cX11_gone 41 = .ok (.ireturn, 1) := by decide +kernel
theorem dX11_gone_42 : decode cX11_gone 42 = .ok (.iload_n 1, 1) := by decide +kernel
theorem dX11_gone_43 : decode cX11_gone 43 = .ok (.istore 4, 2) := by decide +kernel
theorem dX11_gone_45 : decode cX11_gone 45 = .ok (.iconst 1, 1) := by decide +kernel
theorem dX11_gone_46 : decode cX11_gone 46 = .ok (.istore 5, 2) := by decide +kernel
theorem dX11_gone_48 : decode cX11_gone 48 = .ok (.iload 5, 2) := by decide +kernel
theorem dX11_gone_50 : decode cX11_gone 50 = .ok (.sipush 1000, 3) := by decide +kernel
theorem dX11_gone_53 : decode cX11_gone 53 = .ok (.if_icmp .ge 52, 3) := by decide +kernel
theorem dX11_gone_56 : decode cX11_gone 56 = .ok (.iconst 0, 1) := by decide +kernel
theorem dX11_gone_57 : decode cX11_gone 57 = .ok (.istore 6, 2) := by decide +kernel
theorem dX11_gone_59 : decode cX11_gone 59 = .ok (.iload 6, 2) := by decide +kernel
theorem dX11_gone_61 : decode cX11_gone 61 = .ok (.iload_n 3, 1) := by decide +kernel
theorem dX11_gone_62 : decode cX11_gone 62 = .ok (.if_icmp .ge 26, 3) := by decide +kernel
theorem dX11_gone_65 : decode cX11_gone 65 = .ok (.iload 4, 2) := by decide +kernel
theorem dX11_gone_67 : decode cX11_gone 67 = .ok (.iload 4, 2) := by decide +kernel
theorem dX11_gone_69 : decode cX11_gone 69 = .ok (.iload_n 2, 1) := by decide +kernel
theorem dX11_gone_70 : decode cX11_gone 70 = .ok (.imul, 1) := by decide +kernel
theorem dX11_gone_71 : decode cX11_gone 71 = .ok (.sipush 999, 3) := by decide +kernel
theorem dX11_gone_74 : decode cX11_gone 74 = .ok (.iadd, 1) := by decide +kernel
theorem dX11_gone_75 : decode cX11_gone 75 = .ok (.sipush 1000, 3) := by decide +kernel
theorem dX11_gone_78 : decode cX11_gone 78 = .ok (.idiv, 1) := by decide +kernel
theorem dX11_gone_79 : decode cX11_gone 79 = .ok (.isub, 1) := by decide +kernel
theorem dX11_gone_80 : decode cX11_gone 80 = .ok (.istore 4, 2) := by decide +kernel
theorem dX11_gone_82 : decode cX11_gone 82 = .ok (.iinc 6 1, 3) := by decide +kernel
theorem dX11_gone_85 : decode cX11_gone 85 = .ok (.goto (-26), 3) := by decide +kernel
theorem dX11_gone_88 : decode cX11_gone 88 = .ok (.iconst 2, 1) := by decide +kernel
theorem dX11_gone_89 : decode cX11_gone 89 = .ok (.iload 4, 2) := by decide +kernel
theorem dX11_gone_91 : decode cX11_gone 91 = .ok (.imul, 1) := by decide +kernel
theorem dX11_gone_92 : decode cX11_gone 92 = .ok (.iload_n 1, 1) := by decide +kernel
theorem dX11_gone_93 : decode cX11_gone 93 = .ok (.if_icmp .ge 6, 3) := by decide +kernel
theorem dX11_gone_96 : decode cX11_gone 96 = .ok (.iload 5, 2) := by decide +kernel
theorem dX11_gone_98 : decode cX11_gone 98 = .ok (.ireturn, 1) := by decide +kernel
theorem dX11_gone_99 : decode cX11_gone 99 = .ok (.iinc 5 1, 3) := by decide +kernel
theorem dX11_gone_102 : decode cX11_gone 102 = .ok (.goto (-54), 3) := by decide +kernel
theorem dX11_gone_105 : decode cX11_gone 105 = .ok (.aload_n 0, 1) := by decide +kernel
theorem dX11_gone_106 : decode cX11_gone 106 = .ok (.iconst 2, 1) := by decide +kernel
theorem dX11_gone_107 : decode cX11_gone 107 = .ok (.invokevirtual 73, 3) := by decide +kernel
theorem dX11_gone_110 : decode cX11_gone 110 = .ok (.ireturn, 1) := by decide +kernel
theorem dX11_draw_0 : decode cX11_draw 0 = .ok (.aload_n 0, 1) := by decide +kernel
theorem dX11_draw_1 : decode cX11_draw 1 = .ok (.getfield 9, 3) := by decide +kernel
theorem dX11_draw_4 : decode cX11_draw 4 = .ok (.bipush 8, 2) := by decide +kernel
theorem dX11_draw_6 : decode cX11_draw 6 = .ok (.aload_n 0, 1) := by decide +kernel
theorem dX11_draw_7 : decode cX11_draw 7 = .ok (.getfield 9, 3) := by decide +kernel
theorem dX11_draw_10 : decode cX11_draw 10 = .ok (.bipush 8, 2) := by decide +kernel
theorem dX11_draw_12 : decode cX11_draw 12 = .ok (.iaload, 1) := by decide +kernel
theorem dX11_draw_13 : decode cX11_draw 13 = .ok (.ldc_w 313, 3) := by decide +kernel
theorem dX11_draw_16 : decode cX11_draw 16 = .ok (.imul, 1) := by decide +kernel
theorem dX11_draw_17 : decode cX11_draw 17 = .ok (.sipush 12345, 3) := by decide +kernel
theorem dX11_draw_20 : decode cX11_draw 20 = .ok (.iadd, 1) := by decide +kernel
theorem dX11_draw_21 : decode cX11_draw 21 = .ok (.iastore, 1) := by decide +kernel
theorem dX11_draw_22 : decode cX11_draw 22 = .ok (.aload_n 0, 1) := by decide +kernel
theorem dX11_draw_23 : decode cX11_draw 23 = .ok (.getfield 9, 3) := by decide +kernel
theorem dX11_draw_26 : decode cX11_draw 26 = .ok (.bipush 8, 2) := by decide +kernel
theorem dX11_draw_28 : decode cX11_draw 28 = .ok (.iaload, 1) := by decide +kernel
theorem dX11_draw_29 : decode cX11_draw 29 = .ok (.bipush 8, 2) := by decide +kernel
theorem dX11_draw_31 : decode cX11_draw 31 = .ok (.iushr, 1) := by decide +kernel
theorem dX11_draw_32 : decode cX11_draw 32 = .ok (.ireturn, 1) := by decide +kernel
theorem dX11_seed_0 : decode cX11_seed 0 = .ok (.aload_n 0, 1) := by decide +kernel
theorem dX11_seed_1 : decode cX11_seed 1 = .ok (.getfield 9, 3) := by decide +kernel
theorem dX11_seed_4 : decode cX11_seed 4 = .ok (.bipush 8, 2) := by decide +kernel
theorem dX11_seed_6 : decode cX11_seed 6 = .ok (.iaload, 1) := by decide +kernel
theorem dX11_seed_7 : decode cX11_seed 7 = .ok (.istore_n 2, 1) := by decide +kernel
theorem dX11_seed_8 : decode cX11_seed 8 = .ok (.aload_n 0, 1) := by decide +kernel
theorem dX11_seed_9 : decode cX11_seed 9 = .ok (.getfield 9, 3) := by decide +kernel
theorem dX11_seed_12 : decode cX11_seed 12 = .ok (.bipush 8, 2) := by decide +kernel
theorem dX11_seed_14 : decode cX11_seed 14 = .ok (.iload_n 1, 1) := by decide +kernel
theorem dX11_seed_15 : decode cX11_seed 15 = .ok (.iastore, 1) := by decide +kernel
theorem dX11_seed_16 : decode cX11_seed 16 = .ok (.iload_n 2, 1) := by decide +kernel
theorem dX11_seed_17 : decode cX11_seed 17 = .ok (.ireturn, 1) := by decide +kernel
theorem dX11_made_0 : decode cX11_made 0 = .ok (.aload_n 0, 1) := by decide +kernel
theorem dX11_made_1 : decode cX11_made 1 = .ok (.iload_n 1, 1) := by decide +kernel
theorem dX11_made_2 : decode cX11_made 2 = .ok (.invokevirtual 65, 3) := by decide +kernel
theorem dX11_made_5 : decode cX11_made 5 = .ok (.ifCond .eq 15, 3) := by decide +kernel
theorem dX11_made_8 : decode cX11_made 8 = .ok (.iload_n 2, 1) := by decide +kernel
theorem dX11_made_9 : decode cX11_made 9 = .ok (.i2l, 1) := by decide +kernel
theorem dX11_made_10 : decode cX11_made 10 = .ok (.lconst 1, 1) := by decide +kernel
theorem dX11_made_11 : decode cX11_made 11 = .ok (.ldc2_w 314, 3) := by decide +kernel
theorem dX11_made_14 : decode cX11_made 14 = .ok (.invokestatic 57, 3) := by decide +kernel
theorem dX11_made_17 : decode cX11_made 17 = .ok (.ifCond .ne 9, 3) := by decide +kernel
theorem dX11_made_20 : decode cX11_made 20 = .ok (.aload_n 0, 1) := by decide +kernel
theorem dX11_made_21 : decode cX11_made 21 = .ok (.iconst 1, 1) := by decide +kernel
theorem dX11_made_22 : decode cX11_made 22 = .ok (.invokevirtual 73, 3) := by decide +kernel
theorem dX11_made_25 : decode cX11_made 25 = .ok (.ireturn, 1) := by decide +kernel
theorem dX11_made_26 : decode cX11_made 26 = .ok (.aload_n 0, 1) := by decide +kernel
theorem dX11_made_27 : decode cX11_made 27 = .ok (.getfield 9, 3) := by decide +kernel
theorem dX11_made_30 : decode cX11_made 30 = .ok (.iconst 1, 1) := by decide +kernel
theorem dX11_made_31 : decode cX11_made 31 = .ok (.iaload, 1) := by decide +kernel
theorem dX11_made_32 : decode cX11_made 32 = .ok (.iload_n 2, 1) := by decide +kernel
theorem dX11_made_33 : decode cX11_made 33 = .ok (.iadd, 1) := by decide +kernel
theorem dX11_made_34 : decode cX11_made 34 = .ok (.bipush 96, 2) := by decide +kernel
theorem dX11_made_36 : decode cX11_made 36 = .ok (.if_icmp .le 9, 3) := by decide +kernel
theorem dX11_made_39 : decode cX11_made 39 = .ok (.aload_n 0, 1) := by decide +kernel
theorem dX11_made_40 : decode cX11_made 40 = .ok (.iconst 4, 1) := by decide +kernel
theorem dX11_made_41 : decode cX11_made 41 = .ok (.invokevirtual 73, 3) := by decide +kernel
theorem dX11_made_44 : decode cX11_made 44 = .ok (.ireturn, 1) := by decide +kernel
theorem dX11_made_45 : decode cX11_made 45 = .ok (.iconst 0, 1) := by decide +kernel
theorem dX11_made_46 : decode cX11_made 46 = .ok (.istore_n 3, 1) := by decide +kernel
theorem dX11_made_47 : decode cX11_made 47 = .ok (.iload_n 3, 1) := by decide +kernel
theorem dX11_made_48 : decode cX11_made 48 = .ok (.iload_n 2, 1) := by decide +kernel
theorem dX11_made_49 : decode cX11_made 49 = .ok (.if_icmp .ge 36, 3) := by decide +kernel
theorem dX11_made_52 : decode cX11_made 52 = .ok (.aload_n 0, 1) := by decide +kernel
theorem dX11_made_53 : decode cX11_made 53 = .ok (.invokevirtual 316, 3) := by decide +kernel
theorem dX11_made_56 : decode cX11_made 56 = .ok (.sipush 2400, 3) := by decide +kernel
theorem dX11_made_59 : decode cX11_made 59 = .ok (.irem, 1) := by decide +kernel
theorem dX11_made_60 : decode cX11_made 60 = .ok (.istore 4, 2) := by decide +kernel
theorem dX11_made_62 : decode cX11_made 62 = .ok (.aload_n 0, 1) := by decide +kernel
theorem dX11_made_63 : decode cX11_made 63 = .ok (.iload_n 1, 1) := by decide +kernel
theorem dX11_made_64 : decode cX11_made 64 = .ok (.iload 4, 2) := by decide +kernel
theorem dX11_made_66 : decode cX11_made 66 = .ok (.iconst 1, 1) := by decide +kernel
theorem dX11_made_67 : decode cX11_made 67 = .ok (.aload_n 0, 1) := by decide +kernel
theorem dX11_made_68 : decode cX11_made 68 = .ok (.invokevirtual 316, 3) := by decide +kernel
theorem dX11_made_71 : decode cX11_made 71 = .ok (.sipush 999, 3) := by decide +kernel
theorem dX11_made_74 : decode cX11_made 74 = .ok (.irem, 1) := by decide +kernel
theorem dX11_made_75 : decode cX11_made 75 = .ok (.iadd, 1) := by decide +kernel
theorem dX11_made_76 : decode cX11_made 76 = .ok (.invokevirtual 83, 3) := by decide +kernel
theorem dX11_made_79 : decode cX11_made 79 = .ok (.iinc 3 1, 3) := by decide +kernel
theorem dX11_made_82 : decode cX11_made 82 = .ok (.goto (-35), 3) := by decide +kernel
theorem dX11_made_85 : decode cX11_made 85 = .ok (.aload_n 0, 1) := by decide +kernel
theorem dX11_made_86 : decode cX11_made 86 = .ok (.getfield 9, 3) := by decide +kernel
theorem dX11_made_89 : decode cX11_made 89 = .ok (.iconst 1, 1) := by decide +kernel
theorem dX11_made_90 : decode cX11_made 90 = .ok (.iaload, 1) := by decide +kernel
theorem dX11_made_91 : decode cX11_made 91 = .ok (.ireturn, 1) := by decide +kernel
theorem dX11_both__0 : decode cX11_both_ 0 = .ok (.aload_n 0, 1) := by decide +kernel
theorem dX11_both__1 : decode cX11_both_ 1 = .ok (.iload_n 1, 1) := by decide +kernel
theorem dX11_both__2 : decode cX11_both_ 2 = .ok (.invokevirtual 131, 3) := by decide +kernel
theorem dX11_both__5 : decode cX11_both_ 5 = .ok (.ifCond .eq 15, 3) := by decide +kernel
theorem dX11_both__8 : decode cX11_both_ 8 = .ok (.iload_n 2, 1) := by decide +kernel
theorem dX11_both__9 : decode cX11_both_ 9 = .ok (.i2l, 1) := by decide +kernel
theorem dX11_both__10 : decode cX11_both_ 10 = .ok (.lconst 1, 1) := by decide +kernel
theorem dX11_both__11 : decode cX11_both_ 11 = .ok (.ldc2_w 307, 3) := by decide +kernel
theorem dX11_both__14 : decode cX11_both_ 14 = .ok (.invokestatic 57, 3) := by decide +kernel
theorem dX11_both__17 : decode cX11_both_ 17 = .ok (.ifCond .ne 9, 3) := by decide +kernel
theorem dX11_both__20 : decode cX11_both_ 20 = .ok (.aload_n 0, 1) := by decide +kernel
theorem dX11_both__21 : decode cX11_both_ 21 = .ok (.iconst 1, 1) := by decide +kernel
theorem dX11_both__22 : decode cX11_both_ 22 = .ok (.invokevirtual 73, 3) := by decide +kernel
theorem dX11_both__25 : decode cX11_both_ 25 = .ok (.ireturn, 1) := by decide +kernel
theorem dX11_both__26 : decode cX11_both_ 26 = .ok (.aload_n 0, 1) := by decide +kernel
theorem dX11_both__27 : decode cX11_both_ 27 = .ok (.getfield 9, 3) := by decide +kernel
theorem dX11_both__30 : decode cX11_both_ 30 = .ok (.iconst 1, 1) := by decide +kernel
theorem dX11_both__31 : decode cX11_both_ 31 = .ok (.iaload, 1) := by decide +kernel
theorem dX11_both__32 : decode cX11_both_ 32 = .ok (.iconst 2, 1) := by decide +kernel
theorem dX11_both__33 : decode cX11_both_ 33 = .ok (.iload_n 2, 1) := by decide +kernel
theorem dX11_both__34 : decode cX11_both_ 34 = .ok (.imul, 1) := by decide +kernel
theorem dX11_both__35 : decode cX11_both_ 35 = .ok (.iadd, 1) := by decide +kernel
theorem dX11_both__36 : decode cX11_both_ 36 = .ok (.bipush 96, 2) := by decide +kernel
theorem dX11_both__38 : decode cX11_both_ 38 = .ok (.if_icmp .le 9, 3) := by decide +kernel
theorem dX11_both__41 : decode cX11_both_ 41 = .ok (.aload_n 0, 1) := by decide +kernel
theorem dX11_both__42 : decode cX11_both_ 42 = .ok (.iconst 4, 1) := by decide +kernel
theorem dX11_both__43 : decode cX11_both_ 43 = .ok (.invokevirtual 73, 3) := by decide +kernel
theorem dX11_both__46 : decode cX11_both_ 46 = .ok (.ireturn, 1) := by decide +kernel
theorem dX11_both__47 : decode cX11_both_ 47 = .ok (.iconst 0, 1) := by decide +kernel
theorem dX11_both__48 : decode cX11_both_ 48 = .ok (.istore_n 3, 1) := by decide +kernel
theorem dX11_both__49 : decode cX11_both_ 49 = .ok (.iload_n 3, 1) := by decide +kernel
theorem dX11_both__50 : decode cX11_both_ 50 = .ok (.iload_n 2, 1) := by decide +kernel
theorem dX11_both__51 : decode cX11_both_ 51 = .ok (.if_icmp .ge 55, 3) := by decide +kernel
theorem dX11_both__54 : decode cX11_both_ 54 = .ok (.aload_n 0, 1) := by decide +kernel
theorem dX11_both__55 : decode cX11_both_ 55 = .ok (.invokevirtual 316, 3) := by decide +kernel
theorem dX11_both__58 : decode cX11_both_ 58 = .ok (.sipush 2400, 3) := by decide +kernel
theorem dX11_both__61 : decode cX11_both_ 61 = .ok (.irem, 1) := by decide +kernel
theorem dX11_both__62 : decode cX11_both_ 62 = .ok (.istore 4, 2) := by decide +kernel
theorem dX11_both__64 : decode cX11_both_ 64 = .ok (.iconst 1, 1) := by decide +kernel
theorem dX11_both__65 : decode cX11_both_ 65 = .ok (.aload_n 0, 1) := by decide +kernel
theorem dX11_both__66 : decode cX11_both_ 66 = .ok (.invokevirtual 316, 3) := by decide +kernel
theorem dX11_both__69 : decode cX11_both_ 69 = .ok (.sipush 999, 3) := by decide +kernel
theorem dX11_both__72 : decode cX11_both_ 72 = .ok (.irem, 1) := by decide +kernel
theorem dX11_both__73 : decode cX11_both_ 73 = .ok (.iadd, 1) := by decide +kernel
theorem dX11_both__74 : decode cX11_both_ 74 = .ok (.istore 5, 2) := by decide +kernel
theorem dX11_both__76 : decode cX11_both_ 76 = .ok (.aload_n 0, 1) := by decide +kernel
theorem dX11_both__77 : decode cX11_both_ 77 = .ok (.iload_n 1, 1) := by decide +kernel
theorem dX11_both__78 : decode cX11_both_ 78 = .ok (.bipush 10, 2) := by decide +kernel
theorem dX11_both__80 : decode cX11_both_ 80 = .ok (.idiv, 1) := by decide +kernel
theorem dX11_both__81 : decode cX11_both_ 81 = .ok (.iload 4, 2) := by decide +kernel
theorem dX11_both__83 : decode cX11_both_ 83 = .ok (.iload 5, 2) := by decide +kernel
theorem dX11_both__85 : decode cX11_both_ 85 = .ok (.invokevirtual 83, 3) := by decide +kernel
theorem dX11_both__88 : decode cX11_both_ 88 = .ok (.aload_n 0, 1) := by decide +kernel
theorem dX11_both__89 : decode cX11_both_ 89 = .ok (.iload_n 1, 1) := by decide +kernel
theorem dX11_both__90 : decode cX11_both_ 90 = .ok (.bipush 10, 2) := by decide +kernel
theorem dX11_both__92 : decode cX11_both_ 92 = .ok (.irem, 1) := by decide +kernel
theorem dX11_both__93 : decode cX11_both_ 93 = .ok (.iload 4, 2) := by decide +kernel
theorem dX11_both__95 : decode cX11_both_ 95 = .ok (.iload 5, 2) := by decide +kernel
theorem dX11_both__97 : decode cX11_both_ 97 = .ok (.invokevirtual 83, 3) := by decide +kernel
theorem dX11_both__100 : decode cX11_both_ 100 = .ok (.iinc 3 1, 3) := by decide +kernel
theorem dX11_both__103 : decode cX11_both_ 103 = .ok (.goto (-54), 3) := by decide +kernel
theorem dX11_both__106 : decode cX11_both_ 106 = .ok (.aload_n 0, 1) := by decide +kernel
theorem dX11_both__107 : decode cX11_both_ 107 = .ok (.getfield 9, 3) := by decide +kernel
theorem dX11_both__110 : decode cX11_both_ 110 = .ok (.iconst 1, 1) := by decide +kernel
theorem dX11_both__111 : decode cX11_both_ 111 = .ok (.iaload, 1) := by decide +kernel
theorem dX11_both__112 : decode cX11_both_ 112 = .ok (.ireturn, 1) := by decide +kernel
theorem dX11_begins_0 : decode cX11_begins 0 = .ok (.aload_n 0, 1) := by decide +kernel
theorem dX11_begins_1 : decode cX11_begins 1 = .ok (.getfield 319, 3) := by decide +kernel
theorem dX11_begins_4 : decode cX11_begins 4 = .ok (.bipush 40, 2) := by decide +kernel
theorem dX11_begins_6 : decode cX11_begins 6 = .ok (.if_icmp .ne 4, 3) := by decide +kernel
theorem dX11_begins_9 : decode cX11_begins 9 = .ok (.return_, 1) := by decide +kernel
theorem dX11_begins_10 : decode cX11_begins 10 = .ok (.aload_n 0, 1) := by decide +kernel
theorem dX11_begins_11 : decode cX11_begins 11 = .ok (.getfield 53, 3) := by decide +kernel
theorem dX11_begins_14 : decode cX11_begins 14 = .ok (.aload_n 0, 1) := by decide +kernel
theorem dX11_begins_15 : decode cX11_begins 15 = .ok (.getfield 319, 3) := by decide +kernel
theorem dX11_begins_18 : decode cX11_begins 18 = .ok (.iload_n 1, 1) := by decide +kernel
theorem dX11_begins_19 : decode cX11_begins 19 = .ok (.iastore, 1) := by decide +kernel
theorem dX11_begins_20 : decode cX11_begins 20 = .ok (.aload_n 0, 1) := by decide +kernel
theorem dX11_begins_21 : decode cX11_begins 21 = .ok (.dup, 1) := by decide +kernel
theorem dX11_begins_22 : decode cX11_begins 22 = .ok (.getfield 319, 3) := by decide +kernel
theorem dX11_begins_25 : decode cX11_begins 25 = .ok (.iconst 1, 1) := by decide +kernel
theorem dX11_begins_26 : decode cX11_begins 26 = .ok (.iadd, 1) := by decide +kernel
theorem dX11_begins_27 : decode cX11_begins 27 = .ok (.putfield 319, 3) := by decide +kernel
theorem dX11_begins_30 : decode cX11_begins 30 = .ok (.return_, 1) := by decide +kernel
theorem dX11_plainRings_0 : decode cX11_plainRings 0 = .ok (.aload_n 0, 1) := by decide +kernel
theorem dX11_plainRings_1 : decode cX11_plainRings 1 = .ok (.bipush 10, 2) := by decide +kernel
theorem dX11_plainRings_3 : decode cX11_plainRings 3 = .ok (.invokevirtual 322, 3) := by decide +kernel
theorem dX11_plainRings_6 : decode cX11_plainRings 6 = .ok (.iload_n 1, 1) := by decide +kernel
theorem dX11_plainRings_7 : decode cX11_plainRings 7 = .ok (.aload_n 0, 1) := by decide +kernel
theorem dX11_plainRings_8 : decode cX11_plainRings 8 = .ok (.getfield 325, 3) := by decide +kernel
theorem dX11_plainRings_11 : decode cX11_plainRings 11 = .ok (.iadd, 1) := by decide +kernel
theorem dX11_plainRings_12 : decode cX11_plainRings 12 = .ok (.ireturn, 1) := by decide +kernel
theorem dX11_rings__0 : decode cX11_rings_ 0 = .ok (.aload_n 0, 1) := by decide +kernel
theorem dX11_rings__1 : decode cX11_rings_ 1 = .ok (.getfield 328, 3) := by decide +kernel
theorem dX11_rings__4 : decode cX11_rings_ 4 = .ok (.iconst 2, 1) := by decide +kernel
theorem dX11_rings__5 : decode cX11_rings_ 5 = .ok (.if_icmp .ne 23, 3) := by decide +kernel
theorem dX11_rings__8 : decode cX11_rings_ 8 = .ok (.aload_n 0, 1) := by decide +kernel
theorem dX11_rings__9 : decode cX11_rings_ 9 = .ok (.bipush 30, 2) := by decide +kernel
theorem dX11_rings__11 : decode cX11_rings_ 11 = .ok (.invokevirtual 322, 3) := by decide +kernel
theorem dX11_rings__14 : decode cX11_rings_ 14 = .ok (.aload_n 0, 1) := by decide +kernel
theorem dX11_rings__15 : decode cX11_rings_ 15 = .ok (.iload_n 1, 1) := by decide +kernel
theorem dX11_rings__16 : decode cX11_rings_ 16 = .ok (.invokevirtual 331, 3) := by decide +kernel
theorem dX11_rings__19 : decode cX11_rings_ 19 = .ok (.istore_n 2, 1) := by decide +kernel
theorem dX11_rings__20 : decode cX11_rings_ 20 = .ok (.iload_n 2, 1) := by decide +kernel
theorem dX11_rings__21 : decode cX11_rings_ 21 = .ok (.aload_n 0, 1) := by decide +kernel
theorem dX11_rings__22 : decode cX11_rings_ 22 = .ok (.iconst 1, 1) := by decide +kernel
theorem dX11_rings__23 : decode cX11_rings_ 23 = .ok (.invokevirtual 334, 3) := by decide +kernel
theorem dX11_rings__26 : decode cX11_rings_ 26 = .ok (.iadd, 1) := by decide +kernel
theorem dX11_rings__27 : decode cX11_rings_ 27 = .ok (.ireturn, 1) := by decide +kernel
theorem dX11_rings__28 : decode cX11_rings_ 28 = .ok (.aload_n 0, 1) := by decide +kernel
theorem dX11_rings__29 : decode cX11_rings_ 29 = .ok (.getfield 328, 3) := by decide +kernel
theorem dX11_rings__32 : decode cX11_rings_ 32 = .ok (.bipush 6, 2) := by decide +kernel
theorem dX11_rings__34 : decode cX11_rings_ 34 = .ok (.invokestatic 225, 3) := by decide +kernel
theorem dX11_rings__37 : decode cX11_rings_ 37 = .ok (.ifCond .eq 16, 3) := by decide +kernel
theorem dX11_rings__40 : decode cX11_rings_ 40 = .ok (.aload_n 0, 1) := by decide +kernel
theorem dX11_rings__41 : decode cX11_rings_ 41 = .ok (.bipush 70, 2) := by decide +kernel
theorem dX11_rings__43 : decode cX11_rings_ 43 = .ok (.invokevirtual 322, 3) := by decide +kernel
theorem dX11_rings__46 : decode cX11_rings_ 46 = .ok (.aload_n 0, 1) := by decide +kernel
theorem dX11_rings__47 : decode cX11_rings_ 47 = .ok (.iload_n 1, 1) := by decide +kernel
theorem dX11_rings__48 : decode cX11_rings_ 48 = .ok (.invokevirtual 331, 3) := by decide +kernel
theorem dX11_rings__51 : decode cX11_rings_ 51 = .ok (.ineg, 1) := by decide +kernel
theorem dX11_rings__52 : decode cX11_rings_ 52 = .ok (.ireturn, 1) := by decide +kernel
theorem dX11_rings__53 : decode cX11_rings_ 53 = .ok (.aload_n 0, 1) := by decide +kernel
theorem dX11_rings__54 : decode cX11_rings_ 54 = .ok (.iload_n 1, 1) := by decide +kernel
theorem dX11_rings__55 : decode cX11_rings_ 55 = .ok (.invokevirtual 331, 3) := by decide +kernel
theorem dX11_rings__58 : decode cX11_rings_ 58 = .ok (.ireturn, 1) := by decide +kernel
theorem dX11_plainMeets_0 : decode cX11_plainMeets 0 = .ok (.aload_n 0, 1) := by decide +kernel
theorem dX11_plainMeets_1 : decode cX11_plainMeets 1 = .ok (.bipush 11, 2) := by decide +kernel
theorem dX11_plainMeets_3 : decode cX11_plainMeets 3 = .ok (.invokevirtual 322, 3) := by decide +kernel
theorem dX11_plainMeets_6 : decode cX11_plainMeets 6 = .ok (.aload_n 0, 1) := by decide +kernel
theorem dX11_plainMeets_7 : decode cX11_plainMeets 7 = .ok (.iload_n 1, 1) := by decide +kernel
theorem dX11_plainMeets_8 : decode cX11_plainMeets 8 = .ok (.invokevirtual 337, 3) := by decide +kernel
theorem dX11_plainMeets_11 : decode cX11_plainMeets 11 = .ok (.iconst 2, 1) := by decide +kernel
theorem dX11_plainMeets_12 : decode cX11_plainMeets 12 = .ok (.imul, 1) := by decide +kernel
theorem dX11_plainMeets_13 : decode cX11_plainMeets 13 = .ok (.ireturn, 1) := by decide +kernel
theorem dX11_meets__0 : decode cX11_meets_ 0 = .ok (.aload_n 0, 1) := by decide +kernel
theorem dX11_meets__1 : decode cX11_meets_ 1 = .ok (.getfield 328, 3) := by decide +kernel
theorem dX11_meets__4 : decode cX11_meets_ 4 = .ok (.lookupswitch 87 #[(1, 36), (5, 50), (7, 70)], 36) := by decide +kernel
theorem dX11_meets__40 : decode cX11_meets_ 40 = .ok (.aload_n 0, 1) := by decide +kernel
theorem dX11_meets__41 : decode cX11_meets_ 41 = .ok (.bipush 20, 2) := by decide +kernel
theorem dX11_meets__43 : decode cX11_meets_ 43 = .ok (.invokevirtual 322, 3) := by decide +kernel
theorem dX11_meets__46 : decode cX11_meets_ 46 = .ok (.aload_n 0, 1) := by decide +kernel
theorem dX11_meets__47 : decode cX11_meets_ 47 = .ok (.iload_n 1, 1) := by decide +kernel
theorem dX11_meets__48 : decode cX11_meets_ 48 = .ok (.invokevirtual 339, 3) := by decide +kernel
theorem dX11_meets__51 : decode cX11_meets_ 51 = .ok (.iconst 1, 1) := by decide +kernel
theorem dX11_meets__52 : decode cX11_meets_ 52 = .ok (.isub, 1) := by decide +kernel
theorem dX11_meets__53 : decode cX11_meets_ 53 = .ok (.ireturn, 1) := by decide +kernel
theorem dX11_meets__54 : decode cX11_meets_ 54 = .ok (.aload_n 0, 1) := by decide +kernel
theorem dX11_meets__55 : decode cX11_meets_ 55 = .ok (.bipush 60, 2) := by decide +kernel
theorem dX11_meets__57 : decode cX11_meets_ 57 = .ok (.invokevirtual 322, 3) := by decide +kernel
theorem dX11_meets__60 : decode cX11_meets_ 60 = .ok (.aload_n 0, 1) := by decide +kernel
theorem dX11_meets__61 : decode cX11_meets_ 61 = .ok (.iload_n 1, 1) := by decide +kernel
theorem dX11_meets__62 : decode cX11_meets_ 62 = .ok (.invokevirtual 339, 3) := by decide +kernel
theorem dX11_meets__65 : decode cX11_meets_ 65 = .ok (.istore_n 2, 1) := by decide +kernel
theorem dX11_meets__66 : decode cX11_meets_ 66 = .ok (.iload_n 2, 1) := by decide +kernel
theorem dX11_meets__67 : decode cX11_meets_ 67 = .ok (.aload_n 0, 1) := by decide +kernel
theorem dX11_meets__68 : decode cX11_meets_ 68 = .ok (.iload_n 1, 1) := by decide +kernel
theorem dX11_meets__69 : decode cX11_meets_ 69 = .ok (.invokevirtual 337, 3) := by decide +kernel
theorem dX11_meets__72 : decode cX11_meets_ 72 = .ok (.iadd, 1) := by decide +kernel
theorem dX11_meets__73 : decode cX11_meets_ 73 = .ok (.ireturn, 1) := by decide +kernel
theorem dX11_meets__74 : decode cX11_meets_ 74 = .ok (.aload_n 0, 1) := by decide +kernel
theorem dX11_meets__75 : decode cX11_meets_ 75 = .ok (.bipush 80, 2) := by decide +kernel
theorem dX11_meets__77 : decode cX11_meets_ 77 = .ok (.invokevirtual 322, 3) := by decide +kernel
theorem dX11_meets__80 : decode cX11_meets_ 80 = .ok (.aload_n 0, 1) := by decide +kernel
theorem dX11_meets__81 : decode cX11_meets_ 81 = .ok (.iload_n 1, 1) := by decide +kernel
theorem dX11_meets__82 : decode cX11_meets_ 82 = .ok (.invokevirtual 339, 3) := by decide +kernel
theorem dX11_meets__85 : decode cX11_meets_ 85 = .ok (.aload_n 0, 1) := by decide +kernel
theorem dX11_meets__86 : decode cX11_meets_ 86 = .ok (.getfield 325, 3) := by decide +kernel
theorem dX11_meets__89 : decode cX11_meets_ 89 = .ok (.ixor, 1) := by decide +kernel
theorem dX11_meets__90 : decode cX11_meets_ 90 = .ok (.ireturn, 1) := by decide +kernel
theorem dX11_meets__91 : decode cX11_meets_ 91 = .ok (.aload_n 0, 1) := by decide +kernel
theorem dX11_meets__92 : decode cX11_meets_ 92 = .ok (.iload_n 1, 1) := by decide +kernel
theorem dX11_meets__93 : decode cX11_meets_ 93 = .ok (.invokevirtual 339, 3) := by decide +kernel
theorem dX11_meets__96 : decode cX11_meets_ 96 = .ok (.ireturn, 1) := by decide +kernel
theorem dX11_plainBounds_0 : decode cX11_plainBounds 0 = .ok (.aload_n 0, 1) := by decide +kernel
theorem dX11_plainBounds_1 : decode cX11_plainBounds 1 = .ok (.bipush 12, 2) := by decide +kernel
theorem dX11_plainBounds_3 : decode cX11_plainBounds 3 = .ok (.invokevirtual 322, 3) := by decide +kernel
theorem dX11_plainBounds_6 : decode cX11_plainBounds 6 = .ok (.iload_n 1, 1) := by decide +kernel
theorem dX11_plainBounds_7 : decode cX11_plainBounds 7 = .ok (.aload_n 0, 1) := by decide +kernel
theorem dX11_plainBounds_8 : decode cX11_plainBounds 8 = .ok (.getfield 342, 3) := by decide +kernel
theorem dX11_plainBounds_11 : decode cX11_plainBounds 11 = .ok (.isub, 1) := by decide +kernel
theorem dX11_plainBounds_12 : decode cX11_plainBounds 12 = .ok (.ireturn, 1) := by decide +kernel
theorem dX11_bounds_0 : decode cX11_bounds 0 = .ok (.aload_n 0, 1) := by decide +kernel
theorem dX11_bounds_1 : decode cX11_bounds 1 = .ok (.getfield 328, 3) := by decide +kernel
theorem dX11_bounds_4 : decode cX11_bounds 4 = .ok (.iconst 4, 1) := by decide +kernel
theorem dX11_bounds_5 : decode cX11_bounds 5 = .ok (.if_icmp .eq 9, 3) := by decide +kernel
theorem dX11_bounds_8 : decode cX11_bounds 8 = .ok (.aload_n 0, 1) := by decide +kernel
theorem dX11_bounds_9 : decode cX11_bounds 9 = .ok (.iload_n 1, 1) := by decide +kernel
theorem dX11_bounds_10 : decode cX11_bounds 10 = .ok (.invokevirtual 345, 3) := by decide +kernel
theorem dX11_bounds_13 : decode cX11_bounds 13 = .ok (.ireturn, 1) := by decide +kernel
theorem dX11_bounds_14 : decode cX11_bounds 14 = .ok (.aload_n 0, 1) := by decide +kernel
theorem dX11_bounds_15 : decode cX11_bounds 15 = .ok (.bipush 50, 2) := by decide +kernel
theorem dX11_bounds_17 : decode cX11_bounds 17 = .ok (.invokevirtual 322, 3) := by decide +kernel
theorem dX11_bounds_20 : decode cX11_bounds 20 = .ok (.aload_n 0, 1) := by decide +kernel
theorem dX11_bounds_21 : decode cX11_bounds 21 = .ok (.iload_n 1, 1) := by decide +kernel
theorem dX11_bounds_22 : decode cX11_bounds 22 = .ok (.invokevirtual 345, 3) := by decide +kernel
theorem dX11_bounds_25 : decode cX11_bounds 25 = .ok (.iconst 3, 1) := by decide +kernel
theorem dX11_bounds_26 : decode cX11_bounds 26 = .ok (.imul, 1) := by decide +kernel
theorem dX11_bounds_27 : decode cX11_bounds 27 = .ok (.ireturn, 1) := by decide +kernel
theorem dX11_plainTells_0 : decode cX11_plainTells 0 = .ok (.aload_n 0, 1) := by decide +kernel
theorem dX11_plainTells_1 : decode cX11_plainTells 1 = .ok (.bipush 13, 2) := by decide +kernel
theorem dX11_plainTells_3 : decode cX11_plainTells 3 = .ok (.invokevirtual 322, 3) := by decide +kernel
theorem dX11_plainTells_6 : decode cX11_plainTells 6 = .ok (.aload_n 0, 1) := by decide +kernel
theorem dX11_plainTells_7 : decode cX11_plainTells 7 = .ok (.iload_n 1, 1) := by decide +kernel
theorem dX11_plainTells_8 : decode cX11_plainTells 8 = .ok (.invokevirtual 348, 3) := by decide +kernel
theorem dX11_plainTells_11 : decode cX11_plainTells 11 = .ok (.istore_n 2, 1) := by decide +kernel
theorem dX11_plainTells_12 : decode cX11_plainTells 12 = .ok (.iload_n 2, 1) := by decide +kernel
theorem dX11_plainTells_13 : decode cX11_plainTells 13 = .ok (.aload_n 0, 1) := by decide +kernel
theorem dX11_plainTells_14 : decode cX11_plainTells 14 = .ok (.iload_n 1, 1) := by decide +kernel
theorem dX11_plainTells_15 : decode cX11_plainTells 15 = .ok (.invokevirtual 334, 3) := by decide +kernel
theorem dX11_plainTells_18 : decode cX11_plainTells 18 = .ok (.ixor, 1) := by decide +kernel
theorem dX11_plainTells_19 : decode cX11_plainTells 19 = .ok (.ireturn, 1) := by decide +kernel
theorem dX11_slidTells_0 : decode cX11_slidTells 0 = .ok (.aload_n 0, 1) := by decide +kernel
theorem dX11_slidTells_1 : decode cX11_slidTells 1 = .ok (.bipush 71, 2) := by decide +kernel
theorem dX11_slidTells_3 : decode cX11_slidTells 3 = .ok (.invokevirtual 322, 3) := by decide +kernel
theorem dX11_slidTells_6 : decode cX11_slidTells 6 = .ok (.aload_n 0, 1) := by decide +kernel
theorem dX11_slidTells_7 : decode cX11_slidTells 7 = .ok (.iload_n 1, 1) := by decide +kernel
theorem dX11_slidTells_8 : decode cX11_slidTells 8 = .ok (.iconst 1, 1) := by decide +kernel
theorem dX11_slidTells_9 : decode cX11_slidTells 9 = .ok (.iadd, 1) := by decide +kernel
theorem dX11_slidTells_10 : decode cX11_slidTells 10 = .ok (.invokevirtual 351, 3) := by decide +kernel
theorem dX11_slidTells_13 : decode cX11_slidTells 13 = .ok (.ireturn, 1) := by decide +kernel
theorem dX11_tells_0 : decode cX11_tells 0 = .ok (.aload_n 0, 1) := by decide +kernel
theorem dX11_tells_1 : decode cX11_tells 1 = .ok (.getfield 328, 3) := by decide +kernel
theorem dX11_tells_4 : decode cX11_tells 4 = .ok (.iconst 3, 1) := by decide +kernel
theorem dX11_tells_5 : decode cX11_tells 5 = .ok (.if_icmp .ne 23, 3) := by decide +kernel
theorem dX11_tells_8 : decode cX11_tells 8 = .ok (.aload_n 0, 1) := by decide +kernel
theorem dX11_tells_9 : decode cX11_tells 9 = .ok (.bipush 40, 2) := by decide +kernel
theorem dX11_tells_11 : decode cX11_tells 11 = .ok (.invokevirtual 322, 3) := by decide +kernel
theorem dX11_tells_14 : decode cX11_tells 14 = .ok (.aload_n 0, 1) := by decide +kernel
theorem dX11_tells_15 : decode cX11_tells 15 = .ok (.iconst 2, 1) := by decide +kernel
theorem dX11_tells_16 : decode cX11_tells 16 = .ok (.invokevirtual 348, 3) := by decide +kernel
theorem dX11_tells_19 : decode cX11_tells 19 = .ok (.istore_n 2, 1) := by decide +kernel
theorem dX11_tells_20 : decode cX11_tells 20 = .ok (.iload_n 2, 1) := by decide +kernel
theorem dX11_tells_21 : decode cX11_tells 21 = .ok (.aload_n 0, 1) := by decide +kernel
theorem dX11_tells_22 : decode cX11_tells 22 = .ok (.iload_n 1, 1) := by decide +kernel
theorem dX11_tells_23 : decode cX11_tells 23 = .ok (.invokevirtual 351, 3) := by decide +kernel
theorem dX11_tells_26 : decode cX11_tells 26 = .ok (.isub, 1) := by decide +kernel
theorem dX11_tells_27 : decode cX11_tells 27 = .ok (.ireturn, 1) := by decide +kernel
theorem dX11_tells_28 : decode cX11_tells 28 = .ok (.aload_n 0, 1) := by decide +kernel
theorem dX11_tells_29 : decode cX11_tells 29 = .ok (.getfield 328, 3) := by decide +kernel
theorem dX11_tells_32 : decode cX11_tells 32 = .ok (.bipush 7, 2) := by decide +kernel
theorem dX11_tells_34 : decode cX11_tells 34 = .ok (.if_icmp .ne 23, 3) := by decide +kernel
theorem dX11_tells_37 : decode cX11_tells 37 = .ok (.aload_n 0, 1) := by decide +kernel
theorem dX11_tells_38 : decode cX11_tells 38 = .ok (.bipush 81, 2) := by decide +kernel
theorem dX11_tells_40 : decode cX11_tells 40 = .ok (.invokevirtual 322, 3) := by decide +kernel
theorem dX11_tells_43 : decode cX11_tells 43 = .ok (.aload_n 0, 1) := by decide +kernel
theorem dX11_tells_44 : decode cX11_tells 44 = .ok (.iload_n 1, 1) := by decide +kernel
theorem dX11_tells_45 : decode cX11_tells 45 = .ok (.invokevirtual 334, 3) := by decide +kernel
theorem dX11_tells_48 : decode cX11_tells 48 = .ok (.istore_n 2, 1) := by decide +kernel
theorem dX11_tells_49 : decode cX11_tells 49 = .ok (.iload_n 2, 1) := by decide +kernel
theorem dX11_tells_50 : decode cX11_tells 50 = .ok (.aload_n 0, 1) := by decide +kernel
theorem dX11_tells_51 : decode cX11_tells 51 = .ok (.iload_n 1, 1) := by decide +kernel
theorem dX11_tells_52 : decode cX11_tells 52 = .ok (.invokevirtual 354, 3) := by decide +kernel
theorem dX11_tells_55 : decode cX11_tells 55 = .ok (.iadd, 1) := by decide +kernel
theorem dX11_tells_56 : decode cX11_tells 56 = .ok (.ireturn, 1) := by decide +kernel
theorem dX11_tells_57 : decode cX11_tells 57 = .ok (.aload_n 0, 1) := by decide +kernel
theorem dX11_tells_58 : decode cX11_tells 58 = .ok (.getfield 328, 3) := by decide +kernel
theorem dX11_tells_61 : decode cX11_tells 61 = .ok (.bipush 6, 2) := by decide +kernel
theorem dX11_tells_63 : decode cX11_tells 63 = .ok (.if_icmp .ne 11, 3) := by decide +kernel
theorem dX11_tells_66 : decode cX11_tells 66 = .ok (.aload_n 0, 1) := by decide +kernel
theorem dX11_tells_67 : decode cX11_tells 67 = .ok (.iload_n 1, 1) := by decide +kernel
theorem dX11_tells_68 : decode cX11_tells 68 = .ok (.invokevirtual 354, 3) := by decide +kernel
theorem dX11_tells_71 : decode cX11_tells 71 = .ok (.goto 8, 3) := by decide +kernel
theorem dX11_tells_74 : decode cX11_tells 74 = .ok (.aload_n 0, 1) := by decide +kernel
theorem dX11_tells_75 : decode cX11_tells 75 = .ok (.iload_n 1, 1) := by decide +kernel
theorem dX11_tells_76 : decode cX11_tells 76 = .ok (.invokevirtual 351, 3) := by decide +kernel
theorem dX11_tells_79 : decode cX11_tells 79 = .ok (.ireturn, 1) := by decide +kernel
theorem dX11_voice_0 : decode cX11_voice 0 = .ok (.aload_n 0, 1) := by decide +kernel
theorem dX11_voice_1 : decode cX11_voice 1 = .ok (.iload_n 1, 1) := by decide +kernel
theorem dX11_voice_2 : decode cX11_voice 2 = .ok (.invokevirtual 219, 3) := by decide +kernel
theorem dX11_voice_5 : decode cX11_voice 5 = .ok (.ifCond .eq 15, 3) := by decide +kernel
theorem dX11_voice_8 : decode cX11_voice 8 = .ok (.iload_n 2, 1) := by decide +kernel
theorem dX11_voice_9 : decode cX11_voice 9 = .ok (.i2l, 1) := by decide +kernel
theorem dX11_voice_10 : decode cX11_voice 10 = .ok (.lconst 0, 1) := by decide +kernel
theorem dX11_voice_11 : decode cX11_voice 11 = .ok (.ldc2_w 143, 3) := by decide +kernel
theorem dX11_voice_14 : decode cX11_voice 14 = .ok (.invokestatic 57, 3) := by decide +kernel
theorem dX11_voice_17 : decode cX11_voice 17 = .ok (.ifCond .ne 9, 3) := by decide +kernel
theorem dX11_voice_20 : decode cX11_voice 20 = .ok (.aload_n 0, 1) := by decide +kernel
theorem dX11_voice_21 : decode cX11_voice 21 = .ok (.iconst 1, 1) := by decide +kernel
theorem dX11_voice_22 : decode cX11_voice 22 = .ok (.invokevirtual 73, 3) := by decide +kernel
theorem dX11_voice_25 : decode cX11_voice 25 = .ok (.ireturn, 1) := by decide +kernel
theorem dX11_voice_26 : decode cX11_voice 26 = .ok (.aload_n 0, 1) := by decide +kernel
theorem dX11_voice_27 : decode cX11_voice 27 = .ok (.iconst 0, 1) := by decide +kernel
theorem dX11_voice_28 : decode cX11_voice 28 = .ok (.putfield 319, 3) := by decide +kernel
theorem dX11_voice_31 : decode cX11_voice 31 = .ok (.aload_n 0, 1) := by decide +kernel
theorem dX11_voice_32 : decode cX11_voice 32 = .ok (.aload_n 0, 1) := by decide +kernel
theorem dX11_voice_33 : decode cX11_voice 33 = .ok (.iload_n 1, 1) := by decide +kernel
theorem dX11_voice_34 : decode cX11_voice 34 = .ok (.iconst 0, 1) := by decide +kernel
theorem dX11_voice_35 : decode cX11_voice 35 = .ok (.invokevirtual 222, 3) := by decide +kernel
theorem dX11_voice_38 : decode cX11_voice 38 = .ok (.putfield 328, 3) := by decide +kernel
theorem dX11_voice_41 : decode cX11_voice 41 = .ok (.aload_n 0, 1) := by decide +kernel
theorem dX11_voice_42 : decode cX11_voice 42 = .ok (.iload_n 1, 1) := by decide +kernel
theorem dX11_voice_43 : decode cX11_voice 43 = .ok (.putfield 325, 3) := by decide +kernel
theorem dX11_voice_46 : decode cX11_voice 46 = .ok (.aload_n 0, 1) := by decide +kernel
theorem dX11_voice_47 : decode cX11_voice 47 = .ok (.aload_n 0, 1) := by decide +kernel
theorem dX11_voice_48 : decode cX11_voice 48 = .ok (.iload_n 1, 1) := by decide +kernel
theorem dX11_voice_49 : decode cX11_voice 49 = .ok (.iconst 2, 1) := by decide +kernel
theorem dX11_voice_50 : decode cX11_voice 50 = .ok (.invokevirtual 222, 3) := by decide +kernel
theorem dX11_voice_53 : decode cX11_voice 53 = .ok (.putfield 342, 3) := by decide +kernel
theorem dX11_voice_56 : decode cX11_voice 56 = .ok (.iload_n 2, 1) := by decide +kernel
theorem dX11_voice_57 : decode cX11_voice 57 = .ok (.ifCond .ne 11, 3) := by decide +kernel
theorem dX11_voice_60 : decode cX11_voice 60 = .ok (.aload_n 0, 1) := by decide +kernel
theorem dX11_voice_61 : decode cX11_voice 61 = .ok (.iload_n 3, 1) := by decide +kernel
theorem dX11_voice_62 : decode cX11_voice 62 = .ok (.invokevirtual 337, 3) := by decide +kernel
theorem dX11_voice_65 : decode cX11_voice 65 = .ok (.goto 34, 3) := by decide +kernel
theorem dX11_voice_68 : decode cX11_voice 68 = .ok (.iload_n 2, 1) := by decide +kernel
theorem dX11_voice_69 : decode cX11_voice 69 = .ok (.iconst 1, 1) := by decide +kernel
theorem dX11_voice_70 : decode cX11_voice 70 = .ok (.if_icmp .ne 11, 3) := by decide +kernel
theorem dX11_voice_73 : decode cX11_voice 73 = .ok (.aload_n 0, 1) := by decide +kernel
theorem dX11_voice_74 : decode cX11_voice 74 = .ok (.iload_n 3, 1) := by decide +kernel
theorem dX11_voice_75 : decode cX11_voice 75 = .ok (.invokevirtual 348, 3) := by decide +kernel
theorem dX11_voice_78 : decode cX11_voice 78 = .ok (.goto 21, 3) := by decide +kernel
theorem dX11_voice_81 : decode cX11_voice 81 = .ok (.iload_n 2, 1) := by decide +kernel
theorem dX11_voice_82 : decode cX11_voice 82 = .ok (.iconst 2, 1) := by decide +kernel
theorem dX11_voice_83 : decode cX11_voice 83 = .ok (.if_icmp .ne 11, 3) := by decide +kernel
theorem dX11_voice_86 : decode cX11_voice 86 = .ok (.aload_n 0, 1) := by decide +kernel
theorem dX11_voice_87 : decode cX11_voice 87 = .ok (.iload_n 3, 1) := by decide +kernel
theorem dX11_voice_88 : decode cX11_voice 88 = .ok (.invokevirtual 334, 3) := by decide +kernel
theorem dX11_voice_91 : decode cX11_voice 91 = .ok (.goto 8, 3) := by decide +kernel
theorem dX11_voice_94 : decode cX11_voice 94 = .ok (.aload_n 0, 1) := by decide +kernel
theorem dX11_voice_95 : decode cX11_voice 95 = .ok (.iload_n 3, 1) := by decide +kernel
theorem dX11_voice_96 : decode cX11_voice 96 = .ok (.invokevirtual 357, 3) := by decide +kernel
theorem dX11_voice_99 : decode cX11_voice 99 = .ok (.ireturn, 1) := by decide +kernel
theorem dX11_trace_0 : decode cX11_trace 0 = .ok (.iload_n 1, 1) := by decide +kernel
theorem dX11_trace_1 : decode cX11_trace 1 = .ok (.i2l, 1) := by decide +kernel
theorem dX11_trace_2 : decode cX11_trace 2 = .ok (.lconst 0, 1) := by decide +kernel
theorem dX11_trace_3 : decode cX11_trace 3 = .ok (.aload_n 0, 1) := by decide +kernel
theorem dX11_trace_4 : decode cX11_trace 4 = .ok (.getfield 319, 3) := by decide +kernel
theorem dX11_trace_7 : decode cX11_trace 7 = .ok (.iconst 1, 1) := by decide +kernel
theorem dX11_trace_8 : decode cX11_trace 8 = .ok (.isub, 1) := by decide +kernel
theorem dX11_trace_9 : decode cX11_trace 9 = .ok (.i2l, 1) := by decide +kernel
theorem dX11_trace_10 : decode cX11_trace 10 = .ok (.invokestatic 57, 3) := by decide +kernel
theorem dX11_trace_13 : decode cX11_trace 13 = .ok (.ifCond .eq 12, 3) := by decide +kernel
theorem dX11_trace_16 : decode cX11_trace 16 = .ok (.aload_n 0, 1) := by decide +kernel
theorem dX11_trace_17 : decode cX11_trace 17 = .ok (.getfield 53, 3) := by decide +kernel
theorem dX11_trace_20 : decode cX11_trace 20 = .ok (.iload_n 1, 1) := by decide +kernel
theorem dX11_trace_21 : decode cX11_trace 21 = .ok (.iaload, 1) := by decide +kernel
theorem dX11_trace_22 : decode cX11_trace 22 = .ok (.goto 8, 3) := by decide +kernel
theorem dX11_trace_25 : decode cX11_trace 25 = .ok (.aload_n 0, 1) := by decide +kernel
theorem dX11_trace_26 : decode cX11_trace 26 = .ok (.iconst 2, 1) := by decide +kernel
theorem dX11_trace_27 : decode cX11_trace 27 = .ok (.invokevirtual 73, 3) := by decide +kernel
theorem dX11_trace_30 : decode cX11_trace 30 = .ok (.ireturn, 1) := by decide +kernel
theorem dX11_sheet_0 : decode cX11_sheet 0 = .ok (.iload_n 1, 1) := by decide +kernel
theorem dX11_sheet_1 : decode cX11_sheet 1 = .ok (.invokestatic 145, 3) := by decide +kernel
theorem dX11_sheet_4 : decode cX11_sheet 4 = .ok (.ifCond .eq 25, 3) := by decide +kernel
theorem dX11_sheet_7 : decode cX11_sheet 7 = .ok (.iload_n 2, 1) := by decide +kernel
theorem dX11_sheet_8 : decode cX11_sheet 8 = .ok (.ifCond .eq 27, 3) := by decide +kernel
theorem dX11_sheet_11 : decode cX11_sheet 11 = .ok (.iload_n 2, 1) := by decide +kernel
theorem dX11_sheet_12 : decode cX11_sheet 12 = .ok (.bipush 8, 2) := by decide +kernel
theorem dX11_sheet_14 : decode cX11_sheet 14 = .ok (.if_icmp .eq 21, 3) := by decide +kernel
theorem dX11_sheet_17 : decode cX11_sheet 17 = .ok (.iload_n 2, 1) := by decide +kernel
theorem dX11_sheet_18 : decode cX11_sheet 18 = .ok (.bipush 16, 2) := by decide +kernel
theorem dX11_sheet_20 : decode cX11_sheet 20 = .ok (.if_icmp .eq 15, 3) := by decide +kernel
theorem dX11_sheet_23 : decode cX11_sheet 23 = .ok (.iload_n 2, 1) := by decide +kernel
theorem dX11_sheet_24 : decode cX11_sheet 24 = .ok (.bipush 32, 2) := by decide +kernel
theorem dX11_sheet_26 : decode cX11_sheet 26 = .ok (.if_icmp .eq 9, 3) := by decide +kernel
theorem dX11_sheet_29 : decode cX11_sheet 29 = .ok (.aload_n 0, 1) := by decide +kernel
theorem dX11_sheet_30 : decode cX11_sheet 30 = .ok (.iconst 1, 1) := by decide +kernel
theorem dX11_sheet_31 : decode cX11_sheet 31 = .ok (.invokevirtual 73, 3) := by decide +kernel
theorem dX11_sheet_34 : decode cX11_sheet 34 = .ok (.ireturn, 1) := by decide +kernel
theorem dX11_sheet_35 : decode cX11_sheet 35 = .ok (.iload_n 2, 1) := by decide +kernel
theorem dX11_sheet_36 : decode cX11_sheet 36 = .ok (.ifCond .eq 13, 3) := by decide +kernel
theorem dX11_sheet_39 : decode cX11_sheet 39 = .ok (.iload_n 3, 1) := by decide +kernel
theorem dX11_sheet_40 : decode cX11_sheet 40 = .ok (.ifCond .ge 9, 3) := by decide +kernel
theorem dX11_sheet_43 : decode cX11_sheet 43 = .ok (.aload_n 0, 1) := by decide +kernel
theorem dX11_sheet_44 : decode cX11_sheet 44 = .ok (.iconst 3, 1) := by decide +kernel
theorem dX11_sheet_45 : decode cX11_sheet 45 = .ok (.invokevirtual 73, 3) := by decide +kernel
theorem dX11_sheet_48 : decode cX11_sheet 48 = .ok (.ireturn, 1) := by decide +kernel
theorem dX11_sheet_49 : decode cX11_sheet 49 = .ok (.iload_n 2, 1) := by decide +kernel
theorem dX11_sheet_50 : decode cX11_sheet 50 = .ok (.ifCond .eq 15, 3) := by decide +kernel
theorem dX11_sheet_53 : decode cX11_sheet 53 = .ok (.iload_n 3, 1) := by decide +kernel
theorem dX11_sheet_54 : decode cX11_sheet 54 = .ok (.bipush 40, 2) := by decide +kernel
theorem dX11_sheet_56 : decode cX11_sheet 56 = .ok (.if_icmp .le 9, 3) := by decide +kernel
theorem dX11_sheet_59 : decode cX11_sheet 59 = .ok (.aload_n 0, 1) := by decide +kernel
theorem dX11_sheet_60 : decode cX11_sheet 60 = .ok (.iconst 1, 1) := by decide +kernel
theorem dX11_sheet_61 : decode cX11_sheet 61 = .ok (.invokevirtual 73, 3) := by decide +kernel
theorem dX11_sheet_64 : decode cX11_sheet 64 = .ok (.ireturn, 1) := by decide +kernel
theorem dX11_sheet_65 : decode cX11_sheet 65 = .ok (.aload_n 0, 1) := by decide +kernel
theorem dX11_sheet_66 : decode cX11_sheet 66 = .ok (.getfield 26, 3) := by decide +kernel
theorem dX11_sheet_69 : decode cX11_sheet 69 = .ok (.iload_n 1, 1) := by decide +kernel
theorem dX11_sheet_70 : decode cX11_sheet 70 = .ok (.iload_n 2, 1) := by decide +kernel
theorem dX11_sheet_71 : decode cX11_sheet 71 = .ok (.iastore, 1) := by decide +kernel
theorem dX11_sheet_72 : decode cX11_sheet 72 = .ok (.aload_n 0, 1) := by decide +kernel
theorem dX11_sheet_73 : decode cX11_sheet 73 = .ok (.getfield 29, 3) := by decide +kernel
theorem dX11_sheet_76 : decode cX11_sheet 76 = .ok (.iload_n 1, 1) := by decide +kernel
theorem dX11_sheet_77 : decode cX11_sheet 77 = .ok (.iload_n 2, 1) := by decide +kernel
theorem dX11_sheet_78 : decode cX11_sheet 78 = .ok (.ifCond .ne 7, 3) := by decide +kernel
theorem dX11_sheet_81 : decode cX11_sheet 81 = .ok (.iconst 0, 1) := by decide +kernel
theorem dX11_sheet_82 : decode cX11_sheet 82 = .ok (.goto 4, 3) := by decide +kernel
theorem dX11_sheet_85 : decode cX11_sheet 85 = .ok (.iload_n 3, 1) := by decide +kernel
theorem dX11_sheet_86 : decode cX11_sheet 86 = .ok (.iastore, 1) := by decide +kernel
theorem dX11_sheet_87 : decode cX11_sheet 87 = .ok (.iconst 0, 1) := by decide +kernel
theorem dX11_sheet_88 : decode cX11_sheet 88 = .ok (.istore 4, 2) := by decide +kernel
theorem dX11_sheet_90 : decode cX11_sheet 90 = .ok (.iload 4, 2) := by decide +kernel
theorem dX11_sheet_92 : decode cX11_sheet 92 = .ok (.bipush 40, 2) := by decide +kernel
theorem dX11_sheet_94 : decode cX11_sheet 94 = .ok (.if_icmp .ge 22, 3) := by decide +kernel
theorem dX11_sheet_97 : decode cX11_sheet 97 = .ok (.aload_n 0, 1) := by decide +kernel
theorem dX11_sheet_98 : decode cX11_sheet 98 = .ok (.getfield 32, 3) := by decide +kernel
theorem dX11_sheet_101 : decode cX11_sheet 101 = .ok (.bipush 40, 2) := by decide +kernel
theorem dX11_sheet_103 : decode cX11_sheet 103 = .ok (.iload_n 1, 1) := by decide +kernel
theorem dX11_sheet_104 : decode cX11_sheet 104 = .ok (.imul, 1) := by decide +kernel
theorem dX11_sheet_105 : decode cX11_sheet 105 = .ok (.iload 4, 2) := by decide +kernel
theorem dX11_sheet_107 : decode cX11_sheet 107 = .ok (.iadd, 1) := by decide +kernel
theorem dX11_sheet_108 : decode cX11_sheet 108 = .ok (.iconst 0, 1) := by decide +kernel
theorem dX11_sheet_109 : decode cX11_sheet 109 = .ok (.iastore, 1) := by decide +kernel
theorem dX11_sheet_110 : decode cX11_sheet 110 = .ok (.iinc 4 1, 3) := by decide +kernel
theorem dX11_sheet_113 : decode cX11_sheet 113 = .ok (.goto (-23), 3) := by decide +kernel
theorem dX11_sheet_116 : decode cX11_sheet 116 = .ok (.iconst 1, 1) := by decide +kernel
theorem dX11_sheet_117 : decode cX11_sheet 117 = .ok (.ireturn, 1) := by decide +kernel
theorem dX11_put_0 : decode cX11_put 0 = .ok (.iload_n 1, 1) := by decide +kernel
theorem dX11_put_1 : decode cX11_put 1 = .ok (.invokestatic 145, 3) := by decide +kernel
theorem dX11_put_4 : decode cX11_put 4 = .ok (.ifCond .ne 9, 3) := by decide +kernel
theorem dX11_put_7 : decode cX11_put 7 = .ok (.aload_n 0, 1) := by decide +kernel
theorem dX11_put_8 : decode cX11_put 8 = .ok (.iconst 1, 1) := by decide +kernel
theorem dX11_put_9 : decode cX11_put 9 = .ok (.invokevirtual 73, 3) := by decide +kernel
theorem dX11_put_12 : decode cX11_put 12 = .ok (.ireturn, 1) := by decide +kernel
theorem dX11_put_13 : decode cX11_put 13 = .ok (.aload_n 0, 1) := by decide +kernel
theorem dX11_put_14 : decode cX11_put 14 = .ok (.getfield 26, 3) := by decide +kernel
theorem dX11_put_17 : decode cX11_put 17 = .ok (.iload_n 1, 1) := by decide +kernel
theorem dX11_put_18 : decode cX11_put 18 = .ok (.iaload, 1) := by decide +kernel
theorem dX11_put_19 : decode cX11_put 19 = .ok (.ifCond .ne 9, 3) := by decide +kernel
theorem dX11_put_22 : decode cX11_put 22 = .ok (.aload_n 0, 1) := by decide +kernel
theorem dX11_put_23 : decode cX11_put 23 = .ok (.iconst 2, 1) := by decide +kernel
theorem dX11_put_24 : decode cX11_put 24 = .ok (.invokevirtual 73, 3) := by decide +kernel
theorem dX11_put_27 : decode cX11_put 27 = .ok (.ireturn, 1) := by decide +kernel
theorem dX11_put_28 : decode cX11_put 28 = .ok (.iload_n 2, 1) := by decide +kernel
theorem dX11_put_29 : decode cX11_put 29 = .ok (.i2l, 1) := by decide +kernel
theorem dX11_put_30 : decode cX11_put 30 = .ok (.lconst 0, 1) := by decide +kernel
theorem dX11_put_31 : decode cX11_put 31 = .ok (.aload_n 0, 1) := by decide +kernel
theorem dX11_put_32 : decode cX11_put 32 = .ok (.getfield 29, 3) := by decide +kernel
theorem dX11_put_35 : decode cX11_put 35 = .ok (.iload_n 1, 1) := by decide +kernel
theorem dX11_put_36 : decode cX11_put 36 = .ok (.iaload, 1) := by decide +kernel
theorem dX11_put_37 : decode cX11_put 37 = .ok (.iconst 1, 1) := by decide +kernel
theorem dX11_put_38 : decode cX11_put 38 = .ok (.isub, 1) := by decide +kernel
theorem dX11_put_39 : decode cX11_put 39 = .ok (.i2l, 1) := by decide +kernel
theorem dX11_put_40 : decode cX11_put 40 = .ok (.invokestatic 57, 3) := by decide +kernel
theorem dX11_put_43 : decode cX11_put 43 = .ok (.ifCond .ne 9, 3) := by decide +kernel
theorem dX11_put_46 : decode cX11_put 46 = .ok (.aload_n 0, 1) := by decide +kernel
theorem dX11_put_47 : decode cX11_put 47 = .ok (.iconst 1, 1) := by decide +kernel
theorem dX11_put_48 : decode cX11_put 48 = .ok (.invokevirtual 73, 3) := by decide +kernel
theorem dX11_put_51 : decode cX11_put 51 = .ok (.ireturn, 1) := by decide +kernel
theorem dX11_put_52 : decode cX11_put 52 = .ok (.aload_n 0, 1) := by decide +kernel
theorem dX11_put_53 : decode cX11_put 53 = .ok (.getfield 32, 3) := by decide +kernel
theorem dX11_put_56 : decode cX11_put 56 = .ok (.bipush 40, 2) := by decide +kernel
theorem dX11_put_58 : decode cX11_put 58 = .ok (.iload_n 1, 1) := by decide +kernel
theorem dX11_put_59 : decode cX11_put 59 = .ok (.imul, 1) := by decide +kernel
theorem dX11_put_60 : decode cX11_put 60 = .ok (.iload_n 2, 1) := by decide +kernel
theorem dX11_put_61 : decode cX11_put 61 = .ok (.iadd, 1) := by decide +kernel
theorem dX11_put_62 : decode cX11_put 62 = .ok (.aload_n 0, 1) := by decide +kernel
theorem dX11_put_63 : decode cX11_put 63 = .ok (.getfield 26, 3) := by decide +kernel
theorem dX11_put_66 : decode cX11_put 66 = .ok (.iload_n 1, 1) := by decide +kernel
theorem dX11_put_67 : decode cX11_put 67 = .ok (.iaload, 1) := by decide +kernel
theorem dX11_put_68 : decode cX11_put 68 = .ok (.bipush 8, 2) := by decide +kernel
theorem dX11_put_70 : decode cX11_put 70 = .ok (.if_icmp .ne 8, 3) := by decide +kernel
theorem dX11_put_73 : decode cX11_put 73 = .ok (.iload_n 3, 1) := by decide +kernel
theorem dX11_put_74 : decode cX11_put 74 = .ok (.i2b, 1) := by decide +kernel
theorem dX11_put_75 : decode cX11_put 75 = .ok (.goto 20, 3) := by decide +kernel
theorem dX11_put_78 : decode cX11_put 78 = .ok (.aload_n 0, 1) := by decide +kernel
theorem dX11_put_79 : decode cX11_put 79 = .ok (.getfield 26, 3) := by decide +kernel
theorem dX11_put_82 : decode cX11_put 82 = .ok (.iload_n 1, 1) := by decide +kernel
theorem dX11_put_83 : decode cX11_put 83 = .ok (.iaload, 1) := by decide +kernel
theorem dX11_put_84 : decode cX11_put 84 = .ok (.bipush 16, 2) := by decide +kernel
theorem dX11_put_86 : decode cX11_put 86 = .ok (.if_icmp .ne 8, 3) := by decide +kernel
theorem dX11_put_89 : decode cX11_put 89 = .ok (.iload_n 3, 1) := by decide +kernel
theorem dX11_put_90 : decode cX11_put 90 = .ok (.i2s, 1) := by decide +kernel
theorem dX11_put_91 : decode cX11_put 91 = .ok (.goto 4, 3) := by decide +kernel
theorem dX11_put_94 : decode cX11_put 94 = .ok (.iload_n 3, 1) := by decide +kernel
theorem dX11_put_95 : decode cX11_put 95 = .ok (.iastore, 1) := by decide +kernel
theorem dX11_put_96 : decode cX11_put 96 = .ok (.iconst 1, 1) := by decide +kernel
theorem dX11_put_97 : decode cX11_put 97 = .ok (.ireturn, 1) := by decide +kernel
theorem dX11_move_0 : decode cX11_move 0 = .ok (.iload_n 1, 1) := by decide +kernel
theorem dX11_move_1 : decode cX11_move 1 = .ok (.invokestatic 145, 3) := by decide +kernel
theorem dX11_move_4 : decode cX11_move 4 = .ok (.ifCond .eq 10, 3) := by decide +kernel
theorem dX11_move_7 : decode cX11_move 7 = .ok (.iload_n 3, 1) := by decide +kernel
theorem dX11_move_8 : decode cX11_move 8 = .ok (.invokestatic 145, 3) := by decide +kernel
theorem dX11_move_11 : decode cX11_move 11 = .ok (.ifCond .ne 9, 3) := by decide +kernel
theorem dX11_move_14 : decode cX11_move 14 = .ok (.aload_n 0, 1) := by decide +kernel
theorem dX11_move_15 : decode cX11_move 15 = .ok (.iconst 1, 1) := by decide +kernel
theorem dX11_move_16 : decode cX11_move 16 = .ok (.invokevirtual 73, 3) := by decide +kernel
theorem dX11_move_19 : decode cX11_move 19 = .ok (.ireturn, 1) := by decide +kernel
theorem dX11_move_20 : decode cX11_move 20 = .ok (.aload_n 0, 1) := by decide +kernel
theorem dX11_move_21 : decode cX11_move 21 = .ok (.getfield 26, 3) := by decide +kernel
theorem dX11_move_24 : decode cX11_move 24 = .ok (.iload_n 1, 1) := by decide +kernel
theorem dX11_move_25 : decode cX11_move 25 = .ok (.iaload, 1) := by decide +kernel
theorem dX11_move_26 : decode cX11_move 26 = .ok (.ifCond .eq 12, 3) := by decide +kernel
theorem dX11_move_29 : decode cX11_move 29 = .ok (.aload_n 0, 1) := by decide +kernel
theorem dX11_move_30 : decode cX11_move 30 = .ok (.getfield 26, 3) := by decide +kernel
theorem dX11_move_33 : decode cX11_move 33 = .ok (.iload_n 3, 1) := by decide +kernel
theorem dX11_move_34 : decode cX11_move 34 = .ok (.iaload, 1) := by decide +kernel
theorem dX11_move_35 : decode cX11_move 35 = .ok (.ifCond .ne 9, 3) := by decide +kernel
theorem dX11_move_38 : decode cX11_move 38 = .ok (.aload_n 0, 1) := by decide +kernel
theorem dX11_move_39 : decode cX11_move 39 = .ok (.iconst 2, 1) := by decide +kernel
theorem dX11_move_40 : decode cX11_move 40 = .ok (.invokevirtual 73, 3) := by decide +kernel
theorem dX11_move_43 : decode cX11_move 43 = .ok (.ireturn, 1) := by decide +kernel
theorem dX11_move_44 : decode cX11_move 44 = .ok (.aload_n 0, 1) := by decide +kernel
theorem dX11_move_45 : decode cX11_move 45 = .ok (.getfield 26, 3) := by decide +kernel
theorem dX11_move_48 : decode cX11_move 48 = .ok (.iload_n 1, 1) := by decide +kernel
theorem dX11_move_49 : decode cX11_move 49 = .ok (.iaload, 1) := by decide +kernel
theorem dX11_move_50 : decode cX11_move 50 = .ok (.aload_n 0, 1) := by decide +kernel
theorem dX11_move_51 : decode cX11_move 51 = .ok (.getfield 26, 3) := by decide +kernel
theorem dX11_move_54 : decode cX11_move 54 = .ok (.iload_n 3, 1) := by decide +kernel
theorem dX11_move_55 : decode cX11_move 55 = .ok (.iaload, 1) := by decide +kernel
theorem dX11_move_56 : decode cX11_move 56 = .ok (.if_icmp .eq 9, 3) := by decide +kernel
theorem dX11_move_59 : decode cX11_move 59 = .ok (.aload_n 0, 1) := by decide +kernel
theorem dX11_move_60 : decode cX11_move 60 = .ok (.iconst 5, 1) := by decide +kernel
theorem dX11_move_61 : decode cX11_move 61 = .ok (.invokevirtual 73, 3) := by decide +kernel
theorem dX11_move_64 : decode cX11_move 64 = .ok (.ireturn, 1) := by decide +kernel
theorem dX11_move_65 : decode cX11_move 65 = .ok (.iload 5, 2) := by decide +kernel
theorem dX11_move_67 : decode cX11_move 67 = .ok (.ifCond .lt 39, 3) := by decide +kernel
theorem dX11_move_70 : decode cX11_move 70 = .ok (.iload_n 2, 1) := by decide +kernel
theorem dX11_move_71 : decode cX11_move 71 = .ok (.ifCond .lt 35, 3) := by decide +kernel
theorem dX11_move_74 : decode cX11_move 74 = .ok (.iload 4, 2) := by decide +kernel
theorem dX11_move_76 : decode cX11_move 76 = .ok (.ifCond .lt 30, 3) := by decide +kernel
theorem dX11_move_79 : decode cX11_move 79 = .ok (.iload 5, 2) := by decide +kernel
theorem dX11_move_81 : decode cX11_move 81 = .ok (.aload_n 0, 1) := by decide +kernel
theorem dX11_move_82 : decode cX11_move 82 = .ok (.getfield 29, 3) := by decide +kernel
theorem dX11_move_85 : decode cX11_move 85 = .ok (.iload_n 1, 1) := by decide +kernel
theorem dX11_move_86 : decode cX11_move 86 = .ok (.iaload, 1) := by decide +kernel
theorem dX11_move_87 : decode cX11_move 87 = .ok (.iload_n 2, 1) := by decide +kernel
theorem dX11_move_88 : decode cX11_move 88 = .ok (.isub, 1) := by decide +kernel
theorem dX11_move_89 : decode cX11_move 89 = .ok (.if_icmp .gt 17, 3) := by decide +kernel
theorem dX11_move_92 : decode cX11_move 92 = .ok (.iload 5, 2) := by decide +kernel
theorem dX11_move_94 : decode cX11_move 94 = .ok (.aload_n 0, 1) := by decide +kernel
theorem dX11_move_95 : decode cX11_move 95 = .ok (.getfield 29, 3) := by decide +kernel
theorem dX11_move_98 : decode cX11_move 98 = .ok (.iload_n 3, 1) := by decide +kernel
theorem dX11_move_99 : decode cX11_move 99 = .ok (.iaload, 1) := by decide +kernel
theorem dX11_move_100 : decode cX11_move 100 = .ok (.iload 4, 2) := by decide +kernel
theorem dX11_move_102 : decode cX11_move 102 = .ok (.isub, 1) := by decide +kernel
theorem dX11_move_103 : decode cX11_move 103 = .ok (.if_icmp .le 9, 3) := by decide +kernel
theorem dX11_move_106 : decode cX11_move 106 = .ok (.aload_n 0, 1) := by decide +kernel
theorem dX11_move_107 : decode cX11_move 107 = .ok (.iconst 1, 1) := by decide +kernel
theorem dX11_move_108 : decode cX11_move 108 = .ok (.invokevirtual 73, 3) := by decide +kernel
theorem dX11_move_111 : decode cX11_move 111 = .ok (.ireturn, 1) := by decide +kernel
theorem dX11_move_112 : decode cX11_move 112 = .ok (.iload_n 1, 1) := by decide +kernel
theorem dX11_move_113 : decode cX11_move 113 = .ok (.iload_n 3, 1) := by decide +kernel
theorem dX11_move_114 : decode cX11_move 114 = .ok (.if_icmp .ne 13, 3) := by decide +kernel
theorem dX11_move_117 : decode cX11_move 117 = .ok (.iload_n 2, 1) := by decide +kernel
theorem dX11_move_118 : decode cX11_move 118 = .ok (.iload 4, 2) := by decide +kernel
theorem dX11_move_120 : decode cX11_move 120 = .ok (.if_icmp .ge 7, 3) := by decide +kernel
theorem dX11_move_123 : decode cX11_move 123 = .ok (.iconst 1, 1) := by decide +kernel
theorem dX11_move_124 : decode cX11_move 124 = .ok (.goto 4, 3) := by decide +kernel
theorem dX11_move_127 : decode cX11_move 127 = .ok (.iconst 0, 1) := by decide +kernel
theorem dX11_move_128 : decode cX11_move 128 = .ok (.istore 6, 2) := by decide +kernel
theorem dX11_move_130 : decode cX11_move 130 = .ok (.iconst 0, 1) := by decide +kernel
theorem dX11_move_131 : decode cX11_move 131 = .ok (.istore 7, 2) := by decide +kernel
theorem dX11_move_133 : decode cX11_move 133 = .ok (.iload 7, 2) := by decide +kernel
theorem dX11_move_135 : decode cX11_move 135 = .ok (.iload 5, 2) := by decide +kernel
theorem dX11_move_137 : decode cX11_move 137 = .ok (.if_icmp .ge 57, 3) := by decide +kernel
theorem dX11_move_140 : decode cX11_move 140 = .ok (.iload 6, 2) := by decide +kernel
theorem dX11_move_142 : decode cX11_move 142 = .ok (.ifCond .eq 13, 3) := by decide +kernel
theorem dX11_move_145 : decode cX11_move 145 = .ok (.iload 5, 2) := by decide +kernel
theorem dX11_move_147 : decode cX11_move 147 = .ok (.iconst 1, 1) := by decide +kernel
theorem dX11_move_148 : decode cX11_move 148 = .ok (.isub, 1) := by decide +kernel
theorem dX11_move_149 : decode cX11_move 149 = .ok (.iload 7, 2) := by decide +kernel
theorem dX11_move_151 : decode cX11_move 151 = .ok (.isub, 1) := by decide +kernel
theorem dX11_move_152 : decode cX11_move 152 = .ok (.goto 5, 3) := by decide +kernel
theorem dX11_move_155 : decode cX11_move 155 = .ok (.iload 7, 2) := by decide +kernel
theorem dX11_move_157 : decode cX11_move 157 = .ok (.istore 8, 2) := by decide +kernel
theorem dX11_move_159 : decode cX11_move 159 = .ok (.aload_n 0, 1) := by decide +kernel
theorem dX11_move_160 : decode cX11_move 160 = .ok (.getfield 32, 3) := by decide +kernel
theorem dX11_move_163 : decode cX11_move 163 = .ok (.bipush 40, 2) := by decide +kernel
theorem dX11_move_165 : decode cX11_move 165 = .ok (.iload_n 3, 1) := by decide +kernel
theorem dX11_move_166 : decode cX11_move 166 = .ok (.imul, 1) := by decide +kernel
theorem dX11_move_167 : decode cX11_move 167 = .ok (.iload 4, 2) := by decide +kernel
theorem dX11_move_169 : decode cX11_move 169 = .ok (.iadd, 1) := by decide +kernel
theorem dX11_move_170 : decode cX11_move 170 = .ok (.iload 8, 2) := by decide +kernel
theorem dX11_move_172 : decode cX11_move 172 = .ok (.iadd, 1) := by decide +kernel
theorem dX11_move_173 : decode cX11_move 173 = .ok (.aload_n 0, 1) := by decide +kernel
theorem dX11_move_174 : decode cX11_move 174 = .ok (.getfield 32, 3) := by decide +kernel
theorem dX11_move_177 : decode cX11_move 177 = .ok (.bipush 40, 2) := by decide +kernel
theorem dX11_move_179 : decode cX11_move 179 = .ok (.iload_n 1, 1) := by decide +kernel
theorem dX11_move_180 : decode cX11_move 180 = .ok (.imul, 1) := by decide +kernel
theorem dX11_move_181 : decode cX11_move 181 = .ok (.iload_n 2, 1) := by decide +kernel
theorem dX11_move_182 : decode cX11_move 182 = .ok (.iadd, 1) := by decide +kernel
theorem dX11_move_183 : decode cX11_move 183 = .ok (.iload 8, 2) := by decide +kernel
theorem dX11_move_185 : decode cX11_move 185 = .ok (.iadd, 1) := by decide +kernel
theorem dX11_move_186 : decode cX11_move 186 = .ok (.iaload, 1) := by decide +kernel
theorem dX11_move_187 : decode cX11_move 187 = .ok (.iastore, 1) := by decide +kernel
theorem dX11_move_188 : decode cX11_move 188 = .ok (.iinc 7 1, 3) := by decide +kernel
theorem dX11_move_191 : decode cX11_move 191 = .ok (.goto (-58), 3) := by decide +kernel
theorem dX11_move_194 : decode cX11_move 194 = .ok (.iload 5, 2) := by decide +kernel
theorem dX11_move_196 : decode cX11_move 196 = .ok (.ireturn, 1) := by decide +kernel
theorem dX11_image_0 : decode cX11_image 0 = .ok (.iconst 0, 1) := by decide +kernel
theorem dX11_image_1 : decode cX11_image 1 = .ok (.istore_n 1, 1) := by decide +kernel
theorem dX11_image_2 : decode cX11_image 2 = .ok (.iload_n 1, 1) := by decide +kernel
theorem dX11_image_3 : decode cX11_image 3 = .ok (.sipush 950, 3) := by decide +kernel
theorem dX11_image_6 : decode cX11_image 6 = .ok (.if_icmp .ge 21, 3) := by decide +kernel
theorem dX11_image_9 : decode cX11_image 9 = .ok (.aload_n 0, 1) := by decide +kernel
theorem dX11_image_10 : decode cX11_image 10 = .ok (.getfield 13, 3) := by decide +kernel
theorem dX11_image_13 : decode cX11_image 13 = .ok (.iload_n 1, 1) := by decide +kernel
theorem dX11_image_14 : decode cX11_image 14 = .ok (.aload_n 0, 1) := by decide +kernel
theorem dX11_image_15 : decode cX11_image 15 = .ok (.getfield 9, 3) := by decide +kernel
theorem dX11_image_18 : decode cX11_image 18 = .ok (.iload_n 1, 1) := by decide +kernel
theorem dX11_image_19 : decode cX11_image 19 = .ok (.iaload, 1) := by decide +kernel
theorem dX11_image_20 : decode cX11_image 20 = .ok (.iastore, 1) := by decide +kernel
theorem dX11_image_21 : decode cX11_image 21 = .ok (.iinc 1 1, 3) := by decide +kernel
theorem dX11_image_24 : decode cX11_image 24 = .ok (.goto (-22), 3) := by decide +kernel
theorem dX11_image_27 : decode cX11_image 27 = .ok (.aload_n 0, 1) := by decide +kernel
theorem dX11_image_28 : decode cX11_image 28 = .ok (.dup, 1) := by decide +kernel
theorem dX11_image_29 : decode cX11_image 29 = .ok (.getfield 360, 3) := by decide +kernel
theorem dX11_image_32 : decode cX11_image 32 = .ok (.iconst 1, 1) := by decide +kernel
theorem dX11_image_33 : decode cX11_image 33 = .ok (.iadd, 1) := by decide +kernel
theorem dX11_image_34 : decode cX11_image 34 = .ok (.putfield 360, 3) := by decide +kernel
theorem dX11_image_37 : decode cX11_image 37 = .ok (.aload_n 0, 1) := by decide +kernel
theorem dX11_image_38 : decode cX11_image 38 = .ok (.getfield 360, 3) := by decide +kernel
theorem dX11_image_41 : decode cX11_image 41 = .ok (.ireturn, 1) := by decide +kernel
theorem dX11_restore_0 : decode cX11_restore 0 = .ok (.aload_n 0, 1) := by decide +kernel
theorem dX11_restore_1 : decode cX11_restore 1 = .ok (.getfield 360, 3) := by decide +kernel
theorem dX11_restore_4 : decode cX11_restore 4 = .ok (.ifCond .ne 9, 3) := by decide +kernel
theorem dX11_restore_7 : decode cX11_restore 7 = .ok (.aload_n 0, 1) := by decide +kernel
theorem dX11_restore_8 : decode cX11_restore 8 = .ok (.iconst 2, 1) := by decide +kernel
theorem dX11_restore_9 : decode cX11_restore 9 = .ok (.invokevirtual 73, 3) := by decide +kernel
theorem dX11_restore_12 : decode cX11_restore 12 = .ok (.ireturn, 1) := by decide +kernel
theorem dX11_restore_13 : decode cX11_restore 13 = .ok (.iconst 0, 1) := by decide +kernel
theorem dX11_restore_14 : decode cX11_restore 14 = .ok (.istore_n 1, 1) := by decide +kernel
theorem dX11_restore_15 : decode cX11_restore 15 = .ok (.iload_n 1, 1) := by decide +kernel
theorem dX11_restore_16 : decode cX11_restore 16 = .ok (.sipush 950, 3) := by decide +kernel
theorem dX11_restore_19 : decode cX11_restore 19 = .ok (.if_icmp .ge 21, 3) := by decide +kernel
theorem dX11_restore_22 : decode cX11_restore 22 = .ok (.aload_n 0, 1) := by decide +kernel
theorem dX11_restore_23 : decode cX11_restore 23 = .ok (.getfield 9, 3) := by decide +kernel
theorem dX11_restore_26 : decode cX11_restore 26 = .ok (.iload_n 1, 1) := by decide +kernel
theorem dX11_restore_27 : decode cX11_restore 27 = .ok (.aload_n 0, 1) := by decide +kernel
theorem dX11_restore_28 : decode cX11_restore 28 = .ok (.getfield 13, 3) := by decide +kernel
theorem dX11_restore_31 : decode cX11_restore 31 = .ok (.iload_n 1, 1) := by decide +kernel
theorem dX11_restore_32 : decode cX11_restore 32 = .ok (.iaload, 1) := by decide +kernel
theorem dX11_restore_33 : decode cX11_restore 33 = .ok (.iastore, 1) := by decide +kernel
theorem dX11_restore_34 : decode cX11_restore 34 = .ok (.iinc 1 1, 3) := by decide +kernel
theorem dX11_restore_37 : decode cX11_restore 37 = .ok (.goto (-22), 3) := by decide +kernel
theorem dX11_restore_40 : decode cX11_restore 40 = .ok (.aload_n 0, 1) := by decide +kernel
theorem dX11_restore_41 : decode cX11_restore 41 = .ok (.getfield 9, 3) := by decide +kernel
theorem dX11_restore_44 : decode cX11_restore 44 = .ok (.iconst 1, 1) := by decide +kernel
theorem dX11_restore_45 : decode cX11_restore 45 = .ok (.iaload, 1) := by decide +kernel
theorem dX11_restore_46 : decode cX11_restore 46 = .ok (.ireturn, 1) := by decide +kernel
theorem dX11_tell_0 : decode cX11_tell 0 = .ok (.aload_n 0, 1) := by decide +kernel
theorem dX11_tell_1 : decode cX11_tell 1 = .ok (.getfield 9, 3) := by decide +kernel
theorem dX11_tell_4 : decode cX11_tell 4 = .ok (.bipush 7, 2) := by decide +kernel
theorem dX11_tell_6 : decode cX11_tell 6 = .ok (.iaload, 1) := by decide +kernel
theorem dX11_tell_7 : decode cX11_tell 7 = .ok (.bipush 20, 2) := by decide +kernel
theorem dX11_tell_9 : decode cX11_tell 9 = .ok (.if_icmp .ne 9, 3) := by decide +kernel
theorem dX11_tell_12 : decode cX11_tell 12 = .ok (.aload_n 0, 1) := by decide +kernel
theorem dX11_tell_13 : decode cX11_tell 13 = .ok (.iconst 4, 1) := by decide +kernel
theorem dX11_tell_14 : decode cX11_tell 14 = .ok (.invokevirtual 73, 3) := by decide +kernel
theorem dX11_tell_17 : decode cX11_tell 17 = .ok (.ireturn, 1) := by decide +kernel
theorem dX11_tell_18 : decode cX11_tell 18 = .ok (.aload_n 0, 1) := by decide +kernel
theorem dX11_tell_19 : decode cX11_tell 19 = .ok (.getfield 9, 3) := by decide +kernel
theorem dX11_tell_22 : decode cX11_tell 22 = .ok (.sipush 462, 3) := by decide +kernel
theorem dX11_tell_25 : decode cX11_tell 25 = .ok (.aload_n 0, 1) := by decide +kernel
theorem dX11_tell_26 : decode cX11_tell 26 = .ok (.getfield 9, 3) := by decide +kernel
theorem dX11_tell_29 : decode cX11_tell 29 = .ok (.bipush 7, 2) := by decide +kernel
theorem dX11_tell_31 : decode cX11_tell 31 = .ok (.iaload, 1) := by decide +kernel
theorem dX11_tell_32 : decode cX11_tell 32 = .ok (.iadd, 1) := by decide +kernel
theorem dX11_tell_33 : decode cX11_tell 33 = .ok (.iload_n 1, 1) := by decide +kernel
theorem dX11_tell_34 : decode cX11_tell 34 = .ok (.iastore, 1) := by decide +kernel
theorem dX11_tell_35 : decode cX11_tell 35 = .ok (.aload_n 0, 1) := by decide +kernel
theorem dX11_tell_36 : decode cX11_tell 36 = .ok (.getfield 9, 3) := by decide +kernel
theorem dX11_tell_39 : decode cX11_tell 39 = .ok (.bipush 7, 2) := by decide +kernel
theorem dX11_tell_41 : decode cX11_tell 41 = .ok (.dup2, 1) := by decide +kernel
theorem dX11_tell_42 : decode cX11_tell 42 = .ok (.iaload, 1) := by decide +kernel
theorem dX11_tell_43 : decode cX11_tell 43 = .ok (.iconst 1, 1) := by decide +kernel
theorem dX11_tell_44 : decode cX11_tell 44 = .ok (.iadd, 1) := by decide +kernel
theorem dX11_tell_45 : decode cX11_tell 45 = .ok (.iastore, 1) := by decide +kernel
theorem dX11_tell_46 : decode cX11_tell 46 = .ok (.aload_n 0, 1) := by decide +kernel
theorem dX11_tell_47 : decode cX11_tell 47 = .ok (.getfield 9, 3) := by decide +kernel
theorem dX11_tell_50 : decode cX11_tell 50 = .ok (.bipush 7, 2) := by decide +kernel
theorem dX11_tell_52 : decode cX11_tell 52 = .ok (.iaload, 1) := by decide +kernel
theorem dX11_tell_53 : decode cX11_tell 53 = .ok (.ireturn, 1) := by decide +kernel
theorem dX11_check_0 : decode cX11_check 0 = .ok (.aload_n 0, 1) := by decide +kernel
theorem dX11_check_1 : decode cX11_check 1 = .ok (.getfield 9, 3) := by decide +kernel
theorem dX11_check_4 : decode cX11_check 4 = .ok (.bipush 7, 2) := by decide +kernel
theorem dX11_check_6 : decode cX11_check 6 = .ok (.iaload, 1) := by decide +kernel
theorem dX11_check_7 : decode cX11_check 7 = .ok (.istore_n 2, 1) := by decide +kernel
theorem dX11_check_8 : decode cX11_check 8 = .ok (.aload_n 0, 1) := by decide +kernel
theorem dX11_check_9 : decode cX11_check 9 = .ok (.getfield 9, 3) := by decide +kernel
theorem dX11_check_12 : decode cX11_check 12 = .ok (.bipush 7, 2) := by decide +kernel
theorem dX11_check_14 : decode cX11_check 14 = .ok (.iconst 0, 1) := by decide +kernel
theorem dX11_check_15 : decode cX11_check 15 = .ok (.iastore, 1) := by decide +kernel
theorem dX11_check_16 : decode cX11_check 16 = .ok (.aload_n 0, 1) := by decide +kernel
theorem dX11_check_17 : decode cX11_check 17 = .ok (.iload_n 1, 1) := by decide +kernel
theorem dX11_check_18 : decode cX11_check 18 = .ok (.invokevirtual 219, 3) := by decide +kernel
theorem dX11_check_21 : decode cX11_check 21 = .ok (.ifCond .ne 9, 3) := by decide +kernel
theorem dX11_check_24 : decode cX11_check 24 = .ok (.aload_n 0, 1) := by decide +kernel
theorem dX11_check_25 : decode cX11_check 25 = .ok (.iconst 1, 1) := by decide +kernel
theorem dX11_check_26 : decode cX11_check 26 = .ok (.invokevirtual 73, 3) := by decide +kernel
theorem dX11_check_29 : decode cX11_check 29 = .ok (.ireturn, 1) := by decide +kernel
theorem dX11_check_30 : decode cX11_check 30 = .ok (.aload_n 0, 1) := by decide +kernel
theorem dX11_check_31 : decode cX11_check 31 = .ok (.invokevirtual 120, 3) := by decide +kernel
theorem dX11_check_34 : decode cX11_check 34 = .ok (.aload_n 0, 1) := by decide +kernel
theorem dX11_check_35 : decode cX11_check 35 = .ok (.iload_n 1, 1) := by decide +kernel
theorem dX11_check_36 : decode cX11_check 36 = .ok (.iconst 1, 1) := by decide +kernel
theorem dX11_check_37 : decode cX11_check 37 = .ok (.invokevirtual 222, 3) := by decide +kernel
theorem dX11_check_40 : decode cX11_check 40 = .ok (.bipush 10, 2) := by decide +kernel
theorem dX11_check_42 : decode cX11_check 42 = .ok (.idiv, 1) := by decide +kernel
theorem dX11_check_43 : decode cX11_check 43 = .ok (.istore_n 3, 1) := by decide +kernel
theorem dX11_check_44 : decode cX11_check 44 = .ok (.iconst 0, 1) := by decide +kernel
theorem dX11_check_45 : decode cX11_check 45 = .ok (.istore 4, 2) := by decide +kernel
theorem dX11_check_47 : decode cX11_check 47 = .ok (.iconst 0, 1) := by decide +kernel
theorem dX11_check_48 : decode cX11_check 48 = .ok (.istore 5, 2) := by decide +kernel
theorem dX11_check_50 : decode cX11_check 50 = .ok (.iload 5, 2) := by decide +kernel
theorem dX11_check_52 : decode cX11_check 52 = .ok (.aload_n 0, 1) := by decide +kernel
theorem dX11_check_53 : decode cX11_check 53 = .ok (.getfield 9, 3) := by decide +kernel
theorem dX11_check_56 : decode cX11_check 56 = .ok (.iconst 1, 1) := by decide +kernel
theorem dX11_check_57 : decode cX11_check 57 = .ok (.iaload, 1) := by decide +kernel
theorem dX11_check_58 : decode cX11_check 58 = .ok (.if_icmp .ge 103, 3) := by decide +kernel
theorem dX11_check_61 : decode cX11_check 61 = .ok (.aload_n 0, 1) := by decide +kernel
theorem dX11_check_62 : decode cX11_check 62 = .ok (.iload_n 3, 1) := by decide +kernel
theorem dX11_check_63 : decode cX11_check 63 = .ok (.iload 5, 2) := by decide +kernel
theorem dX11_check_65 : decode cX11_check 65 = .ok (.invokevirtual 108, 3) := by decide +kernel
theorem dX11_check_68 : decode cX11_check 68 = .ok (.istore 6, 2) := by decide +kernel
theorem dX11_check_70 : decode cX11_check 70 = .ok (.iload 6, 2) := by decide +kernel
theorem dX11_check_72 : decode cX11_check 72 = .ok (.ifCond .lt 83, 3) := by decide +kernel
theorem dX11_check_75 : decode cX11_check 75 = .ok (.aload_n 0, 1) := by decide +kernel
theorem dX11_check_76 : decode cX11_check 76 = .ok (.iload 6, 2) := by decide +kernel
theorem dX11_check_78 : decode cX11_check 78 = .ok (.iload_n 3, 1) := by decide +kernel
theorem dX11_check_79 : decode cX11_check 79 = .ok (.aload_n 0, 1) := by decide +kernel
theorem dX11_check_80 : decode cX11_check 80 = .ok (.iload_n 1, 1) := by decide +kernel
theorem dX11_check_81 : decode cX11_check 81 = .ok (.iconst 2, 1) := by decide +kernel
theorem dX11_check_82 : decode cX11_check 82 = .ok (.invokevirtual 222, 3) := by decide +kernel
theorem dX11_check_85 : decode cX11_check 85 = .ok (.invokevirtual 123, 3) := by decide +kernel
theorem dX11_check_88 : decode cX11_check 88 = .ok (.ifCond .eq 67, 3) := by decide +kernel
theorem dX11_check_91 : decode cX11_check 91 = .ok (.aload_n 0, 1) := by decide +kernel
theorem dX11_check_92 : decode cX11_check 92 = .ok (.iload 6, 2) := by decide +kernel
theorem dX11_check_94 : decode cX11_check 94 = .ok (.aload_n 0, 1) := by decide +kernel
theorem dX11_check_95 : decode cX11_check 95 = .ok (.iload_n 1, 1) := by decide +kernel
theorem dX11_check_96 : decode cX11_check 96 = .ok (.iconst 1, 1) := by decide +kernel
theorem dX11_check_97 : decode cX11_check 97 = .ok (.invokevirtual 222, 3) := by decide +kernel
theorem dX11_check_100 : decode cX11_check 100 = .ok (.bipush 10, 2) := by decide +kernel
theorem dX11_check_102 : decode cX11_check 102 = .ok (.irem, 1) := by decide +kernel
theorem dX11_check_103 : decode cX11_check 103 = .ok (.aload_n 0, 1) := by decide +kernel
theorem dX11_check_104 : decode cX11_check 104 = .ok (.iload_n 1, 1) := by decide +kernel
theorem dX11_check_105 : decode cX11_check 105 = .ok (.iconst 2, 1) := by decide +kernel
theorem dX11_check_106 : decode cX11_check 106 = .ok (.invokevirtual 222, 3) := by decide +kernel
theorem dX11_check_109 : decode cX11_check 109 = .ok (.aload_n 0, 1) := by decide +kernel
theorem dX11_check_110 : decode cX11_check 110 = .ok (.iload_n 1, 1) := by decide +kernel
theorem dX11_check_111 : decode cX11_check 111 = .ok (.iconst 3, 1) := by decide +kernel
theorem dX11_check_112 : decode cX11_check 112 = .ok (.invokevirtual 222, 3) := by decide +kernel
theorem dX11_check_115 : decode cX11_check 115 = .ok (.iconst 0, 1) := by decide +kernel
theorem dX11_check_116 : decode cX11_check 116 = .ok (.invokevirtual 127, 3) := by decide +kernel
theorem dX11_check_119 : decode cX11_check 119 = .ok (.ifCond .ne 6, 3) := by decide +kernel
theorem dX11_check_122 : decode cX11_check 122 = .ok (.goto 33, 3) := by decide +kernel
theorem dX11_check_125 : decode cX11_check 125 = .ok (.iload 4, 2) := by decide +kernel
theorem dX11_check_127 : decode cX11_check 127 = .ok (.iload_n 2, 1) := by decide +kernel
theorem dX11_check_128 : decode cX11_check 128 = .ok (.if_icmp .eq 19, 3) := by decide +kernel
theorem dX11_check_131 : decode cX11_check 131 = .ok (.aload_n 0, 1) := by decide +kernel
theorem dX11_check_132 : decode cX11_check 132 = .ok (.getfield 9, 3) := by decide +kernel
theorem dX11_check_135 : decode cX11_check 135 = .ok (.sipush 462, 3) := by decide +kernel
theorem dX11_check_138 : decode cX11_check 138 = .ok (.iload 4, 2) := by decide +kernel
theorem dX11_check_140 : decode cX11_check 140 = .ok (.iadd, 1) := by decide +kernel
theorem dX11_check_141 : decode cX11_check 141 = .ok (.iaload, 1) := by decide +kernel
theorem dX11_check_142 : decode cX11_check 142 = .ok (.iload 6, 2) := by decide +kernel
theorem dX11_check_144 : decode cX11_check 144 = .ok (.if_icmp .eq 8, 3) := by decide +kernel
theorem dX11_check_147 : decode cX11_check 147 = .ok (.iconst 1, 1) := by decide +kernel
theorem dX11_check_148 : decode cX11_check 148 = .ok (.iload 4, 2) := by decide +kernel
theorem dX11_check_150 : decode cX11_check 150 = .ok (.iadd, 1) := by decide +kernel
theorem dX11_check_151 : decode cX11_check 151 = .ok (.ireturn, 1) := by decide +kernel
theorem dX11_check_152 : decode cX11_check 152 = .ok (.iinc 4 1, 3) := by decide +kernel
theorem dX11_check_155 : decode cX11_check 155 = .ok (.iinc 5 1, 3) := by decide +kernel
theorem dX11_check_158 : decode cX11_check 158 = .ok (.goto (-108), 3) := by decide +kernel
theorem dX11_check_161 : decode cX11_check 161 = .ok (.iload 4, 2) := by decide +kernel
theorem dX11_check_163 : decode cX11_check 163 = .ok (.iload_n 2, 1) := by decide +kernel
theorem dX11_check_164 : decode cX11_check 164 = .ok (.if_icmp .ne 7, 3) := by decide +kernel
theorem dX11_check_167 : decode cX11_check 167 = .ok (.iconst 0, 1) := by decide +kernel
theorem dX11_check_168 : decode cX11_check 168 = .ok (.goto 7, 3) := by decide +kernel
theorem dX11_check_171 : decode cX11_check 171 = .ok (.iconst 1, 1) := by decide +kernel
theorem dX11_check_172 : decode cX11_check 172 = .ok (.iload 4, 2) := by decide +kernel
theorem dX11_check_174 : decode cX11_check 174 = .ok (.iadd, 1) := by decide +kernel
theorem dX11_check_175 : decode cX11_check 175 = .ok (.ireturn, 1) := by decide +kernel
theorem dX11_count_0 : decode cX11_count 0 = .ok (.iload_n 1, 1) := by decide +kernel
theorem dX11_count_1 : decode cX11_count 1 = .ok (.i2l, 1) := by decide +kernel
theorem dX11_count_2 : decode cX11_count 2 = .ok (.lconst 0, 1) := by decide +kernel
theorem dX11_count_3 : decode cX11_count 3 = .ok (.ldc2_w 217, 3) := by decide +kernel
theorem dX11_count_6 : decode cX11_count 6 = .ok (.invokestatic 57, 3) := by decide +kernel
theorem dX11_count_9 : decode cX11_count 9 = .ok (.ifCond .eq 10, 3) := by decide +kernel
theorem dX11_count_12 : decode cX11_count 12 = .ok (.aload_n 0, 1) := by decide +kernel
theorem dX11_count_13 : decode cX11_count 13 = .ok (.getfield 9, 3) := by decide +kernel
theorem dX11_count_16 : decode cX11_count 16 = .ok (.iload_n 1, 1) := by decide +kernel
theorem dX11_count_17 : decode cX11_count 17 = .ok (.iaload, 1) := by decide +kernel
theorem dX11_count_18 : decode cX11_count 18 = .ok (.ireturn, 1) := by decide +kernel
theorem dX11_count_19 : decode cX11_count 19 = .ok (.iload_n 1, 1) := by decide +kernel
theorem dX11_count_20 : decode cX11_count 20 = .ok (.bipush 8, 2) := by decide +kernel
theorem dX11_count_22 : decode cX11_count 22 = .ok (.if_icmp .ne 10, 3) := by decide +kernel
theorem dX11_count_25 : decode cX11_count 25 = .ok (.aload_n 0, 1) := by decide +kernel
theorem dX11_count_26 : decode cX11_count 26 = .ok (.getfield 319, 3) := by decide +kernel
theorem dX11_count_29 : decode cX11_count 29 = .ok (.goto 24, 3) := by decide +kernel
theorem dX11_count_32 : decode cX11_count 32 = .ok (.iload_n 1, 1) := by decide +kernel
theorem dX11_count_33 : decode cX11_count 33 = .ok (.bipush 9, 2) := by decide +kernel
theorem dX11_count_35 : decode cX11_count 35 = .ok (.if_icmp .ne 13, 3) := by decide +kernel
theorem dX11_count_38 : decode cX11_count 38 = .ok (.aload_n 0, 1) := by decide +kernel
theorem dX11_count_39 : decode cX11_count 39 = .ok (.getfield 9, 3) := by decide +kernel
theorem dX11_count_42 : decode cX11_count 42 = .ok (.bipush 8, 2) := by decide +kernel
theorem dX11_count_44 : decode cX11_count 44 = .ok (.iaload, 1) := by decide +kernel
theorem dX11_count_45 : decode cX11_count 45 = .ok (.goto 8, 3) := by decide +kernel
theorem dX11_count_48 : decode cX11_count 48 = .ok (.aload_n 0, 1) := by decide +kernel
theorem dX11_count_49 : decode cX11_count 49 = .ok (.iconst 1, 1) := by decide +kernel
theorem dX11_count_50 : decode cX11_count 50 = .ok (.invokevirtual 73, 3) := by decide +kernel
theorem dX11_count_53 : decode cX11_count 53 = .ok (.ireturn, 1) := by decide +kernel
theorem dX11_told_0 : decode cX11_told 0 = .ok (.iload_n 1, 1) := by decide +kernel
theorem dX11_told_1 : decode cX11_told 1 = .ok (.i2l, 1) := by decide +kernel
theorem dX11_told_2 : decode cX11_told 2 = .ok (.lconst 1, 1) := by decide +kernel
theorem dX11_told_3 : decode cX11_told 3 = .ok (.ldc2_w 209, 3) := by decide +kernel
theorem dX11_told_6 : decode cX11_told 6 = .ok (.invokestatic 57, 3) := by decide +kernel
theorem dX11_told_9 : decode cX11_told 9 = .ok (.ifCond .eq 12, 3) := by decide +kernel
theorem dX11_told_12 : decode cX11_told 12 = .ok (.aload_n 0, 1) := by decide +kernel
theorem dX11_told_13 : decode cX11_told 13 = .ok (.getfield 16, 3) := by decide +kernel
theorem dX11_told_16 : decode cX11_told 16 = .ok (.iload_n 1, 1) := by decide +kernel
theorem dX11_told_17 : decode cX11_told 17 = .ok (.iaload, 1) := by decide +kernel
theorem dX11_told_18 : decode cX11_told 18 = .ok (.goto 8, 3) := by decide +kernel
theorem dX11_told_21 : decode cX11_told 21 = .ok (.aload_n 0, 1) := by decide +kernel
theorem dX11_told_22 : decode cX11_told 22 = .ok (.iconst 1, 1) := by decide +kernel
theorem dX11_told_23 : decode cX11_told 23 = .ok (.invokevirtual 73, 3) := by decide +kernel
theorem dX11_told_26 : decode cX11_told 26 = .ok (.ireturn, 1) := by decide +kernel
theorem dJ11_isValidCodePoint_9a6ad_0 : decode cJ11_isValidCodePoint_9a6ad 0 = .ok (.iload_n 0, 1) := by decide +kernel
theorem dJ11_isValidCodePoint_9a6ad_1 : decode cJ11_isValidCodePoint_9a6ad 1 = .ok (.bipush 16, 2) := by decide +kernel
theorem dJ11_isValidCodePoint_9a6ad_3 : decode cJ11_isValidCodePoint_9a6ad 3 = .ok (.iushr, 1) := by decide +kernel
theorem dJ11_isValidCodePoint_9a6ad_4 : decode cJ11_isValidCodePoint_9a6ad 4 = .ok (.istore_n 1, 1) := by decide +kernel
theorem dJ11_isValidCodePoint_9a6ad_5 : decode cJ11_isValidCodePoint_9a6ad 5 = .ok (.iload_n 1, 1) := by decide +kernel
theorem dJ11_isValidCodePoint_9a6ad_6 : decode cJ11_isValidCodePoint_9a6ad 6 = .ok (.bipush 17, 2) := by decide +kernel
theorem dJ11_isValidCodePoint_9a6ad_8 : decode cJ11_isValidCodePoint_9a6ad 8 = .ok (.if_icmp .ge 7, 3) := by decide +kernel
theorem dJ11_isValidCodePoint_9a6ad_11 : decode cJ11_isValidCodePoint_9a6ad 11 = .ok (.iconst 1, 1) := by decide +kernel
theorem dJ11_isValidCodePoint_9a6ad_12 : decode cJ11_isValidCodePoint_9a6ad 12 = .ok (.goto 4, 3) := by decide +kernel
theorem dJ11_isValidCodePoint_9a6ad_15 : decode cJ11_isValidCodePoint_9a6ad 15 = .ok (.iconst 0, 1) := by decide +kernel
theorem dJ11_isValidCodePoint_9a6ad_16 : decode cJ11_isValidCodePoint_9a6ad 16 = .ok (.ireturn, 1) := by decide +kernel
theorem dJ11_highSurrogate_5068e_0 : decode cJ11_highSurrogate_5068e 0 = .ok (.iload_n 0, 1) := by decide +kernel
theorem dJ11_highSurrogate_5068e_1 : decode cJ11_highSurrogate_5068e 1 = .ok (.bipush 10, 2) := by decide +kernel
theorem dJ11_highSurrogate_5068e_3 : decode cJ11_highSurrogate_5068e 3 = .ok (.iushr, 1) := by decide +kernel
theorem dJ11_highSurrogate_5068e_4 : decode cJ11_highSurrogate_5068e 4 = .ok (.ldc 110, 2) := by decide +kernel
theorem dJ11_highSurrogate_5068e_6 : decode cJ11_highSurrogate_5068e 6 = .ok (.iadd, 1) := by decide +kernel
theorem dJ11_highSurrogate_5068e_7 : decode cJ11_highSurrogate_5068e 7 = .ok (.i2c, 1) := by decide +kernel
theorem dJ11_highSurrogate_5068e_8 : decode cJ11_highSurrogate_5068e 8 = .ok (.ireturn, 1) := by decide +kernel
theorem dJ11_lowSurrogate_5068e_0 : decode cJ11_lowSurrogate_5068e 0 = .ok (.iload_n 0, 1) := by decide +kernel
theorem dJ11_lowSurrogate_5068e_1 : decode cJ11_lowSurrogate_5068e 1 = .ok (.sipush 1023, 3) := by decide +kernel
theorem dJ11_lowSurrogate_5068e_4 : decode cJ11_lowSurrogate_5068e 4 = .ok (.iand, 1) := by decide +kernel
theorem dJ11_lowSurrogate_5068e_5 : decode cJ11_lowSurrogate_5068e 5 = .ok (.ldc 76, 2) := by decide +kernel
theorem dJ11_lowSurrogate_5068e_7 : decode cJ11_lowSurrogate_5068e 7 = .ok (.iadd, 1) := by decide +kernel
theorem dJ11_lowSurrogate_5068e_8 : decode cJ11_lowSurrogate_5068e 8 = .ok (.i2c, 1) := by decide +kernel
theorem dJ11_lowSurrogate_5068e_9 : decode cJ11_lowSurrogate_5068e 9 = .ok (.ireturn, 1) := by decide +kernel
theorem dJ9_floorMod_7cf53_0 : decode cJ9_floorMod_7cf53 0 = .ok (.iload_n 0, 1) := by decide +kernel
theorem dJ9_floorMod_7cf53_1 : decode cJ9_floorMod_7cf53 1 = .ok (.iload_n 1, 1) := by decide +kernel
theorem dJ9_floorMod_7cf53_2 : decode cJ9_floorMod_7cf53 2 = .ok (.irem, 1) := by decide +kernel
theorem dJ9_floorMod_7cf53_3 : decode cJ9_floorMod_7cf53 3 = .ok (.istore_n 2, 1) := by decide +kernel
theorem dJ9_floorMod_7cf53_4 : decode cJ9_floorMod_7cf53 4 = .ok (.iload_n 0, 1) := by decide +kernel
theorem dJ9_floorMod_7cf53_5 : decode cJ9_floorMod_7cf53 5 = .ok (.iload_n 1, 1) := by decide +kernel
theorem dJ9_floorMod_7cf53_6 : decode cJ9_floorMod_7cf53 6 = .ok (.ixor, 1) := by decide +kernel
theorem dJ9_floorMod_7cf53_7 : decode cJ9_floorMod_7cf53 7 = .ok (.ifCond .ge 11, 3) := by decide +kernel
theorem dJ9_floorMod_7cf53_10 : decode cJ9_floorMod_7cf53 10 = .ok (.iload_n 2, 1) := by decide +kernel
theorem dJ9_floorMod_7cf53_11 : decode cJ9_floorMod_7cf53 11 = .ok (.ifCond .eq 7, 3) := by decide +kernel
theorem dJ9_floorMod_7cf53_14 : decode cJ9_floorMod_7cf53 14 = .ok (.iload_n 2, 1) := by decide +kernel
theorem dJ9_floorMod_7cf53_15 : decode cJ9_floorMod_7cf53 15 = .ok (.iload_n 1, 1) := by decide +kernel
theorem dJ9_floorMod_7cf53_16 : decode cJ9_floorMod_7cf53 16 = .ok (.iadd, 1) := by decide +kernel
theorem dJ9_floorMod_7cf53_17 : decode cJ9_floorMod_7cf53 17 = .ok (.ireturn, 1) := by decide +kernel
theorem dJ9_floorMod_7cf53_18 : decode cJ9_floorMod_7cf53 18 = .ok (.iload_n 2, 1) := by decide +kernel
theorem dJ9_floorMod_7cf53_19 : decode cJ9_floorMod_7cf53 19 = .ok (.ireturn, 1) := by decide +kernel
theorem dJ9_abs_0f7a4_0 : decode cJ9_abs_0f7a4 0 = .ok (.iload_n 0, 1) := by decide +kernel
theorem dJ9_abs_0f7a4_1 : decode cJ9_abs_0f7a4 1 = .ok (.ifCond .ge 8, 3) := by decide +kernel
theorem dJ9_abs_0f7a4_4 : decode cJ9_abs_0f7a4 4 = .ok (.iload_n 0, 1) := by decide +kernel
theorem dJ9_abs_0f7a4_5 : decode cJ9_abs_0f7a4 5 = .ok (.ineg, 1) := by decide +kernel
theorem dJ9_abs_0f7a4_6 : decode cJ9_abs_0f7a4 6 = .ok (.goto 4, 3) := by decide +kernel
theorem dJ9_abs_0f7a4_9 : decode cJ9_abs_0f7a4 9 = .ok (.iload_n 0, 1) := by decide +kernel
theorem dJ9_abs_0f7a4_10 : decode cJ9_abs_0f7a4 10 = .ok (.ireturn, 1) := by decide +kernel
theorem dJ9_max_7cf53_0 : decode cJ9_max_7cf53 0 = .ok (.iload_n 0, 1) := by decide +kernel
theorem dJ9_max_7cf53_1 : decode cJ9_max_7cf53 1 = .ok (.iload_n 1, 1) := by decide +kernel
theorem dJ9_max_7cf53_2 : decode cJ9_max_7cf53 2 = .ok (.if_icmp .lt 7, 3) := by decide +kernel
theorem dJ9_max_7cf53_5 : decode cJ9_max_7cf53 5 = .ok (.iload_n 0, 1) := by decide +kernel
theorem dJ9_max_7cf53_6 : decode cJ9_max_7cf53 6 = .ok (.goto 4, 3) := by decide +kernel
theorem dJ9_max_7cf53_9 : decode cJ9_max_7cf53 9 = .ok (.iload_n 1, 1) := by decide +kernel
theorem dJ9_max_7cf53_10 : decode cJ9_max_7cf53 10 = .ok (.ireturn, 1) := by decide +kernel
theorem dJ9_max_f86c9_0 : decode cJ9_max_f86c9 0 = .ok (.lload_n 0, 1) := by decide +kernel
theorem dJ9_max_f86c9_1 : decode cJ9_max_f86c9 1 = .ok (.lload_n 2, 1) := by decide +kernel
theorem dJ9_max_f86c9_2 : decode cJ9_max_f86c9 2 = .ok (.lcmp, 1) := by decide +kernel
theorem dJ9_max_f86c9_3 : decode cJ9_max_f86c9 3 = .ok (.ifCond .lt 7, 3) := by decide +kernel
theorem dJ9_max_f86c9_6 : decode cJ9_max_f86c9 6 = .ok (.lload_n 0, 1) := by decide +kernel
theorem dJ9_max_f86c9_7 : decode cJ9_max_f86c9 7 = .ok (.goto 4, 3) := by decide +kernel
theorem dJ9_max_f86c9_10 : decode cJ9_max_f86c9 10 = .ok (.lload_n 2, 1) := by decide +kernel
theorem dJ9_max_f86c9_11 : decode cJ9_max_f86c9 11 = .ok (.lreturn, 1) := by decide +kernel
theorem dJ9_min_7cf53_0 : decode cJ9_min_7cf53 0 = .ok (.iload_n 0, 1) := by decide +kernel
theorem dJ9_min_7cf53_1 : decode cJ9_min_7cf53 1 = .ok (.iload_n 1, 1) := by decide +kernel
theorem dJ9_min_7cf53_2 : decode cJ9_min_7cf53 2 = .ok (.if_icmp .gt 7, 3) := by decide +kernel
theorem dJ9_min_7cf53_5 : decode cJ9_min_7cf53 5 = .ok (.iload_n 0, 1) := by decide +kernel
theorem dJ9_min_7cf53_6 : decode cJ9_min_7cf53 6 = .ok (.goto 4, 3) := by decide +kernel
theorem dJ9_min_7cf53_9 : decode cJ9_min_7cf53 9 = .ok (.iload_n 1, 1) := by decide +kernel
theorem dJ9_min_7cf53_10 : decode cJ9_min_7cf53 10 = .ok (.ireturn, 1) := by decide +kernel
theorem dJ0_length_8abf5_0 : decode cJ0_length_8abf5 0 = .ok (.aload_n 0, 1) := by decide +kernel
theorem dJ0_length_8abf5_1 : decode cJ0_length_8abf5 1 = .ok (.getfield 9, 3) := by decide +kernel
theorem dJ0_length_8abf5_4 : decode cJ0_length_8abf5 4 = .ok (.arraylength, 1) := by decide +kernel
theorem dJ0_length_8abf5_5 : decode cJ0_length_8abf5 5 = .ok (.aload_n 0, 1) := by decide +kernel
theorem dJ0_length_8abf5_6 : decode cJ0_length_8abf5 6 = .ok (.invokevirtual 335, 3) := by decide +kernel
theorem dJ0_length_8abf5_9 : decode cJ0_length_8abf5 9 = .ok (.ishr, 1) := by decide +kernel
theorem dJ0_length_8abf5_10 : decode cJ0_length_8abf5 10 = .ok (.ireturn, 1) := by decide +kernel
theorem dJ0_indexOf_0f7a4_0 : decode cJ0_indexOf_0f7a4 0 = .ok (.aload_n 0, 1) := by decide +kernel
theorem dJ0_indexOf_0f7a4_1 : decode cJ0_indexOf_0f7a4 1 = .ok (.iload_n 1, 1) := by decide +kernel
theorem dJ0_indexOf_0f7a4_2 : decode cJ0_indexOf_0f7a4 2 = .ok (.iconst 0, 1) := by decide +kernel
theorem dJ0_indexOf_0f7a4_3 : decode cJ0_indexOf_0f7a4 3 = .ok (.invokevirtual 633, 3) := by decide +kernel
theorem dJ0_indexOf_0f7a4_6 : decode cJ0_indexOf_0f7a4 6 = .ok (.ireturn, 1) := by decide +kernel
theorem dJ0_indexOf_7cf53_0 : decode cJ0_indexOf_7cf53 0 = .ok (.aload_n 0, 1) := by decide +kernel
theorem dJ0_indexOf_7cf53_1 : decode cJ0_indexOf_7cf53 1 = .ok (.invokevirtual 492, 3) := by decide +kernel
theorem dJ0_indexOf_7cf53_4 : decode cJ0_indexOf_7cf53 4 = .ok (.ifCond .eq 19, 3) := by decide +kernel
theorem dJ0_indexOf_7cf53_7 : decode cJ0_indexOf_7cf53 7 = .ok (.aload_n 0, 1) := by decide +kernel
theorem dJ0_indexOf_7cf53_8 : decode cJ0_indexOf_7cf53 8 = .ok (.getfield 9, 3) := by decide +kernel
theorem dJ0_indexOf_7cf53_11 : decode cJ0_indexOf_7cf53 11 = .ok (.iload_n 1, 1) := by decide +kernel
theorem dJ0_indexOf_7cf53_12 : decode cJ0_indexOf_7cf53 12 = .ok (.iload_n 2, 1) := by decide +kernel
theorem dJ0_indexOf_7cf53_13 : decode cJ0_indexOf_7cf53 13 = .ok (.aload_n 0, 1) := by decide +kernel
theorem dJ0_indexOf_7cf53_14 : decode cJ0_indexOf_7cf53 14 = .ok (.invokevirtual 505, 3) := by decide +kernel
theorem dJ0_indexOf_7cf53_17 : decode cJ0_indexOf_7cf53 17 = .ok (.invokestatic 637, 3) := by decide +kernel
theorem dJ0_indexOf_7cf53_20 : decode cJ0_indexOf_7cf53 20 = .ok (.goto 16, 3) := by decide +kernel
theorem dJ0_indexOf_7cf53_23 : decode cJ0_indexOf_7cf53 23 = .ok (.aload_n 0, 1) := by decide +kernel
theorem dJ0_indexOf_7cf53_24 : decode cJ0_indexOf_7cf53 24 = .ok (.getfield 9, 3) := by decide +kernel
theorem dJ0_indexOf_7cf53_27 : decode cJ0_indexOf_7cf53 27 = .ok (.iload_n 1, 1) := by decide +kernel
theorem dJ0_indexOf_7cf53_28 : decode cJ0_indexOf_7cf53 28 = .ok (.iload_n 2, 1) := by decide +kernel
theorem dJ0_indexOf_7cf53_29 : decode cJ0_indexOf_7cf53 29 = .ok (.aload_n 0, 1) := by decide +kernel
theorem dJ0_indexOf_7cf53_30 : decode cJ0_indexOf_7cf53 30 = .ok (.invokevirtual 505, 3) := by decide +kernel
theorem dJ0_indexOf_7cf53_33 : decode cJ0_indexOf_7cf53 33 = .ok (.invokestatic 640, 3) := by decide +kernel
theorem dJ0_indexOf_7cf53_36 : decode cJ0_indexOf_7cf53 36 = .ok (.ireturn, 1) := by decide +kernel
theorem dJ0_coder_7d493_0 : decode cJ0_coder_7d493 0 = .ok (.getstatic 38, 3) := by decide +kernel
theorem dJ0_coder_7d493_3 : decode cJ0_coder_7d493 3 = .ok (.ifCond .eq 10, 3) := by decide +kernel
theorem dJ0_coder_7d493_6 : decode cJ0_coder_7d493 6 = .ok (.aload_n 0, 1) := by decide +kernel
theorem dJ0_coder_7d493_7 : decode cJ0_coder_7d493 7 = .ok (.getfield 15, 3) := by decide +kernel
theorem dJ0_coder_7d493_10 : decode cJ0_coder_7d493 10 = .ok (.goto 4, 3) := by decide +kernel
theorem dJ0_coder_7d493_13 : decode cJ0_coder_7d493 13 = .ok (.iconst 1, 1) := by decide +kernel
theorem dJ0_coder_7d493_14 : decode cJ0_coder_7d493 14 = .ok (.ireturn, 1) := by decide +kernel
theorem dJ0_isLatin1_aae02_0 : decode cJ0_isLatin1_aae02 0 = .ok (.getstatic 38, 3) := by decide +kernel
theorem dJ0_isLatin1_aae02_3 : decode cJ0_isLatin1_aae02 3 = .ok (.ifCond .eq 14, 3) := by decide +kernel
theorem dJ0_isLatin1_aae02_6 : decode cJ0_isLatin1_aae02 6 = .ok (.aload_n 0, 1) := by decide +kernel
theorem dJ0_isLatin1_aae02_7 : decode cJ0_isLatin1_aae02 7 = .ok (.getfield 15, 3) := by decide +kernel
theorem dJ0_isLatin1_aae02_10 : decode cJ0_isLatin1_aae02 10 = .ok (.ifCond .ne 7, 3) := by decide +kernel
theorem dJ0_isLatin1_aae02_13 : decode cJ0_isLatin1_aae02 13 = .ok (.iconst 1, 1) := by decide +kernel
theorem dJ0_isLatin1_aae02_14 : decode cJ0_isLatin1_aae02 14 = .ok (.goto 4, 3) := by decide +kernel
theorem dJ0_isLatin1_aae02_17 : decode cJ0_isLatin1_aae02 17 = .ok (.iconst 0, 1) := by decide +kernel
theorem dJ0_isLatin1_aae02_18 : decode cJ0_isLatin1_aae02 18 = .ok (.ireturn, 1) := by decide +kernel
theorem dJ0_checkBoundsBeginEnd_23922_0 : decode cJ0_checkBoundsBeginEnd_23922 0 = .ok (.iload_n 0, 1) := by decide +kernel
theorem dJ0_checkBoundsBeginEnd_23922_1 : decode cJ0_checkBoundsBeginEnd_23922 1 = .ok (.iload_n 1, 1) := by decide +kernel
theorem dJ0_checkBoundsBeginEnd_23922_2 : decode cJ0_checkBoundsBeginEnd_23922 2 = .ok (.iload_n 2, 1) := by decide +kernel
theorem dJ0_checkBoundsBeginEnd_23922_3 : decode cJ0_checkBoundsBeginEnd_23922 3 = .ok (.getstatic 1053, 3) := by decide +kernel
theorem dJ0_checkBoundsBeginEnd_23922_6 : decode cJ0_checkBoundsBeginEnd_23922 6 = .ok (.invokestatic 1062, 3) := by decide +kernel
theorem dJ0_checkBoundsBeginEnd_23922_9 : decode cJ0_checkBoundsBeginEnd_23922 9 = .ok (.pop, 1) := by decide +kernel
theorem dJ0_checkBoundsBeginEnd_23922_10 : decode cJ0_checkBoundsBeginEnd_23922 10 = .ok (.return_, 1) := by decide +kernel
theorem dJ1_canEncode_9a6ad_0 : decode cJ1_canEncode_9a6ad 0 = .ok (.iload_n 0, 1) := by decide +kernel
theorem dJ1_canEncode_9a6ad_1 : decode cJ1_canEncode_9a6ad 1 = .ok (.ifCond .lt 14, 3) := by decide +kernel
theorem dJ1_canEncode_9a6ad_4 : decode cJ1_canEncode_9a6ad 4 = .ok (.iload_n 0, 1) := by decide +kernel
theorem dJ1_canEncode_9a6ad_5 : decode cJ1_canEncode_9a6ad 5 = .ok (.sipush 255, 3) := by decide +kernel
theorem dJ1_canEncode_9a6ad_8 : decode cJ1_canEncode_9a6ad 8 = .ok (.if_icmp .gt 7, 3) := by decide +kernel
theorem dJ1_canEncode_9a6ad_11 : decode cJ1_canEncode_9a6ad 11 = .ok (.iconst 1, 1) := by decide +kernel
theorem dJ1_canEncode_9a6ad_12 : decode cJ1_canEncode_9a6ad 12 = .ok (.goto 4, 3) := by decide +kernel
theorem dJ1_canEncode_9a6ad_15 : decode cJ1_canEncode_9a6ad 15 = .ok (.iconst 0, 1) := by decide +kernel
theorem dJ1_canEncode_9a6ad_16 : decode cJ1_canEncode_9a6ad 16 = .ok (.ireturn, 1) := by decide +kernel
theorem dJ1_indexOf_4cfef_0 : decode cJ1_indexOf_4cfef 0 = .ok (.iload_n 1, 1) := by decide +kernel
theorem dJ1_indexOf_4cfef_1 : decode cJ1_indexOf_4cfef 1 = .ok (.invokestatic 88, 3) := by decide +kernel
theorem dJ1_indexOf_4cfef_4 : decode cJ1_indexOf_4cfef 4 = .ok (.ifCond .ne 5, 3) := by decide +kernel
theorem dJ1_indexOf_4cfef_7 : decode cJ1_indexOf_4cfef 7 = .ok (.iconst (-1), 1) := by decide +kernel
theorem dJ1_indexOf_4cfef_8 : decode cJ1_indexOf_4cfef 8 = .ok (.ireturn, 1) := by decide +kernel
theorem dJ1_indexOf_4cfef_9 : decode cJ1_indexOf_4cfef 9 = .ok (.iload_n 2, 1) := by decide +kernel
theorem dJ1_indexOf_4cfef_10 : decode cJ1_indexOf_4cfef 10 = .ok (.iconst 0, 1) := by decide +kernel
theorem dJ1_indexOf_4cfef_11 : decode cJ1_indexOf_4cfef 11 = .ok (.invokestatic 92, 3) := by decide +kernel
theorem dJ1_indexOf_4cfef_14 : decode cJ1_indexOf_4cfef 14 = .ok (.istore_n 2, 1) := by decide +kernel
theorem dJ1_indexOf_4cfef_15 : decode cJ1_indexOf_4cfef 15 = .ok (.iload_n 3, 1) := by decide +kernel
theorem dJ1_indexOf_4cfef_16 : decode cJ1_indexOf_4cfef 16 = .ok (.aload_n 0, 1) := by decide +kernel
theorem dJ1_indexOf_4cfef_17 : decode cJ1_indexOf_4cfef 17 = .ok (.arraylength, 1) := by decide +kernel
theorem dJ1_indexOf_4cfef_18 : decode cJ1_indexOf_4cfef 18 = .ok (.invokestatic 38, 3) := by decide +kernel
theorem dJ1_indexOf_4cfef_21 : decode cJ1_indexOf_4cfef 21 = .ok (.istore_n 3, 1) := by decide +kernel
theorem dJ1_indexOf_4cfef_22 : decode cJ1_indexOf_4cfef 22 = .ok (.iload_n 2, 1) := by decide +kernel
theorem dJ1_indexOf_4cfef_23 : decode cJ1_indexOf_4cfef 23 = .ok (.iload_n 3, 1) := by decide +kernel
theorem dJ1_indexOf_4cfef_24 : decode cJ1_indexOf_4cfef 24 = .ok (.if_icmp .lt 5, 3) := by decide +kernel
theorem dJ1_indexOf_4cfef_27 : decode cJ1_indexOf_4cfef 27 = .ok (.iconst (-1), 1) := by decide +kernel
theorem dJ1_indexOf_4cfef_28 : decode cJ1_indexOf_4cfef 28 = .ok (.ireturn, 1) := by decide +kernel
theorem dJ1_indexOf_4cfef_29 : decode cJ1_indexOf_4cfef 29 = .ok (.aload_n 0, 1) := by decide +kernel
theorem dJ1_indexOf_4cfef_30 : decode cJ1_indexOf_4cfef 30 = .ok (.iload_n 1, 1) := by decide +kernel
theorem dJ1_indexOf_4cfef_31 : decode cJ1_indexOf_4cfef 31 = .ok (.iload_n 2, 1) := by decide +kernel
theorem dJ1_indexOf_4cfef_32 : decode cJ1_indexOf_4cfef 32 = .ok (.iload_n 3, 1) := by decide +kernel
theorem dJ1_indexOf_4cfef_33 : decode cJ1_indexOf_4cfef 33 = .ok (.invokestatic 95, 3) := by decide +kernel
theorem dJ1_indexOf_4cfef_36 : decode cJ1_indexOf_4cfef 36 = .ok (.ireturn, 1) := by decide +kernel
theorem dJ1_indexOfChar_4cfef_0 : decode cJ1_indexOfChar_4cfef 0 = .ok (.iload_n 1, 1) := by decide +kernel
theorem dJ1_indexOfChar_4cfef_1 : decode cJ1_indexOfChar_4cfef 1 = .ok (.i2b, 1) := by decide +kernel
theorem dJ1_indexOfChar_4cfef_2 : decode cJ1_indexOfChar_4cfef 2 = .ok (.istore 4, 2) := by decide +kernel
theorem dJ1_indexOfChar_4cfef_4 : decode cJ1_indexOfChar_4cfef 4 = .ok (.iload_n 2, 1) := by decide +kernel
theorem dJ1_indexOfChar_4cfef_5 : decode cJ1_indexOfChar_4cfef 5 = .ok (.istore 5, 2) := by decide +kernel
theorem dJ1_indexOfChar_4cfef_7 : decode cJ1_indexOfChar_4cfef 7 = .ok (.iload 5, 2) := by decide +kernel
theorem dJ1_indexOfChar_4cfef_9 : decode cJ1_indexOfChar_4cfef 9 = .ok (.iload_n 3, 1) := by decide +kernel
theorem dJ1_indexOfChar_4cfef_10 : decode cJ1_indexOfChar_4cfef 10 = .ok (.if_icmp .ge 21, 3) := by decide +kernel
theorem dJ1_indexOfChar_4cfef_13 : decode cJ1_indexOfChar_4cfef 13 = .ok (.aload_n 0, 1) := by decide +kernel
theorem dJ1_indexOfChar_4cfef_14 : decode cJ1_indexOfChar_4cfef 14 = .ok (.iload 5, 2) := by decide +kernel
theorem dJ1_indexOfChar_4cfef_16 : decode cJ1_indexOfChar_4cfef 16 = .ok (.baload, 1) := by decide +kernel
theorem dJ1_indexOfChar_4cfef_17 : decode cJ1_indexOfChar_4cfef 17 = .ok (.iload 4, 2) := by decide +kernel
theorem dJ1_indexOfChar_4cfef_19 : decode cJ1_indexOfChar_4cfef 19 = .ok (.if_icmp .ne 6, 3) := by decide +kernel
theorem dJ1_indexOfChar_4cfef_22 : decode cJ1_indexOfChar_4cfef 22 = .ok (.iload 5, 2) := by decide +kernel
theorem dJ1_indexOfChar_4cfef_24 : decode cJ1_indexOfChar_4cfef 24 = .ok (.ireturn, 1) := by decide +kernel
theorem dJ1_indexOfChar_4cfef_25 : decode cJ1_indexOfChar_4cfef 25 = .ok (.iinc 5 1, 3) := by decide +kernel
theorem dJ1_indexOfChar_4cfef_28 : decode cJ1_indexOfChar_4cfef 28 = .ok (.goto (-21), 3) := by decide +kernel
theorem dJ1_indexOfChar_4cfef_31 : decode cJ1_indexOfChar_4cfef 31 = .ok (.iconst (-1), 1) := by decide +kernel
theorem dJ1_indexOfChar_4cfef_32 : decode cJ1_indexOfChar_4cfef 32 = .ok (.ireturn, 1) := by decide +kernel
theorem dJ2_getChar_3b067_0 : decode cJ2_getChar_3b067 0 = .ok (.getstatic 44, 3) := by decide +kernel
theorem dJ2_getChar_3b067_3 : decode cJ2_getChar_3b067 3 = .ok (.ifCond .ne 25, 3) := by decide +kernel
theorem dJ2_getChar_3b067_6 : decode cJ2_getChar_3b067 6 = .ok (.iload_n 1, 1) := by decide +kernel
theorem dJ2_getChar_3b067_7 : decode cJ2_getChar_3b067 7 = .ok (.ifCond .lt 11, 3) := by decide +kernel
theorem dJ2_getChar_3b067_10 : decode cJ2_getChar_3b067 10 = .ok (.iload_n 1, 1) := by decide +kernel
theorem dJ2_getChar_3b067_11 : decode cJ2_getChar_3b067 11 = .ok (.aload_n 0, 1) := by decide +kernel
theorem dJ2_getChar_3b067_12 : decode cJ2_getChar_3b067 12 = .ok (.invokestatic 48, 3) := by decide +kernel
theorem dJ2_getChar_3b067_15 : decode cJ2_getChar_3b067 15 = .ok (.if_icmp .lt 13, 3) := by decide +kernel
theorem dJ2_getChar_3b067_18 : decode cJ2_getChar_3b067 18 = .ok (.new 52, 3) := by decide +kernel
theorem dJ2_getChar_3b067_21 : decode cJ2_getChar_3b067 21 = .ok (.dup, 1) := by decide +kernel
theorem dJ2_getChar_3b067_22 : decode cJ2_getChar_3b067 22 = .ok (.ldc 54, 2) := by decide +kernel
theorem dJ2_getChar_3b067_24 : decode cJ2_getChar_3b067 24 = .ok (.invokespecial 56, 3) := by decide +kernel
theorem dJ2_getChar_3b067_27 : decode cJ2_getChar_3b067 27 = .ok (.athrow, 1) := by decide +kernel
theorem dJ2_getChar_3b067_28 : decode cJ2_getChar_3b067 28 = .ok (.iload_n 1, 1) := by decide +kernel
theorem dJ2_getChar_3b067_29 : decode cJ2_getChar_3b067 29 = .ok (.iconst 1, 1) := by decide +kernel
theorem dJ2_getChar_3b067_30 : decode cJ2_getChar_3b067 30 = .ok (.ishl, 1) := by decide +kernel
theorem dJ2_getChar_3b067_31 : decode cJ2_getChar_3b067 31 = .ok (.istore_n 1, 1) := by decide +kernel
theorem dJ2_getChar_3b067_32 : decode cJ2_getChar_3b067 32 = .ok (.aload_n 0, 1) := by decide +kernel
theorem dJ2_getChar_3b067_33 : decode cJ2_getChar_3b067 33 = .ok (.iload_n 1, 1) := by decide +kernel
theorem dJ2_getChar_3b067_34 : decode cJ2_getChar_3b067 34 = .ok (.iinc 1 1, 3) := by decide +kernel
theorem dJ2_getChar_3b067_37 : decode cJ2_getChar_3b067 37 = .ok (.baload, 1) := by decide +kernel
theorem dJ2_getChar_3b067_38 : decode cJ2_getChar_3b067 38 = .ok (.sipush 255, 3) := by decide +kernel
theorem dJ2_getChar_3b067_41 : decode cJ2_getChar_3b067 41 = .ok (.iand, 1) := by decide +kernel
theorem dJ2_getChar_3b067_42 : decode cJ2_getChar_3b067 42 = .ok (.getstatic 59, 3) := by decide +kernel
theorem dJ2_getChar_3b067_45 : decode cJ2_getChar_3b067 45 = .ok (.ishl, 1) := by decide +kernel
theorem dJ2_getChar_3b067_46 : decode cJ2_getChar_3b067 46 = .ok (.aload_n 0, 1) := by decide +kernel
theorem dJ2_getChar_3b067_47 : decode cJ2_getChar_3b067 47 = .ok (.iload_n 1, 1) := by decide +kernel
theorem dJ2_getChar_3b067_48 : decode cJ2_getChar_3b067 48 = .ok (.baload, 1) := by decide +kernel
theorem dJ2_getChar_3b067_49 : decode cJ2_getChar_3b067 49 = .ok (.sipush 255, 3) := by decide +kernel
theorem dJ2_getChar_3b067_52 : decode cJ2_getChar_3b067 52 = .ok (.iand, 1) := by decide +kernel
theorem dJ2_getChar_3b067_53 : decode cJ2_getChar_3b067 53 = .ok (.getstatic 63, 3) := by decide +kernel
theorem dJ2_getChar_3b067_56 : decode cJ2_getChar_3b067 56 = .ok (.ishl, 1) := by decide +kernel
theorem dJ2_getChar_3b067_57 : decode cJ2_getChar_3b067 57 = .ok (.ior, 1) := by decide +kernel
theorem dJ2_getChar_3b067_58 : decode cJ2_getChar_3b067 58 = .ok (.i2c, 1) := by decide +kernel
theorem dJ2_getChar_3b067_59 : decode cJ2_getChar_3b067 59 = .ok (.ireturn, 1) := by decide +kernel
theorem dJ2_length_9d52b_0 : decode cJ2_length_9d52b 0 = .ok (.aload_n 0, 1) := by decide +kernel
theorem dJ2_length_9d52b_1 : decode cJ2_length_9d52b 1 = .ok (.arraylength, 1) := by decide +kernel
theorem dJ2_length_9d52b_2 : decode cJ2_length_9d52b 2 = .ok (.iconst 1, 1) := by decide +kernel
theorem dJ2_length_9d52b_3 : decode cJ2_length_9d52b 3 = .ok (.ishr, 1) := by decide +kernel
theorem dJ2_length_9d52b_4 : decode cJ2_length_9d52b 4 = .ok (.ireturn, 1) := by decide +kernel
theorem dJ2_indexOf_4cfef_0 : decode cJ2_indexOf_4cfef 0 = .ok (.iload_n 2, 1) := by decide +kernel
theorem dJ2_indexOf_4cfef_1 : decode cJ2_indexOf_4cfef 1 = .ok (.iconst 0, 1) := by decide +kernel
theorem dJ2_indexOf_4cfef_2 : decode cJ2_indexOf_4cfef 2 = .ok (.invokestatic 224, 3) := by decide +kernel
theorem dJ2_indexOf_4cfef_5 : decode cJ2_indexOf_4cfef 5 = .ok (.istore_n 2, 1) := by decide +kernel
theorem dJ2_indexOf_4cfef_6 : decode cJ2_indexOf_4cfef 6 = .ok (.iload_n 3, 1) := by decide +kernel
theorem dJ2_indexOf_4cfef_7 : decode cJ2_indexOf_4cfef 7 = .ok (.aload_n 0, 1) := by decide +kernel
theorem dJ2_indexOf_4cfef_8 : decode cJ2_indexOf_4cfef 8 = .ok (.arraylength, 1) := by decide +kernel
theorem dJ2_indexOf_4cfef_9 : decode cJ2_indexOf_4cfef 9 = .ok (.iconst 1, 1) := by decide +kernel
theorem dJ2_indexOf_4cfef_10 : decode cJ2_indexOf_4cfef 10 = .ok (.ishr, 1) := by decide +kernel
theorem dJ2_indexOf_4cfef_11 : decode cJ2_indexOf_4cfef 11 = .ok (.invokestatic 183, 3) := by decide +kernel
theorem dJ2_indexOf_4cfef_14 : decode cJ2_indexOf_4cfef 14 = .ok (.istore_n 3, 1) := by decide +kernel
theorem dJ2_indexOf_4cfef_15 : decode cJ2_indexOf_4cfef 15 = .ok (.iload_n 2, 1) := by decide +kernel
theorem dJ2_indexOf_4cfef_16 : decode cJ2_indexOf_4cfef 16 = .ok (.iload_n 3, 1) := by decide +kernel
theorem dJ2_indexOf_4cfef_17 : decode cJ2_indexOf_4cfef 17 = .ok (.if_icmp .lt 5, 3) := by decide +kernel
theorem dJ2_indexOf_4cfef_20 : decode cJ2_indexOf_4cfef 20 = .ok (.iconst (-1), 1) := by decide +kernel
theorem dJ2_indexOf_4cfef_21 : decode cJ2_indexOf_4cfef 21 = .ok (.ireturn, 1) := by decide +kernel
theorem dJ2_indexOf_4cfef_22 : decode cJ2_indexOf_4cfef 22 = .ok (.iload_n 1, 1) := by decide +kernel
theorem dJ2_indexOf_4cfef_23 : decode cJ2_indexOf_4cfef 23 = .ok (.ldc 227, 2) := by decide +kernel
theorem dJ2_indexOf_4cfef_25 : decode cJ2_indexOf_4cfef 25 = .ok (.if_icmp .ge 11, 3) := by decide +kernel
theorem dJ2_indexOf_4cfef_28 : decode cJ2_indexOf_4cfef 28 = .ok (.aload_n 0, 1) := by decide +kernel
theorem dJ2_indexOf_4cfef_29 : decode cJ2_indexOf_4cfef 29 = .ok (.iload_n 1, 1) := by decide +kernel
theorem dJ2_indexOf_4cfef_30 : decode cJ2_indexOf_4cfef 30 = .ok (.iload_n 2, 1) := by decide +kernel
theorem dJ2_indexOf_4cfef_31 : decode cJ2_indexOf_4cfef 31 = .ok (.iload_n 3, 1) := by decide +kernel
theorem dJ2_indexOf_4cfef_32 : decode cJ2_indexOf_4cfef 32 = .ok (.invokestatic 228, 3) := by decide +kernel
theorem dJ2_indexOf_4cfef_35 : decode cJ2_indexOf_4cfef 35 = .ok (.ireturn, 1) := by decide +kernel
theorem dJ2_indexOf_4cfef_36 : decode cJ2_indexOf_4cfef 36 = .ok (.aload_n 0, 1) := by decide +kernel
theorem dJ2_indexOf_4cfef_37 : decode cJ2_indexOf_4cfef 37 = .ok (.iload_n 1, 1) := by decide +kernel
theorem dJ2_indexOf_4cfef_38 : decode cJ2_indexOf_4cfef 38 = .ok (.iload_n 2, 1) := by decide +kernel
theorem dJ2_indexOf_4cfef_39 : decode cJ2_indexOf_4cfef 39 = .ok (.iload_n 3, 1) := by decide +kernel
theorem dJ2_indexOf_4cfef_40 : decode cJ2_indexOf_4cfef 40 = .ok (.invokestatic 232, 3) := by decide +kernel
theorem dJ2_indexOf_4cfef_43 : decode cJ2_indexOf_4cfef 43 = .ok (.ireturn, 1) := by decide +kernel
theorem dJ2_indexOfChar_4cfef_0 : decode cJ2_indexOfChar_4cfef 0 = .ok (.iload_n 2, 1) := by decide +kernel
theorem dJ2_indexOfChar_4cfef_1 : decode cJ2_indexOfChar_4cfef 1 = .ok (.iload_n 3, 1) := by decide +kernel
theorem dJ2_indexOfChar_4cfef_2 : decode cJ2_indexOfChar_4cfef 2 = .ok (.aload_n 0, 1) := by decide +kernel
theorem dJ2_indexOfChar_4cfef_3 : decode cJ2_indexOfChar_4cfef 3 = .ok (.invokestatic 96, 3) := by decide +kernel
theorem dJ2_indexOfChar_4cfef_6 : decode cJ2_indexOfChar_4cfef 6 = .ok (.aload_n 0, 1) := by decide +kernel
theorem dJ2_indexOfChar_4cfef_7 : decode cJ2_indexOfChar_4cfef 7 = .ok (.iload_n 1, 1) := by decide +kernel
theorem dJ2_indexOfChar_4cfef_8 : decode cJ2_indexOfChar_4cfef 8 = .ok (.iload_n 2, 1) := by decide +kernel
theorem dJ2_indexOfChar_4cfef_9 : decode cJ2_indexOfChar_4cfef 9 = .ok (.iload_n 3, 1) := by decide +kernel
theorem dJ2_indexOfChar_4cfef_10 : decode cJ2_indexOfChar_4cfef 10 = .ok (.invokestatic 244, 3) := by decide +kernel
theorem dJ2_indexOfChar_4cfef_13 : decode cJ2_indexOfChar_4cfef 13 = .ok (.ireturn, 1) := by decide +kernel
theorem dJ2_indexOfCharUnsafe_4cfef_0 : decode cJ2_indexOfCharUnsafe_4cfef 0 = .ok (.iload_n 2, 1) := by decide +kernel
theorem dJ2_indexOfCharUnsafe_4cfef_1 : decode cJ2_indexOfCharUnsafe_4cfef 1 = .ok (.istore 4, 2) := by decide +kernel
theorem dJ2_indexOfCharUnsafe_4cfef_3 : decode cJ2_indexOfCharUnsafe_4cfef 3 = .ok (.iload 4, 2) := by decide +kernel
theorem dJ2_indexOfCharUnsafe_4cfef_5 : decode cJ2_indexOfCharUnsafe_4cfef 5 = .ok (.iload_n 3, 1) := by decide +kernel
theorem dJ2_indexOfCharUnsafe_4cfef_6 : decode cJ2_indexOfCharUnsafe_4cfef 6 = .ok (.if_icmp .ge 22, 3) := by decide +kernel
theorem dJ2_indexOfCharUnsafe_4cfef_9 : decode cJ2_indexOfCharUnsafe_4cfef 9 = .ok (.aload_n 0, 1) := by decide +kernel
theorem dJ2_indexOfCharUnsafe_4cfef_10 : decode cJ2_indexOfCharUnsafe_4cfef 10 = .ok (.iload 4, 2) := by decide +kernel
theorem dJ2_indexOfCharUnsafe_4cfef_12 : decode cJ2_indexOfCharUnsafe_4cfef 12 = .ok (.invokestatic 71, 3) := by decide +kernel
theorem dJ2_indexOfCharUnsafe_4cfef_15 : decode cJ2_indexOfCharUnsafe_4cfef 15 = .ok (.iload_n 1, 1) := by decide +kernel
theorem dJ2_indexOfCharUnsafe_4cfef_16 : decode cJ2_indexOfCharUnsafe_4cfef 16 = .ok (.if_icmp .ne 6, 3) := by decide +kernel
theorem dJ2_indexOfCharUnsafe_4cfef_19 : decode cJ2_indexOfCharUnsafe_4cfef 19 = .ok (.iload 4, 2) := by decide +kernel
theorem dJ2_indexOfCharUnsafe_4cfef_21 : decode cJ2_indexOfCharUnsafe_4cfef 21 = .ok (.ireturn, 1) := by decide +kernel
theorem dJ2_indexOfCharUnsafe_4cfef_22 : decode cJ2_indexOfCharUnsafe_4cfef 22 = .ok (.iinc 4 1, 3) := by decide +kernel
theorem dJ2_indexOfCharUnsafe_4cfef_25 : decode cJ2_indexOfCharUnsafe_4cfef 25 = .ok (.goto (-22), 3) := by decide +kernel
theorem dJ2_indexOfCharUnsafe_4cfef_28 : decode cJ2_indexOfCharUnsafe_4cfef 28 = .ok (.iconst (-1), 1) := by decide +kernel
theorem dJ2_indexOfCharUnsafe_4cfef_29 : decode cJ2_indexOfCharUnsafe_4cfef 29 = .ok (.ireturn, 1) := by decide +kernel
theorem dJ2_indexOfSupplementary_4cfef_0 : decode cJ2_indexOfSupplementary_4cfef 0 = .ok (.iload_n 1, 1) := by decide +kernel
theorem dJ2_indexOfSupplementary_4cfef_1 : decode cJ2_indexOfSupplementary_4cfef 1 = .ok (.invokestatic 164, 3) := by decide +kernel
theorem dJ2_indexOfSupplementary_4cfef_4 : decode cJ2_indexOfSupplementary_4cfef 4 = .ok (.ifCond .eq 65, 3) := by decide +kernel
theorem dJ2_indexOfSupplementary_4cfef_7 : decode cJ2_indexOfSupplementary_4cfef 7 = .ok (.iload_n 1, 1) := by decide +kernel
theorem dJ2_indexOfSupplementary_4cfef_8 : decode cJ2_indexOfSupplementary_4cfef 8 = .ok (.invokestatic 157, 3) := by decide +kernel
theorem dJ2_indexOfSupplementary_4cfef_11 : decode cJ2_indexOfSupplementary_4cfef 11 = .ok (.istore 4, 2) := by decide +kernel
theorem dJ2_indexOfSupplementary_4cfef_13 : decode cJ2_indexOfSupplementary_4cfef 13 = .ok (.iload_n 1, 1) := by decide +kernel
theorem dJ2_indexOfSupplementary_4cfef_14 : decode cJ2_indexOfSupplementary_4cfef 14 = .ok (.invokestatic 161, 3) := by decide +kernel
theorem dJ2_indexOfSupplementary_4cfef_17 : decode cJ2_indexOfSupplementary_4cfef 17 = .ok (.istore 5, 2) := by decide +kernel
theorem dJ2_indexOfSupplementary_4cfef_19 : decode cJ2_indexOfSupplementary_4cfef 19 = .ok (.iload_n 2, 1) := by decide +kernel
theorem dJ2_indexOfSupplementary_4cfef_20 : decode cJ2_indexOfSupplementary_4cfef 20 = .ok (.iload_n 3, 1) := by decide +kernel
theorem dJ2_indexOfSupplementary_4cfef_21 : decode cJ2_indexOfSupplementary_4cfef 21 = .ok (.aload_n 0, 1) := by decide +kernel
theorem dJ2_indexOfSupplementary_4cfef_22 : decode cJ2_indexOfSupplementary_4cfef 22 = .ok (.invokestatic 96, 3) := by decide +kernel
theorem dJ2_indexOfSupplementary_4cfef_25 : decode cJ2_indexOfSupplementary_4cfef 25 = .ok (.iload_n 2, 1) := by decide +kernel
theorem dJ2_indexOfSupplementary_4cfef_26 : decode cJ2_indexOfSupplementary_4cfef 26 = .ok (.istore 6, 2) := by decide +kernel
theorem dJ2_indexOfSupplementary_4cfef_28 : decode cJ2_indexOfSupplementary_4cfef 28 = .ok (.iload 6, 2) := by decide +kernel
theorem dJ2_indexOfSupplementary_4cfef_30 : decode cJ2_indexOfSupplementary_4cfef 30 = .ok (.iload_n 3, 1) := by decide +kernel
theorem dJ2_indexOfSupplementary_4cfef_31 : decode cJ2_indexOfSupplementary_4cfef 31 = .ok (.iconst 1, 1) := by decide +kernel
theorem dJ2_indexOfSupplementary_4cfef_32 : decode cJ2_indexOfSupplementary_4cfef 32 = .ok (.isub, 1) := by decide +kernel
theorem dJ2_indexOfSupplementary_4cfef_33 : decode cJ2_indexOfSupplementary_4cfef 33 = .ok (.if_icmp .ge 36, 3) := by decide +kernel
theorem dJ2_indexOfSupplementary_4cfef_36 : decode cJ2_indexOfSupplementary_4cfef 36 = .ok (.aload_n 0, 1) := by decide +kernel
theorem dJ2_indexOfSupplementary_4cfef_37 : decode cJ2_indexOfSupplementary_4cfef 37 = .ok (.iload 6, 2) := by decide +kernel
theorem dJ2_indexOfSupplementary_4cfef_39 : decode cJ2_indexOfSupplementary_4cfef 39 = .ok (.invokestatic 71, 3) := by decide +kernel
theorem dJ2_indexOfSupplementary_4cfef_42 : decode cJ2_indexOfSupplementary_4cfef 42 = .ok (.iload 4, 2) := by decide +kernel
theorem dJ2_indexOfSupplementary_4cfef_44 : decode cJ2_indexOfSupplementary_4cfef 44 = .ok (.if_icmp .ne 19, 3) := by decide +kernel
theorem dJ2_indexOfSupplementary_4cfef_47 : decode cJ2_indexOfSupplementary_4cfef 47 = .ok (.aload_n 0, 1) := by decide +kernel
theorem dJ2_indexOfSupplementary_4cfef_48 : decode cJ2_indexOfSupplementary_4cfef 48 = .ok (.iload 6, 2) := by decide +kernel
theorem dJ2_indexOfSupplementary_4cfef_50 : decode cJ2_indexOfSupplementary_4cfef 50 = .ok (.iconst 1, 1) := by decide +kernel
theorem dJ2_indexOfSupplementary_4cfef_51 : decode cJ2_indexOfSupplementary_4cfef 51 = .ok (.iadd, 1) := by decide +kernel
theorem dJ2_indexOfSupplementary_4cfef_52 : decode cJ2_indexOfSupplementary_4cfef 52 = .ok (.invokestatic 71, 3) := by decide +kernel
theorem dJ2_indexOfSupplementary_4cfef_55 : decode cJ2_indexOfSupplementary_4cfef 55 = .ok (.iload 5, 2) := by decide +kernel
theorem dJ2_indexOfSupplementary_4cfef_57 : decode cJ2_indexOfSupplementary_4cfef 57 = .ok (.if_icmp .ne 6, 3) := by decide +kernel
theorem dJ2_indexOfSupplementary_4cfef_60 : decode cJ2_indexOfSupplementary_4cfef 60 = .ok (.iload 6, 2) := by decide +kernel
theorem dJ2_indexOfSupplementary_4cfef_62 : decode cJ2_indexOfSupplementary_4cfef 62 = .ok (.ireturn, 1) := by decide +kernel
theorem dJ2_indexOfSupplementary_4cfef_63 : decode cJ2_indexOfSupplementary_4cfef 63 = .ok (.iinc 6 1, 3) := by decide +kernel
theorem dJ2_indexOfSupplementary_4cfef_66 : decode cJ2_indexOfSupplementary_4cfef 66 = .ok (.goto (-38), 3) := by decide +kernel
theorem dJ2_indexOfSupplementary_4cfef_69 : decode cJ2_indexOfSupplementary_4cfef 69 = .ok (.iconst (-1), 1) := by decide +kernel
theorem dJ2_indexOfSupplementary_4cfef_70 : decode cJ2_indexOfSupplementary_4cfef 70 = .ok (.ireturn, 1) := by decide +kernel
theorem dJ2_checkBoundsBeginEnd_d044e_0 : decode cJ2_checkBoundsBeginEnd_d044e 0 = .ok (.iload_n 0, 1) := by decide +kernel
theorem dJ2_checkBoundsBeginEnd_d044e_1 : decode cJ2_checkBoundsBeginEnd_d044e 1 = .ok (.iload_n 1, 1) := by decide +kernel
theorem dJ2_checkBoundsBeginEnd_d044e_2 : decode cJ2_checkBoundsBeginEnd_d044e 2 = .ok (.aload_n 2, 1) := by decide +kernel
theorem dJ2_checkBoundsBeginEnd_d044e_3 : decode cJ2_checkBoundsBeginEnd_d044e 3 = .ok (.invokestatic 48, 3) := by decide +kernel
theorem dJ2_checkBoundsBeginEnd_d044e_6 : decode cJ2_checkBoundsBeginEnd_d044e 6 = .ok (.invokestatic 241, 3) := by decide +kernel
theorem dJ2_checkBoundsBeginEnd_d044e_9 : decode cJ2_checkBoundsBeginEnd_d044e 9 = .ok (.return_, 1) := by decide +kernel
theorem dJ3_checkFromToIndex_8c36e_0 : decode cJ3_checkFromToIndex_8c36e 0 = .ok (.iload_n 0, 1) := by decide +kernel
theorem dJ3_checkFromToIndex_8c36e_1 : decode cJ3_checkFromToIndex_8c36e 1 = .ok (.ifCond .lt 13, 3) := by decide +kernel
theorem dJ3_checkFromToIndex_8c36e_4 : decode cJ3_checkFromToIndex_8c36e 4 = .ok (.iload_n 0, 1) := by decide +kernel
theorem dJ3_checkFromToIndex_8c36e_5 : decode cJ3_checkFromToIndex_8c36e 5 = .ok (.iload_n 1, 1) := by decide +kernel
theorem dJ3_checkFromToIndex_8c36e_6 : decode cJ3_checkFromToIndex_8c36e 6 = .ok (.if_icmp .gt 8, 3) := by decide +kernel
theorem dJ3_checkFromToIndex_8c36e_9 : decode cJ3_checkFromToIndex_8c36e 9 = .ok (.iload_n 1, 1) := by decide +kernel
theorem dJ3_checkFromToIndex_8c36e_10 : decode cJ3_checkFromToIndex_8c36e 10 = .ok (.iload_n 2, 1) := by decide +kernel
theorem dJ3_checkFromToIndex_8c36e_11 : decode cJ3_checkFromToIndex_8c36e 11 = .ok (.if_icmp .le 11, 3) := by decide +kernel
theorem dJ3_checkFromToIndex_8c36e_14 : decode cJ3_checkFromToIndex_8c36e 14 = .ok (.aload_n 3, 1) := by decide +kernel
theorem dJ3_checkFromToIndex_8c36e_15 : decode cJ3_checkFromToIndex_8c36e 15 = .ok (.iload_n 0, 1) := by decide +kernel
theorem dJ3_checkFromToIndex_8c36e_16 : decode cJ3_checkFromToIndex_8c36e 16 = .ok (.iload_n 1, 1) := by decide +kernel
theorem dJ3_checkFromToIndex_8c36e_17 : decode cJ3_checkFromToIndex_8c36e 17 = .ok (.iload_n 2, 1) := by decide +kernel
theorem dJ3_checkFromToIndex_8c36e_18 : decode cJ3_checkFromToIndex_8c36e 18 = .ok (.invokestatic 99, 3) := by decide +kernel
theorem dJ3_checkFromToIndex_8c36e_21 : decode cJ3_checkFromToIndex_8c36e 21 = .ok (.athrow, 1) := by decide +kernel
theorem dJ3_checkFromToIndex_8c36e_22 : decode cJ3_checkFromToIndex_8c36e 22 = .ok (.iload_n 0, 1) := by decide +kernel
theorem dJ3_checkFromToIndex_8c36e_23 : decode cJ3_checkFromToIndex_8c36e 23 = .ok (.ireturn, 1) := by decide +kernel
theorem dL_law_0 : decode cL_law 0 = .ok (.new 7, 3) := by decide +kernel
theorem dL_law_3 : decode cL_law 3 = .ok (.dup, 1) := by decide +kernel
theorem dL_law_4 : decode cL_law 4 = .ok (.invokespecial 9, 3) := by decide +kernel
theorem dL_law_7 : decode cL_law 7 = .ok (.astore_n 1, 1) := by decide +kernel
theorem dL_law_8 : decode cL_law 8 = .ok (.new 10, 3) := by decide +kernel
theorem dL_law_11 : decode cL_law 11 = .ok (.dup, 1) := by decide +kernel
theorem dL_law_12 : decode cL_law 12 = .ok (.invokespecial 12, 3) := by decide +kernel
theorem dL_law_15 : decode cL_law 15 = .ok (.astore_n 2, 1) := by decide +kernel
theorem dL_law_16 : decode cL_law 16 = .ok (.iconst 0, 1) := by decide +kernel
theorem dL_law_17 : decode cL_law 17 = .ok (.istore_n 3, 1) := by decide +kernel
theorem dL_law_18 : decode cL_law 18 = .ok (.iload_n 3, 1) := by decide +kernel
theorem dL_law_19 : decode cL_law 19 = .ok (.aload_n 0, 1) := by decide +kernel
theorem dL_law_20 : decode cL_law 20 = .ok (.arraylength, 1) := by decide +kernel
theorem dL_law_21 : decode cL_law 21 = .ok (.bipush 6, 2) := by decide +kernel
theorem dL_law_23 : decode cL_law 23 = .ok (.isub, 1) := by decide +kernel
theorem dL_law_24 : decode cL_law 24 = .ok (.if_icmp .gt 1947, 3) := by decide +kernel
theorem dL_law_27 : decode cL_law 27 = .ok (.aload_n 0, 1) := by decide +kernel
theorem dL_law_28 : decode cL_law 28 = .ok (.iload_n 3, 1) := by decide +kernel
theorem dL_law_29 : decode cL_law 29 = .ok (.iaload, 1) := by decide +kernel
theorem dL_law_30 : decode cL_law 30 = .ok (.bipush 63, 2) := by decide +kernel
theorem dL_law_32 : decode cL_law 32 = .ok (.iand, 1) := by decide +kernel
theorem dL_law_33 : decode cL_law 33 = .ok (.tableswitch 1932 0 47 #[207, 240, 263, 306, 339, 372, 405, 438, 501, 524, 567, 620, 683, 716, 739, 782, 825, 848, 881, 924, 947, 990, 1033, 1086, 1129, 1182, 1245, 1278, 1311, 1355, 1378, 1411, 1444, 1467, 1510, 1533, 1566, 1599, 1642, 1665, 1708, 1751, 1814, 1827, 1840, 1863, 1886, 1909], 207) := by decide +kernel
theorem dL_law_240 : decode cL_law 240 = .ok (.aload_n 1, 1) := by decide +kernel
theorem dL_law_241 : decode cL_law 241 = .ok (.aload_n 0, 1) := by decide +kernel
theorem dL_law_242 : decode cL_law 242 = .ok (.iload_n 3, 1) := by decide +kernel
theorem dL_law_243 : decode cL_law 243 = .ok (.iconst 1, 1) := by decide +kernel
theorem dL_law_244 : decode cL_law 244 = .ok (.iadd, 1) := by decide +kernel
theorem dL_law_245 : decode cL_law 245 = .ok (.iaload, 1) := by decide +kernel
theorem dL_law_246 : decode cL_law 246 = .ok (.aload_n 0, 1) := by decide +kernel
theorem dL_law_247 : decode cL_law 247 = .ok (.iload_n 3, 1) := by decide +kernel
theorem dL_law_248 : decode cL_law 248 = .ok (.iconst 2, 1) := by decide +kernel
theorem dL_law_249 : decode cL_law 249 = .ok (.iadd, 1) := by decide +kernel
theorem dL_law_250 : decode cL_law 250 = .ok (.iaload, 1) := by decide +kernel
theorem dL_law_251 : decode cL_law 251 = .ok (.invokevirtual 13, 3) := by decide +kernel
theorem dL_law_254 : decode cL_law 254 = .ok (.aload_n 2, 1) := by decide +kernel
theorem dL_law_255 : decode cL_law 255 = .ok (.aload_n 0, 1) := by decide +kernel
theorem dL_law_256 : decode cL_law 256 = .ok (.iload_n 3, 1) := by decide +kernel
theorem dL_law_257 : decode cL_law 257 = .ok (.iconst 1, 1) := by decide +kernel
theorem dL_law_258 : decode cL_law 258 = .ok (.iadd, 1) := by decide +kernel
theorem dL_law_259 : decode cL_law 259 = .ok (.iaload, 1) := by decide +kernel
theorem dL_law_260 : decode cL_law 260 = .ok (.aload_n 0, 1) := by decide +kernel
theorem dL_law_261 : decode cL_law 261 = .ok (.iload_n 3, 1) := by decide +kernel
theorem dL_law_262 : decode cL_law 262 = .ok (.iconst 2, 1) := by decide +kernel
theorem dL_law_263 : decode cL_law 263 = .ok (.iadd, 1) := by decide +kernel
theorem dL_law_264 : decode cL_law 264 = .ok (.iaload, 1) := by decide +kernel
theorem dL_law_265 : decode cL_law 265 = .ok (.invokevirtual 17, 3) := by decide +kernel
theorem dL_law_268 : decode cL_law 268 = .ok (.if_icmp .eq 1697, 3) := by decide +kernel
theorem dL_law_271 : decode cL_law 271 = .ok (.iconst 0, 1) := by decide +kernel
theorem dL_law_272 : decode cL_law 272 = .ok (.ireturn, 1) := by decide +kernel
theorem dL_law_273 : decode cL_law 273 = .ok (.aload_n 1, 1) := by decide +kernel
theorem dL_law_274 : decode cL_law 274 = .ok (.aload_n 0, 1) := by decide +kernel
theorem dL_law_275 : decode cL_law 275 = .ok (.iload_n 3, 1) := by decide +kernel
theorem dL_law_276 : decode cL_law 276 = .ok (.iconst 1, 1) := by decide +kernel
theorem dL_law_277 : decode cL_law 277 = .ok (.iadd, 1) := by decide +kernel
theorem dL_law_278 : decode cL_law 278 = .ok (.iaload, 1) := by decide +kernel
theorem dL_law_279 : decode cL_law 279 = .ok (.invokevirtual 18, 3) := by decide +kernel
theorem dL_law_282 : decode cL_law 282 = .ok (.aload_n 2, 1) := by decide +kernel
theorem dL_law_283 : decode cL_law 283 = .ok (.aload_n 0, 1) := by decide +kernel
theorem dL_law_284 : decode cL_law 284 = .ok (.iload_n 3, 1) := by decide +kernel
theorem dL_law_285 : decode cL_law 285 = .ok (.iconst 1, 1) := by decide +kernel
theorem dL_law_286 : decode cL_law 286 = .ok (.iadd, 1) := by decide +kernel
theorem dL_law_287 : decode cL_law 287 = .ok (.iaload, 1) := by decide +kernel
theorem dL_law_288 : decode cL_law 288 = .ok (.invokevirtual 22, 3) := by decide +kernel
theorem dL_law_291 : decode cL_law 291 = .ok (.if_icmp .eq 1674, 3) := by decide +kernel
theorem dL_law_294 : decode cL_law 294 = .ok (.iconst 0, 1) := by decide +kernel
theorem dL_law_295 : decode cL_law 295 = .ok (.ireturn, 1) := by decide +kernel
theorem dL_law_296 : decode cL_law 296 = .ok (.aload_n 1, 1) := by decide +kernel
theorem dL_law_297 : decode cL_law 297 = .ok (.aload_n 0, 1) := by decide +kernel
theorem dL_law_298 : decode cL_law 298 = .ok (.iload_n 3, 1) := by decide +kernel
theorem dL_law_299 : decode cL_law 299 = .ok (.iconst 1, 1) := by decide +kernel
theorem dL_law_300 : decode cL_law 300 = .ok (.iadd, 1) := by decide +kernel
theorem dL_law_301 : decode cL_law 301 = .ok (.iaload, 1) := by decide +kernel
theorem dL_law_302 : decode cL_law 302 = .ok (.aload_n 0, 1) := by decide +kernel
theorem dL_law_303 : decode cL_law 303 = .ok (.iload_n 3, 1) := by decide +kernel
theorem dL_law_304 : decode cL_law 304 = .ok (.iconst 2, 1) := by decide +kernel
theorem dL_law_305 : decode cL_law 305 = .ok (.iadd, 1) := by decide +kernel
theorem dL_law_306 : decode cL_law 306 = .ok (.iaload, 1) := by decide +kernel
theorem dL_law_307 : decode cL_law 307 = .ok (.aload_n 0, 1) := by decide +kernel
theorem dL_law_308 : decode cL_law 308 = .ok (.iload_n 3, 1) := by decide +kernel
theorem dL_law_309 : decode cL_law 309 = .ok (.iconst 3, 1) := by decide +kernel
theorem dL_law_310 : decode cL_law 310 = .ok (.iadd, 1) := by decide +kernel
theorem dL_law_311 : decode cL_law 311 = .ok (.iaload, 1) := by decide +kernel
theorem dL_law_312 : decode cL_law 312 = .ok (.invokevirtual 23, 3) := by decide +kernel
theorem dL_law_315 : decode cL_law 315 = .ok (.aload_n 2, 1) := by decide +kernel
theorem dL_law_316 : decode cL_law 316 = .ok (.aload_n 0, 1) := by decide +kernel
theorem dL_law_317 : decode cL_law 317 = .ok (.iload_n 3, 1) := by decide +kernel
theorem dL_law_318 : decode cL_law 318 = .ok (.iconst 1, 1) := by decide +kernel
theorem dL_law_319 : decode cL_law 319 = .ok (.iadd, 1) := by decide +kernel
theorem dL_law_320 : decode cL_law 320 = .ok (.iaload, 1) := by decide +kernel
theorem dL_law_321 : decode cL_law 321 = .ok (.aload_n 0, 1) := by decide +kernel
theorem dL_law_322 : decode cL_law 322 = .ok (.iload_n 3, 1) := by decide +kernel
theorem dL_law_323 : decode cL_law 323 = .ok (.iconst 2, 1) := by decide +kernel
theorem dL_law_324 : decode cL_law 324 = .ok (.iadd, 1) := by decide +kernel
theorem dL_law_325 : decode cL_law 325 = .ok (.iaload, 1) := by decide +kernel
theorem dL_law_326 : decode cL_law 326 = .ok (.aload_n 0, 1) := by decide +kernel
theorem dL_law_327 : decode cL_law 327 = .ok (.iload_n 3, 1) := by decide +kernel
theorem dL_law_328 : decode cL_law 328 = .ok (.iconst 3, 1) := by decide +kernel
theorem dL_law_329 : decode cL_law 329 = .ok (.iadd, 1) := by decide +kernel
theorem dL_law_330 : decode cL_law 330 = .ok (.iaload, 1) := by decide +kernel
theorem dL_law_331 : decode cL_law 331 = .ok (.invokevirtual 27, 3) := by decide +kernel
theorem dL_law_334 : decode cL_law 334 = .ok (.if_icmp .eq 1631, 3) := by decide +kernel
theorem dL_law_337 : decode cL_law 337 = .ok (.iconst 0, 1) := by decide +kernel
theorem dL_law_338 : decode cL_law 338 = .ok (.ireturn, 1) := by decide +kernel
theorem dL_law_339 : decode cL_law 339 = .ok (.aload_n 1, 1) := by decide +kernel
theorem dL_law_340 : decode cL_law 340 = .ok (.aload_n 0, 1) := by decide +kernel
theorem dL_law_341 : decode cL_law 341 = .ok (.iload_n 3, 1) := by decide +kernel
theorem dL_law_342 : decode cL_law 342 = .ok (.iconst 1, 1) := by decide +kernel
theorem dL_law_343 : decode cL_law 343 = .ok (.iadd, 1) := by decide +kernel
theorem dL_law_344 : decode cL_law 344 = .ok (.iaload, 1) := by decide +kernel
theorem dL_law_345 : decode cL_law 345 = .ok (.aload_n 0, 1) := by decide +kernel
theorem dL_law_346 : decode cL_law 346 = .ok (.iload_n 3, 1) := by decide +kernel
theorem dL_law_347 : decode cL_law 347 = .ok (.iconst 2, 1) := by decide +kernel
theorem dL_law_348 : decode cL_law 348 = .ok (.iadd, 1) := by decide +kernel
theorem dL_law_349 : decode cL_law 349 = .ok (.iaload, 1) := by decide +kernel
theorem dL_law_350 : decode cL_law 350 = .ok (.invokevirtual 28, 3) := by decide +kernel
theorem dL_law_353 : decode cL_law 353 = .ok (.aload_n 2, 1) := by decide +kernel
theorem dL_law_354 : decode cL_law 354 = .ok (.aload_n 0, 1) := by decide +kernel
theorem dL_law_355 : decode cL_law 355 = .ok (.iload_n 3, 1) := by decide +kernel
theorem dL_law_356 : decode cL_law 356 = .ok (.iconst 1, 1) := by decide +kernel
theorem dL_law_357 : decode cL_law 357 = .ok (.iadd, 1) := by decide +kernel
theorem dL_law_358 : decode cL_law 358 = .ok (.iaload, 1) := by decide +kernel
theorem dL_law_359 : decode cL_law 359 = .ok (.aload_n 0, 1) := by decide +kernel
theorem dL_law_360 : decode cL_law 360 = .ok (.iload_n 3, 1) := by decide +kernel
theorem dL_law_361 : decode cL_law 361 = .ok (.iconst 2, 1) := by decide +kernel
theorem dL_law_362 : decode cL_law 362 = .ok (.iadd, 1) := by decide +kernel
theorem dL_law_363 : decode cL_law 363 = .ok (.iaload, 1) := by decide +kernel
theorem dL_law_364 : decode cL_law 364 = .ok (.invokevirtual 31, 3) := by decide +kernel
theorem dL_law_367 : decode cL_law 367 = .ok (.if_icmp .eq 1598, 3) := by decide +kernel
theorem dL_law_370 : decode cL_law 370 = .ok (.iconst 0, 1) := by decide +kernel
theorem dL_law_371 : decode cL_law 371 = .ok (.ireturn, 1) := by decide +kernel
theorem dL_law_372 : decode cL_law 372 = .ok (.aload_n 1, 1) := by decide +kernel
theorem dL_law_373 : decode cL_law 373 = .ok (.aload_n 0, 1) := by decide +kernel
theorem dL_law_374 : decode cL_law 374 = .ok (.iload_n 3, 1) := by decide +kernel
theorem dL_law_375 : decode cL_law 375 = .ok (.iconst 1, 1) := by decide +kernel
theorem dL_law_376 : decode cL_law 376 = .ok (.iadd, 1) := by decide +kernel
theorem dL_law_377 : decode cL_law 377 = .ok (.iaload, 1) := by decide +kernel
theorem dL_law_378 : decode cL_law 378 = .ok (.aload_n 0, 1) := by decide +kernel
theorem dL_law_379 : decode cL_law 379 = .ok (.iload_n 3, 1) := by decide +kernel
theorem dL_law_380 : decode cL_law 380 = .ok (.iconst 2, 1) := by decide +kernel
theorem dL_law_381 : decode cL_law 381 = .ok (.iadd, 1) := by decide +kernel
theorem dL_law_382 : decode cL_law 382 = .ok (.iaload, 1) := by decide +kernel
theorem dL_law_383 : decode cL_law 383 = .ok (.invokevirtual 32, 3) := by decide +kernel
theorem dL_law_386 : decode cL_law 386 = .ok (.aload_n 2, 1) := by decide +kernel
theorem dL_law_387 : decode cL_law 387 = .ok (.aload_n 0, 1) := by decide +kernel
theorem dL_law_388 : decode cL_law 388 = .ok (.iload_n 3, 1) := by decide +kernel
theorem dL_law_389 : decode cL_law 389 = .ok (.iconst 1, 1) := by decide +kernel
theorem dL_law_390 : decode cL_law 390 = .ok (.iadd, 1) := by decide +kernel
theorem dL_law_391 : decode cL_law 391 = .ok (.iaload, 1) := by decide +kernel
theorem dL_law_392 : decode cL_law 392 = .ok (.aload_n 0, 1) := by decide +kernel
theorem dL_law_393 : decode cL_law 393 = .ok (.iload_n 3, 1) := by decide +kernel
theorem dL_law_394 : decode cL_law 394 = .ok (.iconst 2, 1) := by decide +kernel
theorem dL_law_395 : decode cL_law 395 = .ok (.iadd, 1) := by decide +kernel
theorem dL_law_396 : decode cL_law 396 = .ok (.iaload, 1) := by decide +kernel
theorem dL_law_397 : decode cL_law 397 = .ok (.invokevirtual 35, 3) := by decide +kernel
theorem dL_law_400 : decode cL_law 400 = .ok (.if_icmp .eq 1565, 3) := by decide +kernel
theorem dL_law_403 : decode cL_law 403 = .ok (.iconst 0, 1) := by decide +kernel
theorem dL_law_404 : decode cL_law 404 = .ok (.ireturn, 1) := by decide +kernel
theorem dL_law_405 : decode cL_law 405 = .ok (.aload_n 1, 1) := by decide +kernel
theorem dL_law_406 : decode cL_law 406 = .ok (.aload_n 0, 1) := by decide +kernel
theorem dL_law_407 : decode cL_law 407 = .ok (.iload_n 3, 1) := by decide +kernel
theorem dL_law_408 : decode cL_law 408 = .ok (.iconst 1, 1) := by decide +kernel
theorem dL_law_409 : decode cL_law 409 = .ok (.iadd, 1) := by decide +kernel
theorem dL_law_410 : decode cL_law 410 = .ok (.iaload, 1) := by decide +kernel
theorem dL_law_411 : decode cL_law 411 = .ok (.aload_n 0, 1) := by decide +kernel
theorem dL_law_412 : decode cL_law 412 = .ok (.iload_n 3, 1) := by decide +kernel
theorem dL_law_413 : decode cL_law 413 = .ok (.iconst 2, 1) := by decide +kernel
theorem dL_law_414 : decode cL_law 414 = .ok (.iadd, 1) := by decide +kernel
theorem dL_law_415 : decode cL_law 415 = .ok (.iaload, 1) := by decide +kernel
theorem dL_law_416 : decode cL_law 416 = .ok (.invokevirtual 36, 3) := by decide +kernel
theorem dL_law_419 : decode cL_law 419 = .ok (.aload_n 2, 1) := by decide +kernel
theorem dL_law_420 : decode cL_law 420 = .ok (.aload_n 0, 1) := by decide +kernel
theorem dL_law_421 : decode cL_law 421 = .ok (.iload_n 3, 1) := by decide +kernel
theorem dL_law_422 : decode cL_law 422 = .ok (.iconst 1, 1) := by decide +kernel
theorem dL_law_423 : decode cL_law 423 = .ok (.iadd, 1) := by decide +kernel
theorem dL_law_424 : decode cL_law 424 = .ok (.iaload, 1) := by decide +kernel
theorem dL_law_425 : decode cL_law 425 = .ok (.aload_n 0, 1) := by decide +kernel
theorem dL_law_426 : decode cL_law 426 = .ok (.iload_n 3, 1) := by decide +kernel
theorem dL_law_427 : decode cL_law 427 = .ok (.iconst 2, 1) := by decide +kernel
theorem dL_law_428 : decode cL_law 428 = .ok (.iadd, 1) := by decide +kernel
theorem dL_law_429 : decode cL_law 429 = .ok (.iaload, 1) := by decide +kernel
theorem dL_law_430 : decode cL_law 430 = .ok (.invokevirtual 39, 3) := by decide +kernel
theorem dL_law_433 : decode cL_law 433 = .ok (.if_icmp .eq 1532, 3) := by decide +kernel
theorem dL_law_436 : decode cL_law 436 = .ok (.iconst 0, 1) := by decide +kernel
theorem dL_law_437 : decode cL_law 437 = .ok (.ireturn, 1) := by decide +kernel
theorem dL_law_438 : decode cL_law 438 = .ok (.aload_n 1, 1) := by decide +kernel
theorem dL_law_439 : decode cL_law 439 = .ok (.aload_n 0, 1) := by decide +kernel
theorem dL_law_440 : decode cL_law 440 = .ok (.iload_n 3, 1) := by decide +kernel
theorem dL_law_441 : decode cL_law 441 = .ok (.iconst 1, 1) := by decide +kernel
theorem dL_law_442 : decode cL_law 442 = .ok (.iadd, 1) := by decide +kernel
theorem dL_law_443 : decode cL_law 443 = .ok (.iaload, 1) := by decide +kernel
theorem dL_law_444 : decode cL_law 444 = .ok (.aload_n 0, 1) := by decide +kernel
theorem dL_law_445 : decode cL_law 445 = .ok (.iload_n 3, 1) := by decide +kernel
theorem dL_law_446 : decode cL_law 446 = .ok (.iconst 2, 1) := by decide +kernel
theorem dL_law_447 : decode cL_law 447 = .ok (.iadd, 1) := by decide +kernel
theorem dL_law_448 : decode cL_law 448 = .ok (.iaload, 1) := by decide +kernel
theorem dL_law_449 : decode cL_law 449 = .ok (.invokevirtual 40, 3) := by decide +kernel
theorem dL_law_452 : decode cL_law 452 = .ok (.aload_n 2, 1) := by decide +kernel
theorem dL_law_453 : decode cL_law 453 = .ok (.aload_n 0, 1) := by decide +kernel
theorem dL_law_454 : decode cL_law 454 = .ok (.iload_n 3, 1) := by decide +kernel
theorem dL_law_455 : decode cL_law 455 = .ok (.iconst 1, 1) := by decide +kernel
theorem dL_law_456 : decode cL_law 456 = .ok (.iadd, 1) := by decide +kernel
theorem dL_law_457 : decode cL_law 457 = .ok (.iaload, 1) := by decide +kernel
theorem dL_law_458 : decode cL_law 458 = .ok (.aload_n 0, 1) := by decide +kernel
theorem dL_law_459 : decode cL_law 459 = .ok (.iload_n 3, 1) := by decide +kernel
theorem dL_law_460 : decode cL_law 460 = .ok (.iconst 2, 1) := by decide +kernel
theorem dL_law_461 : decode cL_law 461 = .ok (.iadd, 1) := by decide +kernel
theorem dL_law_462 : decode cL_law 462 = .ok (.iaload, 1) := by decide +kernel
theorem dL_law_463 : decode cL_law 463 = .ok (.invokevirtual 43, 3) := by decide +kernel
theorem dL_law_466 : decode cL_law 466 = .ok (.if_icmp .eq 1499, 3) := by decide +kernel
theorem dL_law_469 : decode cL_law 469 = .ok (.iconst 0, 1) := by decide +kernel
theorem dL_law_470 : decode cL_law 470 = .ok (.ireturn, 1) := by decide +kernel
theorem dL_law_471 : decode cL_law 471 = .ok (.aload_n 1, 1) := by decide +kernel
theorem dL_law_472 : decode cL_law 472 = .ok (.aload_n 0, 1) := by decide +kernel
theorem dL_law_473 : decode cL_law 473 = .ok (.iload_n 3, 1) := by decide +kernel
theorem dL_law_474 : decode cL_law 474 = .ok (.iconst 1, 1) := by decide +kernel
theorem dL_law_475 : decode cL_law 475 = .ok (.iadd, 1) := by decide +kernel
theorem dL_law_476 : decode cL_law 476 = .ok (.iaload, 1) := by decide +kernel
theorem dL_law_477 : decode cL_law 477 = .ok (.i2l, 1) := by decide +kernel
theorem dL_law_478 : decode cL_law 478 = .ok (.bipush 32, 2) := by decide +kernel
theorem dL_law_480 : decode cL_law 480 = .ok (.lshl, 1) := by decide +kernel
theorem dL_law_481 : decode cL_law 481 = .ok (.aload_n 0, 1) := by decide +kernel
theorem dL_law_482 : decode cL_law 482 = .ok (.iload_n 3, 1) := by decide +kernel
theorem dL_law_483 : decode cL_law 483 = .ok (.iconst 2, 1) := by decide +kernel
theorem dL_law_484 : decode cL_law 484 = .ok (.iadd, 1) := by decide +kernel
theorem dL_law_485 : decode cL_law 485 = .ok (.iaload, 1) := by decide +kernel
theorem dL_law_486 : decode cL_law 486 = .ok (.i2l, 1) := by decide +kernel
theorem dL_law_487 : decode cL_law 487 = .ok (.ldc2_w 44, 3) := by decide +kernel
theorem dL_law_490 : decode cL_law 490 = .ok (.land, 1) := by decide +kernel
theorem dL_law_491 : decode cL_law 491 = .ok (.lor, 1) := by decide +kernel
theorem dL_law_492 : decode cL_law 492 = .ok (.aload_n 0, 1) := by decide +kernel
theorem dL_law_493 : decode cL_law 493 = .ok (.iload_n 3, 1) := by decide +kernel
theorem dL_law_494 : decode cL_law 494 = .ok (.iconst 3, 1) := by decide +kernel
theorem dL_law_495 : decode cL_law 495 = .ok (.iadd, 1) := by decide +kernel
theorem dL_law_496 : decode cL_law 496 = .ok (.iaload, 1) := by decide +kernel
theorem dL_law_497 : decode cL_law 497 = .ok (.invokevirtual 46, 3) := by decide +kernel
theorem dL_law_500 : decode cL_law 500 = .ok (.aload_n 2, 1) := by decide +kernel
theorem dL_law_501 : decode cL_law 501 = .ok (.aload_n 0, 1) := by decide +kernel
theorem dL_law_502 : decode cL_law 502 = .ok (.iload_n 3, 1) := by decide +kernel
theorem dL_law_503 : decode cL_law 503 = .ok (.iconst 1, 1) := by decide +kernel
theorem dL_law_504 : decode cL_law 504 = .ok (.iadd, 1) := by decide +kernel
theorem dL_law_505 : decode cL_law 505 = .ok (.iaload, 1) := by decide +kernel
theorem dL_law_506 : decode cL_law 506 = .ok (.i2l, 1) := by decide +kernel
theorem dL_law_507 : decode cL_law 507 = .ok (.bipush 32, 2) := by decide +kernel
theorem dL_law_509 : decode cL_law 509 = .ok (.lshl, 1) := by decide +kernel
theorem dL_law_510 : decode cL_law 510 = .ok (.aload_n 0, 1) := by decide +kernel
theorem dL_law_511 : decode cL_law 511 = .ok (.iload_n 3, 1) := by decide +kernel
theorem dL_law_512 : decode cL_law 512 = .ok (.iconst 2, 1) := by decide +kernel
theorem dL_law_513 : decode cL_law 513 = .ok (.iadd, 1) := by decide +kernel
theorem dL_law_514 : decode cL_law 514 = .ok (.iaload, 1) := by decide +kernel
theorem dL_law_515 : decode cL_law 515 = .ok (.i2l, 1) := by decide +kernel
theorem dL_law_516 : decode cL_law 516 = .ok (.ldc2_w 44, 3) := by decide +kernel
theorem dL_law_519 : decode cL_law 519 = .ok (.land, 1) := by decide +kernel
theorem dL_law_520 : decode cL_law 520 = .ok (.lor, 1) := by decide +kernel
theorem dL_law_521 : decode cL_law 521 = .ok (.aload_n 0, 1) := by decide +kernel
theorem dL_law_522 : decode cL_law 522 = .ok (.iload_n 3, 1) := by decide +kernel
theorem dL_law_523 : decode cL_law 523 = .ok (.iconst 3, 1) := by decide +kernel
theorem dL_law_524 : decode cL_law 524 = .ok (.iadd, 1) := by decide +kernel
theorem dL_law_525 : decode cL_law 525 = .ok (.iaload, 1) := by decide +kernel
theorem dL_law_526 : decode cL_law 526 = .ok (.invokevirtual 50, 3) := by decide +kernel
theorem dL_law_529 : decode cL_law 529 = .ok (.if_icmp .eq 1436, 3) := by decide +kernel
theorem dL_law_532 : decode cL_law 532 = .ok (.iconst 0, 1) := by decide +kernel
theorem dL_law_533 : decode cL_law 533 = .ok (.ireturn, 1) := by decide +kernel
theorem dL_law_534 : decode cL_law 534 = .ok (.aload_n 1, 1) := by decide +kernel
theorem dL_law_535 : decode cL_law 535 = .ok (.aload_n 0, 1) := by decide +kernel
theorem dL_law_536 : decode cL_law 536 = .ok (.iload_n 3, 1) := by decide +kernel
theorem dL_law_537 : decode cL_law 537 = .ok (.iconst 1, 1) := by decide +kernel
theorem dL_law_538 : decode cL_law 538 = .ok (.iadd, 1) := by decide +kernel
theorem dL_law_539 : decode cL_law 539 = .ok (.iaload, 1) := by decide +kernel
theorem dL_law_540 : decode cL_law 540 = .ok (.invokevirtual 51, 3) := by decide +kernel
theorem dL_law_543 : decode cL_law 543 = .ok (.aload_n 2, 1) := by decide +kernel
theorem dL_law_544 : decode cL_law 544 = .ok (.aload_n 0, 1) := by decide +kernel
theorem dL_law_545 : decode cL_law 545 = .ok (.iload_n 3, 1) := by decide +kernel
theorem dL_law_546 : decode cL_law 546 = .ok (.iconst 1, 1) := by decide +kernel
theorem dL_law_547 : decode cL_law 547 = .ok (.iadd, 1) := by decide +kernel
theorem dL_law_548 : decode cL_law 548 = .ok (.iaload, 1) := by decide +kernel
theorem dL_law_549 : decode cL_law 549 = .ok (.invokevirtual 54, 3) := by decide +kernel
theorem dL_law_552 : decode cL_law 552 = .ok (.if_icmp .eq 1413, 3) := by decide +kernel
theorem dL_law_555 : decode cL_law 555 = .ok (.iconst 0, 1) := by decide +kernel
theorem dL_law_556 : decode cL_law 556 = .ok (.ireturn, 1) := by decide +kernel
theorem dL_law_557 : decode cL_law 557 = .ok (.aload_n 1, 1) := by decide +kernel
theorem dL_law_558 : decode cL_law 558 = .ok (.aload_n 0, 1) := by decide +kernel
theorem dL_law_559 : decode cL_law 559 = .ok (.iload_n 3, 1) := by decide +kernel
theorem dL_law_560 : decode cL_law 560 = .ok (.iconst 1, 1) := by decide +kernel
theorem dL_law_561 : decode cL_law 561 = .ok (.iadd, 1) := by decide +kernel
theorem dL_law_562 : decode cL_law 562 = .ok (.iaload, 1) := by decide +kernel
theorem dL_law_563 : decode cL_law 563 = .ok (.aload_n 0, 1) := by decide +kernel
theorem dL_law_564 : decode cL_law 564 = .ok (.iload_n 3, 1) := by decide +kernel
theorem dL_law_565 : decode cL_law 565 = .ok (.iconst 2, 1) := by decide +kernel
theorem dL_law_566 : decode cL_law 566 = .ok (.iadd, 1) := by decide +kernel
theorem dL_law_567 : decode cL_law 567 = .ok (.iaload, 1) := by decide +kernel
theorem dL_law_568 : decode cL_law 568 = .ok (.aload_n 0, 1) := by decide +kernel
theorem dL_law_569 : decode cL_law 569 = .ok (.iload_n 3, 1) := by decide +kernel
theorem dL_law_570 : decode cL_law 570 = .ok (.iconst 3, 1) := by decide +kernel
theorem dL_law_571 : decode cL_law 571 = .ok (.iadd, 1) := by decide +kernel
theorem dL_law_572 : decode cL_law 572 = .ok (.iaload, 1) := by decide +kernel
theorem dL_law_573 : decode cL_law 573 = .ok (.invokevirtual 55, 3) := by decide +kernel
theorem dL_law_576 : decode cL_law 576 = .ok (.aload_n 2, 1) := by decide +kernel
theorem dL_law_577 : decode cL_law 577 = .ok (.aload_n 0, 1) := by decide +kernel
theorem dL_law_578 : decode cL_law 578 = .ok (.iload_n 3, 1) := by decide +kernel
theorem dL_law_579 : decode cL_law 579 = .ok (.iconst 1, 1) := by decide +kernel
theorem dL_law_580 : decode cL_law 580 = .ok (.iadd, 1) := by decide +kernel
theorem dL_law_581 : decode cL_law 581 = .ok (.iaload, 1) := by decide +kernel
theorem dL_law_582 : decode cL_law 582 = .ok (.aload_n 0, 1) := by decide +kernel
theorem dL_law_583 : decode cL_law 583 = .ok (.iload_n 3, 1) := by decide +kernel
theorem dL_law_584 : decode cL_law 584 = .ok (.iconst 2, 1) := by decide +kernel
theorem dL_law_585 : decode cL_law 585 = .ok (.iadd, 1) := by decide +kernel
theorem dL_law_586 : decode cL_law 586 = .ok (.iaload, 1) := by decide +kernel
theorem dL_law_587 : decode cL_law 587 = .ok (.aload_n 0, 1) := by decide +kernel
theorem dL_law_588 : decode cL_law 588 = .ok (.iload_n 3, 1) := by decide +kernel
theorem dL_law_589 : decode cL_law 589 = .ok (.iconst 3, 1) := by decide +kernel
theorem dL_law_590 : decode cL_law 590 = .ok (.iadd, 1) := by decide +kernel
theorem dL_law_591 : decode cL_law 591 = .ok (.iaload, 1) := by decide +kernel
theorem dL_law_592 : decode cL_law 592 = .ok (.invokevirtual 58, 3) := by decide +kernel
theorem dL_law_595 : decode cL_law 595 = .ok (.if_icmp .eq 1370, 3) := by decide +kernel
theorem dL_law_598 : decode cL_law 598 = .ok (.iconst 0, 1) := by decide +kernel
theorem dL_law_599 : decode cL_law 599 = .ok (.ireturn, 1) := by decide +kernel
theorem dL_law_600 : decode cL_law 600 = .ok (.aload_n 1, 1) := by decide +kernel
theorem dL_law_601 : decode cL_law 601 = .ok (.aload_n 0, 1) := by decide +kernel
theorem dL_law_602 : decode cL_law 602 = .ok (.iload_n 3, 1) := by decide +kernel
theorem dL_law_603 : decode cL_law 603 = .ok (.iconst 1, 1) := by decide +kernel
theorem dL_law_604 : decode cL_law 604 = .ok (.iadd, 1) := by decide +kernel
theorem dL_law_605 : decode cL_law 605 = .ok (.iaload, 1) := by decide +kernel
theorem dL_law_606 : decode cL_law 606 = .ok (.aload_n 0, 1) := by decide +kernel
theorem dL_law_607 : decode cL_law 607 = .ok (.iload_n 3, 1) := by decide +kernel
theorem dL_law_608 : decode cL_law 608 = .ok (.iconst 2, 1) := by decide +kernel
theorem dL_law_609 : decode cL_law 609 = .ok (.iadd, 1) := by decide +kernel
theorem dL_law_610 : decode cL_law 610 = .ok (.iaload, 1) := by decide +kernel
theorem dL_law_611 : decode cL_law 611 = .ok (.aload_n 0, 1) := by decide +kernel
theorem dL_law_612 : decode cL_law 612 = .ok (.iload_n 3, 1) := by decide +kernel
theorem dL_law_613 : decode cL_law 613 = .ok (.iconst 3, 1) := by decide +kernel
theorem dL_law_614 : decode cL_law 614 = .ok (.iadd, 1) := by decide +kernel
theorem dL_law_615 : decode cL_law 615 = .ok (.iaload, 1) := by decide +kernel
theorem dL_law_616 : decode cL_law 616 = .ok (.aload_n 0, 1) := by decide +kernel
theorem dL_law_617 : decode cL_law 617 = .ok (.iload_n 3, 1) := by decide +kernel
theorem dL_law_618 : decode cL_law 618 = .ok (.iconst 4, 1) := by decide +kernel
theorem dL_law_619 : decode cL_law 619 = .ok (.iadd, 1) := by decide +kernel
theorem dL_law_620 : decode cL_law 620 = .ok (.iaload, 1) := by decide +kernel
theorem dL_law_621 : decode cL_law 621 = .ok (.invokevirtual 59, 3) := by decide +kernel
theorem dL_law_624 : decode cL_law 624 = .ok (.aload_n 2, 1) := by decide +kernel
theorem dL_law_625 : decode cL_law 625 = .ok (.aload_n 0, 1) := by decide +kernel
theorem dL_law_626 : decode cL_law 626 = .ok (.iload_n 3, 1) := by decide +kernel
theorem dL_law_627 : decode cL_law 627 = .ok (.iconst 1, 1) := by decide +kernel
theorem dL_law_628 : decode cL_law 628 = .ok (.iadd, 1) := by decide +kernel
theorem dL_law_629 : decode cL_law 629 = .ok (.iaload, 1) := by decide +kernel
theorem dL_law_630 : decode cL_law 630 = .ok (.aload_n 0, 1) := by decide +kernel
theorem dL_law_631 : decode cL_law 631 = .ok (.iload_n 3, 1) := by decide +kernel
theorem dL_law_632 : decode cL_law 632 = .ok (.iconst 2, 1) := by decide +kernel
theorem dL_law_633 : decode cL_law 633 = .ok (.iadd, 1) := by decide +kernel
theorem dL_law_634 : decode cL_law 634 = .ok (.iaload, 1) := by decide +kernel
theorem dL_law_635 : decode cL_law 635 = .ok (.aload_n 0, 1) := by decide +kernel
theorem dL_law_636 : decode cL_law 636 = .ok (.iload_n 3, 1) := by decide +kernel
theorem dL_law_637 : decode cL_law 637 = .ok (.iconst 3, 1) := by decide +kernel
theorem dL_law_638 : decode cL_law 638 = .ok (.iadd, 1) := by decide +kernel
theorem dL_law_639 : decode cL_law 639 = .ok (.iaload, 1) := by decide +kernel
theorem dL_law_640 : decode cL_law 640 = .ok (.aload_n 0, 1) := by decide +kernel
theorem dL_law_641 : decode cL_law 641 = .ok (.iload_n 3, 1) := by decide +kernel
theorem dL_law_642 : decode cL_law 642 = .ok (.iconst 4, 1) := by decide +kernel
theorem dL_law_643 : decode cL_law 643 = .ok (.iadd, 1) := by decide +kernel
theorem dL_law_644 : decode cL_law 644 = .ok (.iaload, 1) := by decide +kernel
theorem dL_law_645 : decode cL_law 645 = .ok (.invokevirtual 63, 3) := by decide +kernel
theorem dL_law_648 : decode cL_law 648 = .ok (.if_icmp .eq 1317, 3) := by decide +kernel
theorem dL_law_651 : decode cL_law 651 = .ok (.iconst 0, 1) := by decide +kernel
theorem dL_law_652 : decode cL_law 652 = .ok (.ireturn, 1) := by decide +kernel
theorem dL_law_653 : decode cL_law 653 = .ok (.aload_n 1, 1) := by decide +kernel
theorem dL_law_654 : decode cL_law 654 = .ok (.aload_n 0, 1) := by decide +kernel
theorem dL_law_655 : decode cL_law 655 = .ok (.iload_n 3, 1) := by decide +kernel
theorem dL_law_656 : decode cL_law 656 = .ok (.iconst 1, 1) := by decide +kernel
theorem dL_law_657 : decode cL_law 657 = .ok (.iadd, 1) := by decide +kernel
theorem dL_law_658 : decode cL_law 658 = .ok (.iaload, 1) := by decide +kernel
theorem dL_law_659 : decode cL_law 659 = .ok (.aload_n 0, 1) := by decide +kernel
theorem dL_law_660 : decode cL_law 660 = .ok (.iload_n 3, 1) := by decide +kernel
theorem dL_law_661 : decode cL_law 661 = .ok (.iconst 2, 1) := by decide +kernel
theorem dL_law_662 : decode cL_law 662 = .ok (.iadd, 1) := by decide +kernel
theorem dL_law_663 : decode cL_law 663 = .ok (.iaload, 1) := by decide +kernel
theorem dL_law_664 : decode cL_law 664 = .ok (.aload_n 0, 1) := by decide +kernel
theorem dL_law_665 : decode cL_law 665 = .ok (.iload_n 3, 1) := by decide +kernel
theorem dL_law_666 : decode cL_law 666 = .ok (.iconst 3, 1) := by decide +kernel
theorem dL_law_667 : decode cL_law 667 = .ok (.iadd, 1) := by decide +kernel
theorem dL_law_668 : decode cL_law 668 = .ok (.iaload, 1) := by decide +kernel
theorem dL_law_669 : decode cL_law 669 = .ok (.aload_n 0, 1) := by decide +kernel
theorem dL_law_670 : decode cL_law 670 = .ok (.iload_n 3, 1) := by decide +kernel
theorem dL_law_671 : decode cL_law 671 = .ok (.iconst 4, 1) := by decide +kernel
theorem dL_law_672 : decode cL_law 672 = .ok (.iadd, 1) := by decide +kernel
theorem dL_law_673 : decode cL_law 673 = .ok (.iaload, 1) := by decide +kernel
theorem dL_law_674 : decode cL_law 674 = .ok (.aload_n 0, 1) := by decide +kernel
theorem dL_law_675 : decode cL_law 675 = .ok (.iload_n 3, 1) := by decide +kernel
theorem dL_law_676 : decode cL_law 676 = .ok (.iconst 5, 1) := by decide +kernel
theorem dL_law_677 : decode cL_law 677 = .ok (.iadd, 1) := by decide +kernel
theorem dL_law_678 : decode cL_law 678 = .ok (.iaload, 1) := by decide +kernel
theorem dL_law_679 : decode cL_law 679 = .ok (.invokevirtual 64, 3) := by decide +kernel
theorem dL_law_682 : decode cL_law 682 = .ok (.aload_n 2, 1) := by decide +kernel
theorem dL_law_683 : decode cL_law 683 = .ok (.aload_n 0, 1) := by decide +kernel
theorem dL_law_684 : decode cL_law 684 = .ok (.iload_n 3, 1) := by decide +kernel
theorem dL_law_685 : decode cL_law 685 = .ok (.iconst 1, 1) := by decide +kernel
theorem dL_law_686 : decode cL_law 686 = .ok (.iadd, 1) := by decide +kernel
theorem dL_law_687 : decode cL_law 687 = .ok (.iaload, 1) := by decide +kernel
theorem dL_law_688 : decode cL_law 688 = .ok (.aload_n 0, 1) := by decide +kernel
theorem dL_law_689 : decode cL_law 689 = .ok (.iload_n 3, 1) := by decide +kernel
theorem dL_law_690 : decode cL_law 690 = .ok (.iconst 2, 1) := by decide +kernel
theorem dL_law_691 : decode cL_law 691 = .ok (.iadd, 1) := by decide +kernel
theorem dL_law_692 : decode cL_law 692 = .ok (.iaload, 1) := by decide +kernel
theorem dL_law_693 : decode cL_law 693 = .ok (.aload_n 0, 1) := by decide +kernel
theorem dL_law_694 : decode cL_law 694 = .ok (.iload_n 3, 1) := by decide +kernel
theorem dL_law_695 : decode cL_law 695 = .ok (.iconst 3, 1) := by decide +kernel
theorem dL_law_696 : decode cL_law 696 = .ok (.iadd, 1) := by decide +kernel
theorem dL_law_697 : decode cL_law 697 = .ok (.iaload, 1) := by decide +kernel
theorem dL_law_698 : decode cL_law 698 = .ok (.aload_n 0, 1) := by decide +kernel
theorem dL_law_699 : decode cL_law 699 = .ok (.iload_n 3, 1) := by decide +kernel
theorem dL_law_700 : decode cL_law 700 = .ok (.iconst 4, 1) := by decide +kernel
theorem dL_law_701 : decode cL_law 701 = .ok (.iadd, 1) := by decide +kernel
theorem dL_law_702 : decode cL_law 702 = .ok (.iaload, 1) := by decide +kernel
theorem dL_law_703 : decode cL_law 703 = .ok (.aload_n 0, 1) := by decide +kernel
theorem dL_law_704 : decode cL_law 704 = .ok (.iload_n 3, 1) := by decide +kernel
theorem dL_law_705 : decode cL_law 705 = .ok (.iconst 5, 1) := by decide +kernel
theorem dL_law_706 : decode cL_law 706 = .ok (.iadd, 1) := by decide +kernel
theorem dL_law_707 : decode cL_law 707 = .ok (.iaload, 1) := by decide +kernel
theorem dL_law_708 : decode cL_law 708 = .ok (.invokevirtual 68, 3) := by decide +kernel
theorem dL_law_711 : decode cL_law 711 = .ok (.if_icmp .eq 1254, 3) := by decide +kernel
theorem dL_law_714 : decode cL_law 714 = .ok (.iconst 0, 1) := by decide +kernel
theorem dL_law_715 : decode cL_law 715 = .ok (.ireturn, 1) := by decide +kernel
theorem dL_law_716 : decode cL_law 716 = .ok (.aload_n 1, 1) := by decide +kernel
theorem dL_law_717 : decode cL_law 717 = .ok (.aload_n 0, 1) := by decide +kernel
theorem dL_law_718 : decode cL_law 718 = .ok (.iload_n 3, 1) := by decide +kernel
theorem dL_law_719 : decode cL_law 719 = .ok (.iconst 1, 1) := by decide +kernel
theorem dL_law_720 : decode cL_law 720 = .ok (.iadd, 1) := by decide +kernel
theorem dL_law_721 : decode cL_law 721 = .ok (.iaload, 1) := by decide +kernel
theorem dL_law_722 : decode cL_law 722 = .ok (.aload_n 0, 1) := by decide +kernel
theorem dL_law_723 : decode cL_law 723 = .ok (.iload_n 3, 1) := by decide +kernel
theorem dL_law_724 : decode cL_law 724 = .ok (.iconst 2, 1) := by decide +kernel
theorem dL_law_725 : decode cL_law 725 = .ok (.iadd, 1) := by decide +kernel
theorem dL_law_726 : decode cL_law 726 = .ok (.iaload, 1) := by decide +kernel
theorem dL_law_727 : decode cL_law 727 = .ok (.invokevirtual 69, 3) := by decide +kernel
theorem dL_law_730 : decode cL_law 730 = .ok (.aload_n 2, 1) := by decide +kernel
theorem dL_law_731 : decode cL_law 731 = .ok (.aload_n 0, 1) := by decide +kernel
theorem dL_law_732 : decode cL_law 732 = .ok (.iload_n 3, 1) := by decide +kernel
theorem dL_law_733 : decode cL_law 733 = .ok (.iconst 1, 1) := by decide +kernel
theorem dL_law_734 : decode cL_law 734 = .ok (.iadd, 1) := by decide +kernel
theorem dL_law_735 : decode cL_law 735 = .ok (.iaload, 1) := by decide +kernel
theorem dL_law_736 : decode cL_law 736 = .ok (.aload_n 0, 1) := by decide +kernel
theorem dL_law_737 : decode cL_law 737 = .ok (.iload_n 3, 1) := by decide +kernel
theorem dL_law_738 : decode cL_law 738 = .ok (.iconst 2, 1) := by decide +kernel
theorem dL_law_739 : decode cL_law 739 = .ok (.iadd, 1) := by decide +kernel
theorem dL_law_740 : decode cL_law 740 = .ok (.iaload, 1) := by decide +kernel
theorem dL_law_741 : decode cL_law 741 = .ok (.invokevirtual 72, 3) := by decide +kernel
theorem dL_law_744 : decode cL_law 744 = .ok (.if_icmp .eq 1221, 3) := by decide +kernel
theorem dL_law_747 : decode cL_law 747 = .ok (.iconst 0, 1) := by decide +kernel
theorem dL_law_748 : decode cL_law 748 = .ok (.ireturn, 1) := by decide +kernel
theorem dL_law_749 : decode cL_law 749 = .ok (.aload_n 1, 1) := by decide +kernel
theorem dL_law_750 : decode cL_law 750 = .ok (.aload_n 0, 1) := by decide +kernel
theorem dL_law_751 : decode cL_law 751 = .ok (.iload_n 3, 1) := by decide +kernel
theorem dL_law_752 : decode cL_law 752 = .ok (.iconst 1, 1) := by decide +kernel
theorem dL_law_753 : decode cL_law 753 = .ok (.iadd, 1) := by decide +kernel
theorem dL_law_754 : decode cL_law 754 = .ok (.iaload, 1) := by decide +kernel
theorem dL_law_755 : decode cL_law 755 = .ok (.invokevirtual 73, 3) := by decide +kernel
theorem dL_law_758 : decode cL_law 758 = .ok (.aload_n 2, 1) := by decide +kernel
theorem dL_law_759 : decode cL_law 759 = .ok (.aload_n 0, 1) := by decide +kernel
theorem dL_law_760 : decode cL_law 760 = .ok (.iload_n 3, 1) := by decide +kernel
theorem dL_law_761 : decode cL_law 761 = .ok (.iconst 1, 1) := by decide +kernel
theorem dL_law_762 : decode cL_law 762 = .ok (.iadd, 1) := by decide +kernel
theorem dL_law_763 : decode cL_law 763 = .ok (.iaload, 1) := by decide +kernel
theorem dL_law_764 : decode cL_law 764 = .ok (.invokevirtual 76, 3) := by decide +kernel
theorem dL_law_767 : decode cL_law 767 = .ok (.if_icmp .eq 1198, 3) := by decide +kernel
theorem dL_law_770 : decode cL_law 770 = .ok (.iconst 0, 1) := by decide +kernel
theorem dL_law_771 : decode cL_law 771 = .ok (.ireturn, 1) := by decide +kernel
theorem dL_law_772 : decode cL_law 772 = .ok (.aload_n 1, 1) := by decide +kernel
theorem dL_law_773 : decode cL_law 773 = .ok (.aload_n 0, 1) := by decide +kernel
theorem dL_law_774 : decode cL_law 774 = .ok (.iload_n 3, 1) := by decide +kernel
theorem dL_law_775 : decode cL_law 775 = .ok (.iconst 1, 1) := by decide +kernel
theorem dL_law_776 : decode cL_law 776 = .ok (.iadd, 1) := by decide +kernel
theorem dL_law_777 : decode cL_law 777 = .ok (.iaload, 1) := by decide +kernel
theorem dL_law_778 : decode cL_law 778 = .ok (.aload_n 0, 1) := by decide +kernel
theorem dL_law_779 : decode cL_law 779 = .ok (.iload_n 3, 1) := by decide +kernel
theorem dL_law_780 : decode cL_law 780 = .ok (.iconst 2, 1) := by decide +kernel
theorem dL_law_781 : decode cL_law 781 = .ok (.iadd, 1) := by decide +kernel
theorem dL_law_782 : decode cL_law 782 = .ok (.iaload, 1) := by decide +kernel
theorem dL_law_783 : decode cL_law 783 = .ok (.aload_n 0, 1) := by decide +kernel
theorem dL_law_784 : decode cL_law 784 = .ok (.iload_n 3, 1) := by decide +kernel
theorem dL_law_785 : decode cL_law 785 = .ok (.iconst 3, 1) := by decide +kernel
theorem dL_law_786 : decode cL_law 786 = .ok (.iadd, 1) := by decide +kernel
theorem dL_law_787 : decode cL_law 787 = .ok (.iaload, 1) := by decide +kernel
theorem dL_law_788 : decode cL_law 788 = .ok (.invokevirtual 77, 3) := by decide +kernel
theorem dL_law_791 : decode cL_law 791 = .ok (.aload_n 2, 1) := by decide +kernel
theorem dL_law_792 : decode cL_law 792 = .ok (.aload_n 0, 1) := by decide +kernel
theorem dL_law_793 : decode cL_law 793 = .ok (.iload_n 3, 1) := by decide +kernel
theorem dL_law_794 : decode cL_law 794 = .ok (.iconst 1, 1) := by decide +kernel
theorem dL_law_795 : decode cL_law 795 = .ok (.iadd, 1) := by decide +kernel
theorem dL_law_796 : decode cL_law 796 = .ok (.iaload, 1) := by decide +kernel
theorem dL_law_797 : decode cL_law 797 = .ok (.aload_n 0, 1) := by decide +kernel
theorem dL_law_798 : decode cL_law 798 = .ok (.iload_n 3, 1) := by decide +kernel
theorem dL_law_799 : decode cL_law 799 = .ok (.iconst 2, 1) := by decide +kernel
theorem dL_law_800 : decode cL_law 800 = .ok (.iadd, 1) := by decide +kernel
theorem dL_law_801 : decode cL_law 801 = .ok (.iaload, 1) := by decide +kernel
theorem dL_law_802 : decode cL_law 802 = .ok (.aload_n 0, 1) := by decide +kernel
theorem dL_law_803 : decode cL_law 803 = .ok (.iload_n 3, 1) := by decide +kernel
theorem dL_law_804 : decode cL_law 804 = .ok (.iconst 3, 1) := by decide +kernel
theorem dL_law_805 : decode cL_law 805 = .ok (.iadd, 1) := by decide +kernel
theorem dL_law_806 : decode cL_law 806 = .ok (.iaload, 1) := by decide +kernel
theorem dL_law_807 : decode cL_law 807 = .ok (.invokevirtual 80, 3) := by decide +kernel
theorem dL_law_810 : decode cL_law 810 = .ok (.if_icmp .eq 1155, 3) := by decide +kernel
theorem dL_law_813 : decode cL_law 813 = .ok (.iconst 0, 1) := by decide +kernel
theorem dL_law_814 : decode cL_law 814 = .ok (.ireturn, 1) := by decide +kernel
theorem dL_law_815 : decode cL_law 815 = .ok (.aload_n 1, 1) := by decide +kernel
theorem dL_law_816 : decode cL_law 816 = .ok (.aload_n 0, 1) := by decide +kernel
theorem dL_law_817 : decode cL_law 817 = .ok (.iload_n 3, 1) := by decide +kernel
theorem dL_law_818 : decode cL_law 818 = .ok (.iconst 1, 1) := by decide +kernel
theorem dL_law_819 : decode cL_law 819 = .ok (.iadd, 1) := by decide +kernel
theorem dL_law_820 : decode cL_law 820 = .ok (.iaload, 1) := by decide +kernel
theorem dL_law_821 : decode cL_law 821 = .ok (.aload_n 0, 1) := by decide +kernel
theorem dL_law_822 : decode cL_law 822 = .ok (.iload_n 3, 1) := by decide +kernel
theorem dL_law_823 : decode cL_law 823 = .ok (.iconst 2, 1) := by decide +kernel
theorem dL_law_824 : decode cL_law 824 = .ok (.iadd, 1) := by decide +kernel
theorem dL_law_825 : decode cL_law 825 = .ok (.iaload, 1) := by decide +kernel
theorem dL_law_826 : decode cL_law 826 = .ok (.aload_n 0, 1) := by decide +kernel
theorem dL_law_827 : decode cL_law 827 = .ok (.iload_n 3, 1) := by decide +kernel
theorem dL_law_828 : decode cL_law 828 = .ok (.iconst 3, 1) := by decide +kernel
theorem dL_law_829 : decode cL_law 829 = .ok (.iadd, 1) := by decide +kernel
theorem dL_law_830 : decode cL_law 830 = .ok (.iaload, 1) := by decide +kernel
theorem dL_law_831 : decode cL_law 831 = .ok (.invokevirtual 81, 3) := by decide +kernel
theorem dL_law_834 : decode cL_law 834 = .ok (.aload_n 2, 1) := by decide +kernel
theorem dL_law_835 : decode cL_law 835 = .ok (.aload_n 0, 1) := by decide +kernel
theorem dL_law_836 : decode cL_law 836 = .ok (.iload_n 3, 1) := by decide +kernel
theorem dL_law_837 : decode cL_law 837 = .ok (.iconst 1, 1) := by decide +kernel
theorem dL_law_838 : decode cL_law 838 = .ok (.iadd, 1) := by decide +kernel
theorem dL_law_839 : decode cL_law 839 = .ok (.iaload, 1) := by decide +kernel
theorem dL_law_840 : decode cL_law 840 = .ok (.aload_n 0, 1) := by decide +kernel
theorem dL_law_841 : decode cL_law 841 = .ok (.iload_n 3, 1) := by decide +kernel
theorem dL_law_842 : decode cL_law 842 = .ok (.iconst 2, 1) := by decide +kernel
theorem dL_law_843 : decode cL_law 843 = .ok (.iadd, 1) := by decide +kernel
theorem dL_law_844 : decode cL_law 844 = .ok (.iaload, 1) := by decide +kernel
theorem dL_law_845 : decode cL_law 845 = .ok (.aload_n 0, 1) := by decide +kernel
theorem dL_law_846 : decode cL_law 846 = .ok (.iload_n 3, 1) := by decide +kernel
theorem dL_law_847 : decode cL_law 847 = .ok (.iconst 3, 1) := by decide +kernel
theorem dL_law_848 : decode cL_law 848 = .ok (.iadd, 1) := by decide +kernel
theorem dL_law_849 : decode cL_law 849 = .ok (.iaload, 1) := by decide +kernel
theorem dL_law_850 : decode cL_law 850 = .ok (.invokevirtual 84, 3) := by decide +kernel
theorem dL_law_853 : decode cL_law 853 = .ok (.if_icmp .eq 1112, 3) := by decide +kernel
theorem dL_law_856 : decode cL_law 856 = .ok (.iconst 0, 1) := by decide +kernel
theorem dL_law_857 : decode cL_law 857 = .ok (.ireturn, 1) := by decide +kernel
theorem dL_law_858 : decode cL_law 858 = .ok (.aload_n 1, 1) := by decide +kernel
theorem dL_law_859 : decode cL_law 859 = .ok (.aload_n 0, 1) := by decide +kernel
theorem dL_law_860 : decode cL_law 860 = .ok (.iload_n 3, 1) := by decide +kernel
theorem dL_law_861 : decode cL_law 861 = .ok (.iconst 1, 1) := by decide +kernel
theorem dL_law_862 : decode cL_law 862 = .ok (.iadd, 1) := by decide +kernel
theorem dL_law_863 : decode cL_law 863 = .ok (.iaload, 1) := by decide +kernel
theorem dL_law_864 : decode cL_law 864 = .ok (.invokevirtual 85, 3) := by decide +kernel
theorem dL_law_867 : decode cL_law 867 = .ok (.aload_n 2, 1) := by decide +kernel
theorem dL_law_868 : decode cL_law 868 = .ok (.aload_n 0, 1) := by decide +kernel
theorem dL_law_869 : decode cL_law 869 = .ok (.iload_n 3, 1) := by decide +kernel
theorem dL_law_870 : decode cL_law 870 = .ok (.iconst 1, 1) := by decide +kernel
theorem dL_law_871 : decode cL_law 871 = .ok (.iadd, 1) := by decide +kernel
theorem dL_law_872 : decode cL_law 872 = .ok (.iaload, 1) := by decide +kernel
theorem dL_law_873 : decode cL_law 873 = .ok (.invokevirtual 88, 3) := by decide +kernel
theorem dL_law_876 : decode cL_law 876 = .ok (.if_icmp .eq 1089, 3) := by decide +kernel
theorem dL_law_879 : decode cL_law 879 = .ok (.iconst 0, 1) := by decide +kernel
theorem dL_law_880 : decode cL_law 880 = .ok (.ireturn, 1) := by decide +kernel
theorem dL_law_881 : decode cL_law 881 = .ok (.aload_n 1, 1) := by decide +kernel
theorem dL_law_882 : decode cL_law 882 = .ok (.aload_n 0, 1) := by decide +kernel
theorem dL_law_883 : decode cL_law 883 = .ok (.iload_n 3, 1) := by decide +kernel
theorem dL_law_884 : decode cL_law 884 = .ok (.iconst 1, 1) := by decide +kernel
theorem dL_law_885 : decode cL_law 885 = .ok (.iadd, 1) := by decide +kernel
theorem dL_law_886 : decode cL_law 886 = .ok (.iaload, 1) := by decide +kernel
theorem dL_law_887 : decode cL_law 887 = .ok (.aload_n 0, 1) := by decide +kernel
theorem dL_law_888 : decode cL_law 888 = .ok (.iload_n 3, 1) := by decide +kernel
theorem dL_law_889 : decode cL_law 889 = .ok (.iconst 2, 1) := by decide +kernel
theorem dL_law_890 : decode cL_law 890 = .ok (.iadd, 1) := by decide +kernel
theorem dL_law_891 : decode cL_law 891 = .ok (.iaload, 1) := by decide +kernel
theorem dL_law_892 : decode cL_law 892 = .ok (.invokevirtual 89, 3) := by decide +kernel
theorem dL_law_895 : decode cL_law 895 = .ok (.aload_n 2, 1) := by decide +kernel
theorem dL_law_896 : decode cL_law 896 = .ok (.aload_n 0, 1) := by decide +kernel
theorem dL_law_897 : decode cL_law 897 = .ok (.iload_n 3, 1) := by decide +kernel
theorem dL_law_898 : decode cL_law 898 = .ok (.iconst 1, 1) := by decide +kernel
theorem dL_law_899 : decode cL_law 899 = .ok (.iadd, 1) := by decide +kernel
theorem dL_law_900 : decode cL_law 900 = .ok (.iaload, 1) := by decide +kernel
theorem dL_law_901 : decode cL_law 901 = .ok (.aload_n 0, 1) := by decide +kernel
theorem dL_law_902 : decode cL_law 902 = .ok (.iload_n 3, 1) := by decide +kernel
theorem dL_law_903 : decode cL_law 903 = .ok (.iconst 2, 1) := by decide +kernel
theorem dL_law_904 : decode cL_law 904 = .ok (.iadd, 1) := by decide +kernel
theorem dL_law_905 : decode cL_law 905 = .ok (.iaload, 1) := by decide +kernel
theorem dL_law_906 : decode cL_law 906 = .ok (.invokevirtual 92, 3) := by decide +kernel
theorem dL_law_909 : decode cL_law 909 = .ok (.if_icmp .eq 1056, 3) := by decide +kernel
theorem dL_law_912 : decode cL_law 912 = .ok (.iconst 0, 1) := by decide +kernel
theorem dL_law_913 : decode cL_law 913 = .ok (.ireturn, 1) := by decide +kernel
theorem dL_law_914 : decode cL_law 914 = .ok (.aload_n 1, 1) := by decide +kernel
theorem dL_law_915 : decode cL_law 915 = .ok (.aload_n 0, 1) := by decide +kernel
theorem dL_law_916 : decode cL_law 916 = .ok (.iload_n 3, 1) := by decide +kernel
theorem dL_law_917 : decode cL_law 917 = .ok (.iconst 1, 1) := by decide +kernel
theorem dL_law_918 : decode cL_law 918 = .ok (.iadd, 1) := by decide +kernel
theorem dL_law_919 : decode cL_law 919 = .ok (.iaload, 1) := by decide +kernel
theorem dL_law_920 : decode cL_law 920 = .ok (.aload_n 0, 1) := by decide +kernel
theorem dL_law_921 : decode cL_law 921 = .ok (.iload_n 3, 1) := by decide +kernel
theorem dL_law_922 : decode cL_law 922 = .ok (.iconst 2, 1) := by decide +kernel
theorem dL_law_923 : decode cL_law 923 = .ok (.iadd, 1) := by decide +kernel
theorem dL_law_924 : decode cL_law 924 = .ok (.iaload, 1) := by decide +kernel
theorem dL_law_925 : decode cL_law 925 = .ok (.aload_n 0, 1) := by decide +kernel
theorem dL_law_926 : decode cL_law 926 = .ok (.iload_n 3, 1) := by decide +kernel
theorem dL_law_927 : decode cL_law 927 = .ok (.iconst 3, 1) := by decide +kernel
theorem dL_law_928 : decode cL_law 928 = .ok (.iadd, 1) := by decide +kernel
theorem dL_law_929 : decode cL_law 929 = .ok (.iaload, 1) := by decide +kernel
theorem dL_law_930 : decode cL_law 930 = .ok (.invokevirtual 93, 3) := by decide +kernel
theorem dL_law_933 : decode cL_law 933 = .ok (.aload_n 2, 1) := by decide +kernel
theorem dL_law_934 : decode cL_law 934 = .ok (.aload_n 0, 1) := by decide +kernel
theorem dL_law_935 : decode cL_law 935 = .ok (.iload_n 3, 1) := by decide +kernel
theorem dL_law_936 : decode cL_law 936 = .ok (.iconst 1, 1) := by decide +kernel
theorem dL_law_937 : decode cL_law 937 = .ok (.iadd, 1) := by decide +kernel
theorem dL_law_938 : decode cL_law 938 = .ok (.iaload, 1) := by decide +kernel
theorem dL_law_939 : decode cL_law 939 = .ok (.aload_n 0, 1) := by decide +kernel
theorem dL_law_940 : decode cL_law 940 = .ok (.iload_n 3, 1) := by decide +kernel
theorem dL_law_941 : decode cL_law 941 = .ok (.iconst 2, 1) := by decide +kernel
theorem dL_law_942 : decode cL_law 942 = .ok (.iadd, 1) := by decide +kernel
theorem dL_law_943 : decode cL_law 943 = .ok (.iaload, 1) := by decide +kernel
theorem dL_law_944 : decode cL_law 944 = .ok (.aload_n 0, 1) := by decide +kernel
theorem dL_law_945 : decode cL_law 945 = .ok (.iload_n 3, 1) := by decide +kernel
theorem dL_law_946 : decode cL_law 946 = .ok (.iconst 3, 1) := by decide +kernel
theorem dL_law_947 : decode cL_law 947 = .ok (.iadd, 1) := by decide +kernel
theorem dL_law_948 : decode cL_law 948 = .ok (.iaload, 1) := by decide +kernel
theorem dL_law_949 : decode cL_law 949 = .ok (.invokevirtual 96, 3) := by decide +kernel
theorem dL_law_952 : decode cL_law 952 = .ok (.if_icmp .eq 1013, 3) := by decide +kernel
theorem dL_law_955 : decode cL_law 955 = .ok (.iconst 0, 1) := by decide +kernel
theorem dL_law_956 : decode cL_law 956 = .ok (.ireturn, 1) := by decide +kernel
theorem dL_law_957 : decode cL_law 957 = .ok (.aload_n 1, 1) := by decide +kernel
theorem dL_law_958 : decode cL_law 958 = .ok (.aload_n 0, 1) := by decide +kernel
theorem dL_law_959 : decode cL_law 959 = .ok (.iload_n 3, 1) := by decide +kernel
theorem dL_law_960 : decode cL_law 960 = .ok (.iconst 1, 1) := by decide +kernel
theorem dL_law_961 : decode cL_law 961 = .ok (.iadd, 1) := by decide +kernel
theorem dL_law_962 : decode cL_law 962 = .ok (.iaload, 1) := by decide +kernel
theorem dL_law_963 : decode cL_law 963 = .ok (.invokevirtual 97, 3) := by decide +kernel
theorem dL_law_966 : decode cL_law 966 = .ok (.aload_n 2, 1) := by decide +kernel
theorem dL_law_967 : decode cL_law 967 = .ok (.aload_n 0, 1) := by decide +kernel
theorem dL_law_968 : decode cL_law 968 = .ok (.iload_n 3, 1) := by decide +kernel
theorem dL_law_969 : decode cL_law 969 = .ok (.iconst 1, 1) := by decide +kernel
theorem dL_law_970 : decode cL_law 970 = .ok (.iadd, 1) := by decide +kernel
theorem dL_law_971 : decode cL_law 971 = .ok (.iaload, 1) := by decide +kernel
theorem dL_law_972 : decode cL_law 972 = .ok (.invokevirtual 100, 3) := by decide +kernel
theorem dL_law_975 : decode cL_law 975 = .ok (.if_icmp .eq 990, 3) := by decide +kernel
theorem dL_law_978 : decode cL_law 978 = .ok (.iconst 0, 1) := by decide +kernel
theorem dL_law_979 : decode cL_law 979 = .ok (.ireturn, 1) := by decide +kernel
theorem dL_law_980 : decode cL_law 980 = .ok (.aload_n 1, 1) := by decide +kernel
theorem dL_law_981 : decode cL_law 981 = .ok (.aload_n 0, 1) := by decide +kernel
theorem dL_law_982 : decode cL_law 982 = .ok (.iload_n 3, 1) := by decide +kernel
theorem dL_law_983 : decode cL_law 983 = .ok (.iconst 1, 1) := by decide +kernel
theorem dL_law_984 : decode cL_law 984 = .ok (.iadd, 1) := by decide +kernel
theorem dL_law_985 : decode cL_law 985 = .ok (.iaload, 1) := by decide +kernel
theorem dL_law_986 : decode cL_law 986 = .ok (.aload_n 0, 1) := by decide +kernel
theorem dL_law_987 : decode cL_law 987 = .ok (.iload_n 3, 1) := by decide +kernel
theorem dL_law_988 : decode cL_law 988 = .ok (.iconst 2, 1) := by decide +kernel
theorem dL_law_989 : decode cL_law 989 = .ok (.iadd, 1) := by decide +kernel
theorem dL_law_990 : decode cL_law 990 = .ok (.iaload, 1) := by decide +kernel
theorem dL_law_991 : decode cL_law 991 = .ok (.aload_n 0, 1) := by decide +kernel
theorem dL_law_992 : decode cL_law 992 = .ok (.iload_n 3, 1) := by decide +kernel
theorem dL_law_993 : decode cL_law 993 = .ok (.iconst 3, 1) := by decide +kernel
theorem dL_law_994 : decode cL_law 994 = .ok (.iadd, 1) := by decide +kernel
theorem dL_law_995 : decode cL_law 995 = .ok (.iaload, 1) := by decide +kernel
theorem dL_law_996 : decode cL_law 996 = .ok (.invokevirtual 101, 3) := by decide +kernel
theorem dL_law_999 : decode cL_law 999 = .ok (.aload_n 2, 1) := by decide +kernel
theorem dL_law_1000 : decode cL_law 1000 = .ok (.aload_n 0, 1) := by decide +kernel
theorem dL_law_1001 : decode cL_law 1001 = .ok (.iload_n 3, 1) := by decide +kernel
theorem dL_law_1002 : decode cL_law 1002 = .ok (.iconst 1, 1) := by decide +kernel
theorem dL_law_1003 : decode cL_law 1003 = .ok (.iadd, 1) := by decide +kernel
theorem dL_law_1004 : decode cL_law 1004 = .ok (.iaload, 1) := by decide +kernel
theorem dL_law_1005 : decode cL_law 1005 = .ok (.aload_n 0, 1) := by decide +kernel
theorem dL_law_1006 : decode cL_law 1006 = .ok (.iload_n 3, 1) := by decide +kernel
theorem dL_law_1007 : decode cL_law 1007 = .ok (.iconst 2, 1) := by decide +kernel
theorem dL_law_1008 : decode cL_law 1008 = .ok (.iadd, 1) := by decide +kernel
theorem dL_law_1009 : decode cL_law 1009 = .ok (.iaload, 1) := by decide +kernel
theorem dL_law_1010 : decode cL_law 1010 = .ok (.aload_n 0, 1) := by decide +kernel
theorem dL_law_1011 : decode cL_law 1011 = .ok (.iload_n 3, 1) := by decide +kernel
theorem dL_law_1012 : decode cL_law 1012 = .ok (.iconst 3, 1) := by decide +kernel
theorem dL_law_1013 : decode cL_law 1013 = .ok (.iadd, 1) := by decide +kernel
theorem dL_law_1014 : decode cL_law 1014 = .ok (.iaload, 1) := by decide +kernel
theorem dL_law_1015 : decode cL_law 1015 = .ok (.invokevirtual 104, 3) := by decide +kernel
theorem dL_law_1018 : decode cL_law 1018 = .ok (.if_icmp .eq 947, 3) := by decide +kernel
theorem dL_law_1021 : decode cL_law 1021 = .ok (.iconst 0, 1) := by decide +kernel
theorem dL_law_1022 : decode cL_law 1022 = .ok (.ireturn, 1) := by decide +kernel
theorem dL_law_1023 : decode cL_law 1023 = .ok (.aload_n 1, 1) := by decide +kernel
theorem dL_law_1024 : decode cL_law 1024 = .ok (.aload_n 0, 1) := by decide +kernel
theorem dL_law_1025 : decode cL_law 1025 = .ok (.iload_n 3, 1) := by decide +kernel
theorem dL_law_1026 : decode cL_law 1026 = .ok (.iconst 1, 1) := by decide +kernel
theorem dL_law_1027 : decode cL_law 1027 = .ok (.iadd, 1) := by decide +kernel
theorem dL_law_1028 : decode cL_law 1028 = .ok (.iaload, 1) := by decide +kernel
theorem dL_law_1029 : decode cL_law 1029 = .ok (.aload_n 0, 1) := by decide +kernel
theorem dL_law_1030 : decode cL_law 1030 = .ok (.iload_n 3, 1) := by decide +kernel
theorem dL_law_1031 : decode cL_law 1031 = .ok (.iconst 2, 1) := by decide +kernel
theorem dL_law_1032 : decode cL_law 1032 = .ok (.iadd, 1) := by decide +kernel
theorem dL_law_1033 : decode cL_law 1033 = .ok (.iaload, 1) := by decide +kernel
theorem dL_law_1034 : decode cL_law 1034 = .ok (.aload_n 0, 1) := by decide +kernel
theorem dL_law_1035 : decode cL_law 1035 = .ok (.iload_n 3, 1) := by decide +kernel
theorem dL_law_1036 : decode cL_law 1036 = .ok (.iconst 3, 1) := by decide +kernel
theorem dL_law_1037 : decode cL_law 1037 = .ok (.iadd, 1) := by decide +kernel
theorem dL_law_1038 : decode cL_law 1038 = .ok (.iaload, 1) := by decide +kernel
theorem dL_law_1039 : decode cL_law 1039 = .ok (.invokevirtual 105, 3) := by decide +kernel
theorem dL_law_1042 : decode cL_law 1042 = .ok (.aload_n 2, 1) := by decide +kernel
theorem dL_law_1043 : decode cL_law 1043 = .ok (.aload_n 0, 1) := by decide +kernel
theorem dL_law_1044 : decode cL_law 1044 = .ok (.iload_n 3, 1) := by decide +kernel
theorem dL_law_1045 : decode cL_law 1045 = .ok (.iconst 1, 1) := by decide +kernel
theorem dL_law_1046 : decode cL_law 1046 = .ok (.iadd, 1) := by decide +kernel
theorem dL_law_1047 : decode cL_law 1047 = .ok (.iaload, 1) := by decide +kernel
theorem dL_law_1048 : decode cL_law 1048 = .ok (.aload_n 0, 1) := by decide +kernel
theorem dL_law_1049 : decode cL_law 1049 = .ok (.iload_n 3, 1) := by decide +kernel
theorem dL_law_1050 : decode cL_law 1050 = .ok (.iconst 2, 1) := by decide +kernel
theorem dL_law_1051 : decode cL_law 1051 = .ok (.iadd, 1) := by decide +kernel
theorem dL_law_1052 : decode cL_law 1052 = .ok (.iaload, 1) := by decide +kernel
theorem dL_law_1053 : decode cL_law 1053 = .ok (.aload_n 0, 1) := by decide +kernel
theorem dL_law_1054 : decode cL_law 1054 = .ok (.iload_n 3, 1) := by decide +kernel
theorem dL_law_1055 : decode cL_law 1055 = .ok (.iconst 3, 1) := by decide +kernel
theorem dL_law_1056 : decode cL_law 1056 = .ok (.iadd, 1) := by decide +kernel
theorem dL_law_1057 : decode cL_law 1057 = .ok (.iaload, 1) := by decide +kernel
theorem dL_law_1058 : decode cL_law 1058 = .ok (.invokevirtual 108, 3) := by decide +kernel
theorem dL_law_1061 : decode cL_law 1061 = .ok (.if_icmp .eq 904, 3) := by decide +kernel
theorem dL_law_1064 : decode cL_law 1064 = .ok (.iconst 0, 1) := by decide +kernel
theorem dL_law_1065 : decode cL_law 1065 = .ok (.ireturn, 1) := by decide +kernel
theorem dL_law_1066 : decode cL_law 1066 = .ok (.aload_n 1, 1) := by decide +kernel
theorem dL_law_1067 : decode cL_law 1067 = .ok (.aload_n 0, 1) := by decide +kernel
theorem dL_law_1068 : decode cL_law 1068 = .ok (.iload_n 3, 1) := by decide +kernel
theorem dL_law_1069 : decode cL_law 1069 = .ok (.iconst 1, 1) := by decide +kernel
theorem dL_law_1070 : decode cL_law 1070 = .ok (.iadd, 1) := by decide +kernel
theorem dL_law_1071 : decode cL_law 1071 = .ok (.iaload, 1) := by decide +kernel
theorem dL_law_1072 : decode cL_law 1072 = .ok (.aload_n 0, 1) := by decide +kernel
theorem dL_law_1073 : decode cL_law 1073 = .ok (.iload_n 3, 1) := by decide +kernel
theorem dL_law_1074 : decode cL_law 1074 = .ok (.iconst 2, 1) := by decide +kernel
theorem dL_law_1075 : decode cL_law 1075 = .ok (.iadd, 1) := by decide +kernel
theorem dL_law_1076 : decode cL_law 1076 = .ok (.iaload, 1) := by decide +kernel
theorem dL_law_1077 : decode cL_law 1077 = .ok (.aload_n 0, 1) := by decide +kernel
theorem dL_law_1078 : decode cL_law 1078 = .ok (.iload_n 3, 1) := by decide +kernel
theorem dL_law_1079 : decode cL_law 1079 = .ok (.iconst 3, 1) := by decide +kernel
theorem dL_law_1080 : decode cL_law 1080 = .ok (.iadd, 1) := by decide +kernel
theorem dL_law_1081 : decode cL_law 1081 = .ok (.iaload, 1) := by decide +kernel
theorem dL_law_1082 : decode cL_law 1082 = .ok (.aload_n 0, 1) := by decide +kernel
theorem dL_law_1083 : decode cL_law 1083 = .ok (.iload_n 3, 1) := by decide +kernel
theorem dL_law_1084 : decode cL_law 1084 = .ok (.iconst 4, 1) := by decide +kernel
theorem dL_law_1085 : decode cL_law 1085 = .ok (.iadd, 1) := by decide +kernel
theorem dL_law_1086 : decode cL_law 1086 = .ok (.iaload, 1) := by decide +kernel
theorem dL_law_1087 : decode cL_law 1087 = .ok (.invokevirtual 109, 3) := by decide +kernel
theorem dL_law_1090 : decode cL_law 1090 = .ok (.aload_n 2, 1) := by decide +kernel
theorem dL_law_1091 : decode cL_law 1091 = .ok (.aload_n 0, 1) := by decide +kernel
theorem dL_law_1092 : decode cL_law 1092 = .ok (.iload_n 3, 1) := by decide +kernel
theorem dL_law_1093 : decode cL_law 1093 = .ok (.iconst 1, 1) := by decide +kernel
theorem dL_law_1094 : decode cL_law 1094 = .ok (.iadd, 1) := by decide +kernel
theorem dL_law_1095 : decode cL_law 1095 = .ok (.iaload, 1) := by decide +kernel
theorem dL_law_1096 : decode cL_law 1096 = .ok (.aload_n 0, 1) := by decide +kernel
theorem dL_law_1097 : decode cL_law 1097 = .ok (.iload_n 3, 1) := by decide +kernel
theorem dL_law_1098 : decode cL_law 1098 = .ok (.iconst 2, 1) := by decide +kernel
theorem dL_law_1099 : decode cL_law 1099 = .ok (.iadd, 1) := by decide +kernel
theorem dL_law_1100 : decode cL_law 1100 = .ok (.iaload, 1) := by decide +kernel
theorem dL_law_1101 : decode cL_law 1101 = .ok (.aload_n 0, 1) := by decide +kernel
theorem dL_law_1102 : decode cL_law 1102 = .ok (.iload_n 3, 1) := by decide +kernel
theorem dL_law_1103 : decode cL_law 1103 = .ok (.iconst 3, 1) := by decide +kernel
theorem dL_law_1104 : decode cL_law 1104 = .ok (.iadd, 1) := by decide +kernel
theorem dL_law_1105 : decode cL_law 1105 = .ok (.iaload, 1) := by decide +kernel
theorem dL_law_1106 : decode cL_law 1106 = .ok (.aload_n 0, 1) := by decide +kernel
theorem dL_law_1107 : decode cL_law 1107 = .ok (.iload_n 3, 1) := by decide +kernel
theorem dL_law_1108 : decode cL_law 1108 = .ok (.iconst 4, 1) := by decide +kernel
theorem dL_law_1109 : decode cL_law 1109 = .ok (.iadd, 1) := by decide +kernel
theorem dL_law_1110 : decode cL_law 1110 = .ok (.iaload, 1) := by decide +kernel
theorem dL_law_1111 : decode cL_law 1111 = .ok (.invokevirtual 112, 3) := by decide +kernel
theorem dL_law_1114 : decode cL_law 1114 = .ok (.if_icmp .eq 851, 3) := by decide +kernel
theorem dL_law_1117 : decode cL_law 1117 = .ok (.iconst 0, 1) := by decide +kernel
theorem dL_law_1118 : decode cL_law 1118 = .ok (.ireturn, 1) := by decide +kernel
theorem dL_law_1119 : decode cL_law 1119 = .ok (.aload_n 1, 1) := by decide +kernel
theorem dL_law_1120 : decode cL_law 1120 = .ok (.aload_n 0, 1) := by decide +kernel
theorem dL_law_1121 : decode cL_law 1121 = .ok (.iload_n 3, 1) := by decide +kernel
theorem dL_law_1122 : decode cL_law 1122 = .ok (.iconst 1, 1) := by decide +kernel
theorem dL_law_1123 : decode cL_law 1123 = .ok (.iadd, 1) := by decide +kernel
theorem dL_law_1124 : decode cL_law 1124 = .ok (.iaload, 1) := by decide +kernel
theorem dL_law_1125 : decode cL_law 1125 = .ok (.aload_n 0, 1) := by decide +kernel
theorem dL_law_1126 : decode cL_law 1126 = .ok (.iload_n 3, 1) := by decide +kernel
theorem dL_law_1127 : decode cL_law 1127 = .ok (.iconst 2, 1) := by decide +kernel
theorem dL_law_1128 : decode cL_law 1128 = .ok (.iadd, 1) := by decide +kernel
theorem dL_law_1129 : decode cL_law 1129 = .ok (.iaload, 1) := by decide +kernel
theorem dL_law_1130 : decode cL_law 1130 = .ok (.aload_n 0, 1) := by decide +kernel
theorem dL_law_1131 : decode cL_law 1131 = .ok (.iload_n 3, 1) := by decide +kernel
theorem dL_law_1132 : decode cL_law 1132 = .ok (.iconst 3, 1) := by decide +kernel
theorem dL_law_1133 : decode cL_law 1133 = .ok (.iadd, 1) := by decide +kernel
theorem dL_law_1134 : decode cL_law 1134 = .ok (.iaload, 1) := by decide +kernel
theorem dL_law_1135 : decode cL_law 1135 = .ok (.invokevirtual 113, 3) := by decide +kernel
theorem dL_law_1138 : decode cL_law 1138 = .ok (.aload_n 2, 1) := by decide +kernel
theorem dL_law_1139 : decode cL_law 1139 = .ok (.aload_n 0, 1) := by decide +kernel
theorem dL_law_1140 : decode cL_law 1140 = .ok (.iload_n 3, 1) := by decide +kernel
theorem dL_law_1141 : decode cL_law 1141 = .ok (.iconst 1, 1) := by decide +kernel
theorem dL_law_1142 : decode cL_law 1142 = .ok (.iadd, 1) := by decide +kernel
theorem dL_law_1143 : decode cL_law 1143 = .ok (.iaload, 1) := by decide +kernel
theorem dL_law_1144 : decode cL_law 1144 = .ok (.aload_n 0, 1) := by decide +kernel
theorem dL_law_1145 : decode cL_law 1145 = .ok (.iload_n 3, 1) := by decide +kernel
theorem dL_law_1146 : decode cL_law 1146 = .ok (.iconst 2, 1) := by decide +kernel
theorem dL_law_1147 : decode cL_law 1147 = .ok (.iadd, 1) := by decide +kernel
theorem dL_law_1148 : decode cL_law 1148 = .ok (.iaload, 1) := by decide +kernel
theorem dL_law_1149 : decode cL_law 1149 = .ok (.aload_n 0, 1) := by decide +kernel
theorem dL_law_1150 : decode cL_law 1150 = .ok (.iload_n 3, 1) := by decide +kernel
theorem dL_law_1151 : decode cL_law 1151 = .ok (.iconst 3, 1) := by decide +kernel
theorem dL_law_1152 : decode cL_law 1152 = .ok (.iadd, 1) := by decide +kernel
theorem dL_law_1153 : decode cL_law 1153 = .ok (.iaload, 1) := by decide +kernel
theorem dL_law_1154 : decode cL_law 1154 = .ok (.invokevirtual 116, 3) := by decide +kernel
theorem dL_law_1157 : decode cL_law 1157 = .ok (.if_icmp .eq 808, 3) := by decide +kernel
theorem dL_law_1160 : decode cL_law 1160 = .ok (.iconst 0, 1) := by decide +kernel
theorem dL_law_1161 : decode cL_law 1161 = .ok (.ireturn, 1) := by decide +kernel
theorem dL_law_1162 : decode cL_law 1162 = .ok (.aload_n 1, 1) := by decide +kernel
theorem dL_law_1163 : decode cL_law 1163 = .ok (.aload_n 0, 1) := by decide +kernel
theorem dL_law_1164 : decode cL_law 1164 = .ok (.iload_n 3, 1) := by decide +kernel
theorem dL_law_1165 : decode cL_law 1165 = .ok (.iconst 1, 1) := by decide +kernel
theorem dL_law_1166 : decode cL_law 1166 = .ok (.iadd, 1) := by decide +kernel
theorem dL_law_1167 : decode cL_law 1167 = .ok (.iaload, 1) := by decide +kernel
theorem dL_law_1168 : decode cL_law 1168 = .ok (.aload_n 0, 1) := by decide +kernel
theorem dL_law_1169 : decode cL_law 1169 = .ok (.iload_n 3, 1) := by decide +kernel
theorem dL_law_1170 : decode cL_law 1170 = .ok (.iconst 2, 1) := by decide +kernel
theorem dL_law_1171 : decode cL_law 1171 = .ok (.iadd, 1) := by decide +kernel
theorem dL_law_1172 : decode cL_law 1172 = .ok (.iaload, 1) := by decide +kernel
theorem dL_law_1173 : decode cL_law 1173 = .ok (.aload_n 0, 1) := by decide +kernel
theorem dL_law_1174 : decode cL_law 1174 = .ok (.iload_n 3, 1) := by decide +kernel
theorem dL_law_1175 : decode cL_law 1175 = .ok (.iconst 3, 1) := by decide +kernel
theorem dL_law_1176 : decode cL_law 1176 = .ok (.iadd, 1) := by decide +kernel
theorem dL_law_1177 : decode cL_law 1177 = .ok (.iaload, 1) := by decide +kernel
theorem dL_law_1178 : decode cL_law 1178 = .ok (.aload_n 0, 1) := by decide +kernel
theorem dL_law_1179 : decode cL_law 1179 = .ok (.iload_n 3, 1) := by decide +kernel
theorem dL_law_1180 : decode cL_law 1180 = .ok (.iconst 4, 1) := by decide +kernel
theorem dL_law_1181 : decode cL_law 1181 = .ok (.iadd, 1) := by decide +kernel
theorem dL_law_1182 : decode cL_law 1182 = .ok (.iaload, 1) := by decide +kernel
theorem dL_law_1183 : decode cL_law 1183 = .ok (.invokevirtual 117, 3) := by decide +kernel
theorem dL_law_1186 : decode cL_law 1186 = .ok (.aload_n 2, 1) := by decide +kernel
theorem dL_law_1187 : decode cL_law 1187 = .ok (.aload_n 0, 1) := by decide +kernel
theorem dL_law_1188 : decode cL_law 1188 = .ok (.iload_n 3, 1) := by decide +kernel
theorem dL_law_1189 : decode cL_law 1189 = .ok (.iconst 1, 1) := by decide +kernel
theorem dL_law_1190 : decode cL_law 1190 = .ok (.iadd, 1) := by decide +kernel
theorem dL_law_1191 : decode cL_law 1191 = .ok (.iaload, 1) := by decide +kernel
theorem dL_law_1192 : decode cL_law 1192 = .ok (.aload_n 0, 1) := by decide +kernel
theorem dL_law_1193 : decode cL_law 1193 = .ok (.iload_n 3, 1) := by decide +kernel
theorem dL_law_1194 : decode cL_law 1194 = .ok (.iconst 2, 1) := by decide +kernel
theorem dL_law_1195 : decode cL_law 1195 = .ok (.iadd, 1) := by decide +kernel
theorem dL_law_1196 : decode cL_law 1196 = .ok (.iaload, 1) := by decide +kernel
theorem dL_law_1197 : decode cL_law 1197 = .ok (.aload_n 0, 1) := by decide +kernel
theorem dL_law_1198 : decode cL_law 1198 = .ok (.iload_n 3, 1) := by decide +kernel
theorem dL_law_1199 : decode cL_law 1199 = .ok (.iconst 3, 1) := by decide +kernel
theorem dL_law_1200 : decode cL_law 1200 = .ok (.iadd, 1) := by decide +kernel
theorem dL_law_1201 : decode cL_law 1201 = .ok (.iaload, 1) := by decide +kernel
theorem dL_law_1202 : decode cL_law 1202 = .ok (.aload_n 0, 1) := by decide +kernel
theorem dL_law_1203 : decode cL_law 1203 = .ok (.iload_n 3, 1) := by decide +kernel
theorem dL_law_1204 : decode cL_law 1204 = .ok (.iconst 4, 1) := by decide +kernel
theorem dL_law_1205 : decode cL_law 1205 = .ok (.iadd, 1) := by decide +kernel
theorem dL_law_1206 : decode cL_law 1206 = .ok (.iaload, 1) := by decide +kernel
theorem dL_law_1207 : decode cL_law 1207 = .ok (.invokevirtual 120, 3) := by decide +kernel
theorem dL_law_1210 : decode cL_law 1210 = .ok (.if_icmp .eq 755, 3) := by decide +kernel
theorem dL_law_1213 : decode cL_law 1213 = .ok (.iconst 0, 1) := by decide +kernel
theorem dL_law_1214 : decode cL_law 1214 = .ok (.ireturn, 1) := by decide +kernel
theorem dL_law_1215 : decode cL_law 1215 = .ok (.aload_n 1, 1) := by decide +kernel
theorem dL_law_1216 : decode cL_law 1216 = .ok (.aload_n 0, 1) := by decide +kernel
theorem dL_law_1217 : decode cL_law 1217 = .ok (.iload_n 3, 1) := by decide +kernel
theorem dL_law_1218 : decode cL_law 1218 = .ok (.iconst 1, 1) := by decide +kernel
theorem dL_law_1219 : decode cL_law 1219 = .ok (.iadd, 1) := by decide +kernel
theorem dL_law_1220 : decode cL_law 1220 = .ok (.iaload, 1) := by decide +kernel
theorem dL_law_1221 : decode cL_law 1221 = .ok (.aload_n 0, 1) := by decide +kernel
theorem dL_law_1222 : decode cL_law 1222 = .ok (.iload_n 3, 1) := by decide +kernel
theorem dL_law_1223 : decode cL_law 1223 = .ok (.iconst 2, 1) := by decide +kernel
theorem dL_law_1224 : decode cL_law 1224 = .ok (.iadd, 1) := by decide +kernel
theorem dL_law_1225 : decode cL_law 1225 = .ok (.iaload, 1) := by decide +kernel
theorem dL_law_1226 : decode cL_law 1226 = .ok (.aload_n 0, 1) := by decide +kernel
theorem dL_law_1227 : decode cL_law 1227 = .ok (.iload_n 3, 1) := by decide +kernel
theorem dL_law_1228 : decode cL_law 1228 = .ok (.iconst 3, 1) := by decide +kernel
theorem dL_law_1229 : decode cL_law 1229 = .ok (.iadd, 1) := by decide +kernel
theorem dL_law_1230 : decode cL_law 1230 = .ok (.iaload, 1) := by decide +kernel
theorem dL_law_1231 : decode cL_law 1231 = .ok (.aload_n 0, 1) := by decide +kernel
theorem dL_law_1232 : decode cL_law 1232 = .ok (.iload_n 3, 1) := by decide +kernel
theorem dL_law_1233 : decode cL_law 1233 = .ok (.iconst 4, 1) := by decide +kernel
theorem dL_law_1234 : decode cL_law 1234 = .ok (.iadd, 1) := by decide +kernel
theorem dL_law_1235 : decode cL_law 1235 = .ok (.iaload, 1) := by decide +kernel
theorem dL_law_1236 : decode cL_law 1236 = .ok (.aload_n 0, 1) := by decide +kernel
theorem dL_law_1237 : decode cL_law 1237 = .ok (.iload_n 3, 1) := by decide +kernel
theorem dL_law_1238 : decode cL_law 1238 = .ok (.iconst 5, 1) := by decide +kernel
theorem dL_law_1239 : decode cL_law 1239 = .ok (.iadd, 1) := by decide +kernel
theorem dL_law_1240 : decode cL_law 1240 = .ok (.iaload, 1) := by decide +kernel
theorem dL_law_1241 : decode cL_law 1241 = .ok (.invokevirtual 121, 3) := by decide +kernel
theorem dL_law_1244 : decode cL_law 1244 = .ok (.aload_n 2, 1) := by decide +kernel
theorem dL_law_1245 : decode cL_law 1245 = .ok (.aload_n 0, 1) := by decide +kernel
theorem dL_law_1246 : decode cL_law 1246 = .ok (.iload_n 3, 1) := by decide +kernel
theorem dL_law_1247 : decode cL_law 1247 = .ok (.iconst 1, 1) := by decide +kernel
theorem dL_law_1248 : decode cL_law 1248 = .ok (.iadd, 1) := by decide +kernel
theorem dL_law_1249 : decode cL_law 1249 = .ok (.iaload, 1) := by decide +kernel
theorem dL_law_1250 : decode cL_law 1250 = .ok (.aload_n 0, 1) := by decide +kernel
theorem dL_law_1251 : decode cL_law 1251 = .ok (.iload_n 3, 1) := by decide +kernel
theorem dL_law_1252 : decode cL_law 1252 = .ok (.iconst 2, 1) := by decide +kernel
theorem dL_law_1253 : decode cL_law 1253 = .ok (.iadd, 1) := by decide +kernel
theorem dL_law_1254 : decode cL_law 1254 = .ok (.iaload, 1) := by decide +kernel
theorem dL_law_1255 : decode cL_law 1255 = .ok (.aload_n 0, 1) := by decide +kernel
theorem dL_law_1256 : decode cL_law 1256 = .ok (.iload_n 3, 1) := by decide +kernel
theorem dL_law_1257 : decode cL_law 1257 = .ok (.iconst 3, 1) := by decide +kernel
theorem dL_law_1258 : decode cL_law 1258 = .ok (.iadd, 1) := by decide +kernel
theorem dL_law_1259 : decode cL_law 1259 = .ok (.iaload, 1) := by decide +kernel
theorem dL_law_1260 : decode cL_law 1260 = .ok (.aload_n 0, 1) := by decide +kernel
theorem dL_law_1261 : decode cL_law 1261 = .ok (.iload_n 3, 1) := by decide +kernel
theorem dL_law_1262 : decode cL_law 1262 = .ok (.iconst 4, 1) := by decide +kernel
theorem dL_law_1263 : decode cL_law 1263 = .ok (.iadd, 1) := by decide +kernel
theorem dL_law_1264 : decode cL_law 1264 = .ok (.iaload, 1) := by decide +kernel
theorem dL_law_1265 : decode cL_law 1265 = .ok (.aload_n 0, 1) := by decide +kernel
theorem dL_law_1266 : decode cL_law 1266 = .ok (.iload_n 3, 1) := by decide +kernel
theorem dL_law_1267 : decode cL_law 1267 = .ok (.iconst 5, 1) := by decide +kernel
theorem dL_law_1268 : decode cL_law 1268 = .ok (.iadd, 1) := by decide +kernel
theorem dL_law_1269 : decode cL_law 1269 = .ok (.iaload, 1) := by decide +kernel
theorem dL_law_1270 : decode cL_law 1270 = .ok (.invokevirtual 124, 3) := by decide +kernel
theorem dL_law_1273 : decode cL_law 1273 = .ok (.if_icmp .eq 692, 3) := by decide +kernel
theorem dL_law_1276 : decode cL_law 1276 = .ok (.iconst 0, 1) := by decide +kernel
theorem dL_law_1277 : decode cL_law 1277 = .ok (.ireturn, 1) := by decide +kernel
theorem dL_law_1278 : decode cL_law 1278 = .ok (.aload_n 1, 1) := by decide +kernel
theorem dL_law_1279 : decode cL_law 1279 = .ok (.aload_n 0, 1) := by decide +kernel
theorem dL_law_1280 : decode cL_law 1280 = .ok (.iload_n 3, 1) := by decide +kernel
theorem dL_law_1281 : decode cL_law 1281 = .ok (.iconst 1, 1) := by decide +kernel
theorem dL_law_1282 : decode cL_law 1282 = .ok (.iadd, 1) := by decide +kernel
theorem dL_law_1283 : decode cL_law 1283 = .ok (.iaload, 1) := by decide +kernel
theorem dL_law_1284 : decode cL_law 1284 = .ok (.aload_n 0, 1) := by decide +kernel
theorem dL_law_1285 : decode cL_law 1285 = .ok (.iload_n 3, 1) := by decide +kernel
theorem dL_law_1286 : decode cL_law 1286 = .ok (.iconst 2, 1) := by decide +kernel
theorem dL_law_1287 : decode cL_law 1287 = .ok (.iadd, 1) := by decide +kernel
theorem dL_law_1288 : decode cL_law 1288 = .ok (.iaload, 1) := by decide +kernel
theorem dL_law_1289 : decode cL_law 1289 = .ok (.invokevirtual 125, 3) := by decide +kernel
theorem dL_law_1292 : decode cL_law 1292 = .ok (.aload_n 2, 1) := by decide +kernel
theorem dL_law_1293 : decode cL_law 1293 = .ok (.aload_n 0, 1) := by decide +kernel
theorem dL_law_1294 : decode cL_law 1294 = .ok (.iload_n 3, 1) := by decide +kernel
theorem dL_law_1295 : decode cL_law 1295 = .ok (.iconst 1, 1) := by decide +kernel
theorem dL_law_1296 : decode cL_law 1296 = .ok (.iadd, 1) := by decide +kernel
theorem dL_law_1297 : decode cL_law 1297 = .ok (.iaload, 1) := by decide +kernel
theorem dL_law_1298 : decode cL_law 1298 = .ok (.aload_n 0, 1) := by decide +kernel
theorem dL_law_1299 : decode cL_law 1299 = .ok (.iload_n 3, 1) := by decide +kernel
theorem dL_law_1300 : decode cL_law 1300 = .ok (.iconst 2, 1) := by decide +kernel
theorem dL_law_1301 : decode cL_law 1301 = .ok (.iadd, 1) := by decide +kernel
theorem dL_law_1302 : decode cL_law 1302 = .ok (.iaload, 1) := by decide +kernel
theorem dL_law_1303 : decode cL_law 1303 = .ok (.invokevirtual 128, 3) := by decide +kernel
theorem dL_law_1306 : decode cL_law 1306 = .ok (.if_icmp .eq 659, 3) := by decide +kernel
theorem dL_law_1309 : decode cL_law 1309 = .ok (.iconst 0, 1) := by decide +kernel
theorem dL_law_1310 : decode cL_law 1310 = .ok (.ireturn, 1) := by decide +kernel
theorem dL_law_1311 : decode cL_law 1311 = .ok (.aload_n 1, 1) := by decide +kernel
theorem dL_law_1312 : decode cL_law 1312 = .ok (.aload_n 0, 1) := by decide +kernel
theorem dL_law_1313 : decode cL_law 1313 = .ok (.iload_n 3, 1) := by decide +kernel
theorem dL_law_1314 : decode cL_law 1314 = .ok (.iconst 1, 1) := by decide +kernel
theorem dL_law_1315 : decode cL_law 1315 = .ok (.iadd, 1) := by decide +kernel
theorem dL_law_1316 : decode cL_law 1316 = .ok (.iaload, 1) := by decide +kernel
theorem dL_law_1317 : decode cL_law 1317 = .ok (.aload_n 0, 1) := by decide +kernel
theorem dL_law_1318 : decode cL_law 1318 = .ok (.iload_n 3, 1) := by decide +kernel
theorem dL_law_1319 : decode cL_law 1319 = .ok (.iconst 2, 1) := by decide +kernel
theorem dL_law_1320 : decode cL_law 1320 = .ok (.iadd, 1) := by decide +kernel
theorem dL_law_1321 : decode cL_law 1321 = .ok (.iaload, 1) := by decide +kernel
theorem dL_law_1322 : decode cL_law 1322 = .ok (.invokevirtual 129, 3) := by decide +kernel
theorem dL_law_1325 : decode cL_law 1325 = .ok (.aload_n 2, 1) := by decide +kernel
theorem dL_law_1326 : decode cL_law 1326 = .ok (.aload_n 0, 1) := by decide +kernel
theorem dL_law_1327 : decode cL_law 1327 = .ok (.iload_n 3, 1) := by decide +kernel
theorem dL_law_1328 : decode cL_law 1328 = .ok (.iconst 1, 1) := by decide +kernel
theorem dL_law_1329 : decode cL_law 1329 = .ok (.iadd, 1) := by decide +kernel
theorem dL_law_1330 : decode cL_law 1330 = .ok (.iaload, 1) := by decide +kernel
theorem dL_law_1331 : decode cL_law 1331 = .ok (.aload_n 0, 1) := by decide +kernel
theorem dL_law_1332 : decode cL_law 1332 = .ok (.iload_n 3, 1) := by decide +kernel
theorem dL_law_1333 : decode cL_law 1333 = .ok (.iconst 2, 1) := by decide +kernel
theorem dL_law_1334 : decode cL_law 1334 = .ok (.iadd, 1) := by decide +kernel
theorem dL_law_1335 : decode cL_law 1335 = .ok (.iaload, 1) := by decide +kernel
theorem dL_law_1336 : decode cL_law 1336 = .ok (.invokevirtual 132, 3) := by decide +kernel
theorem dL_law_1339 : decode cL_law 1339 = .ok (.if_icmp .eq 626, 3) := by decide +kernel
theorem dL_law_1342 : decode cL_law 1342 = .ok (.iconst 0, 1) := by decide +kernel
theorem dL_law_1343 : decode cL_law 1343 = .ok (.ireturn, 1) := by decide +kernel
theorem dL_law_1344 : decode cL_law 1344 = .ok (.aload_n 1, 1) := by decide +kernel
theorem dL_law_1345 : decode cL_law 1345 = .ok (.aload_n 0, 1) := by decide +kernel
theorem dL_law_1346 : decode cL_law 1346 = .ok (.iload_n 3, 1) := by decide +kernel
theorem dL_law_1347 : decode cL_law 1347 = .ok (.iconst 1, 1) := by decide +kernel
theorem dL_law_1348 : decode cL_law 1348 = .ok (.iadd, 1) := by decide +kernel
theorem dL_law_1349 : decode cL_law 1349 = .ok (.iaload, 1) := by decide +kernel
theorem dL_law_1350 : decode cL_law 1350 = .ok (.aload_n 0, 1) := by decide +kernel
theorem dL_law_1351 : decode cL_law 1351 = .ok (.iload_n 3, 1) := by decide +kernel
theorem dL_law_1352 : decode cL_law 1352 = .ok (.iconst 2, 1) := by decide +kernel
theorem dL_law_1353 : decode cL_law 1353 = .ok (.iadd, 1) := by decide +kernel
theorem dL_law_1354 : decode cL_law 1354 = .ok (.iaload, 1) := by decide +kernel
theorem dL_law_1355 : decode cL_law 1355 = .ok (.aload_n 0, 1) := by decide +kernel
theorem dL_law_1356 : decode cL_law 1356 = .ok (.iload_n 3, 1) := by decide +kernel
theorem dL_law_1357 : decode cL_law 1357 = .ok (.iconst 3, 1) := by decide +kernel
theorem dL_law_1358 : decode cL_law 1358 = .ok (.iadd, 1) := by decide +kernel
theorem dL_law_1359 : decode cL_law 1359 = .ok (.iaload, 1) := by decide +kernel
theorem dL_law_1360 : decode cL_law 1360 = .ok (.invokevirtual 133, 3) := by decide +kernel
theorem dL_law_1363 : decode cL_law 1363 = .ok (.aload_n 2, 1) := by decide +kernel
theorem dL_law_1364 : decode cL_law 1364 = .ok (.aload_n 0, 1) := by decide +kernel
theorem dL_law_1365 : decode cL_law 1365 = .ok (.iload_n 3, 1) := by decide +kernel
theorem dL_law_1366 : decode cL_law 1366 = .ok (.iconst 1, 1) := by decide +kernel
theorem dL_law_1367 : decode cL_law 1367 = .ok (.iadd, 1) := by decide +kernel
theorem dL_law_1368 : decode cL_law 1368 = .ok (.iaload, 1) := by decide +kernel
theorem dL_law_1369 : decode cL_law 1369 = .ok (.aload_n 0, 1) := by decide +kernel
theorem dL_law_1370 : decode cL_law 1370 = .ok (.iload_n 3, 1) := by decide +kernel
theorem dL_law_1371 : decode cL_law 1371 = .ok (.iconst 2, 1) := by decide +kernel
theorem dL_law_1372 : decode cL_law 1372 = .ok (.iadd, 1) := by decide +kernel
theorem dL_law_1373 : decode cL_law 1373 = .ok (.iaload, 1) := by decide +kernel
theorem dL_law_1374 : decode cL_law 1374 = .ok (.aload_n 0, 1) := by decide +kernel
theorem dL_law_1375 : decode cL_law 1375 = .ok (.iload_n 3, 1) := by decide +kernel
theorem dL_law_1376 : decode cL_law 1376 = .ok (.iconst 3, 1) := by decide +kernel
theorem dL_law_1377 : decode cL_law 1377 = .ok (.iadd, 1) := by decide +kernel
theorem dL_law_1378 : decode cL_law 1378 = .ok (.iaload, 1) := by decide +kernel
theorem dL_law_1379 : decode cL_law 1379 = .ok (.invokevirtual 137, 3) := by decide +kernel
theorem dL_law_1382 : decode cL_law 1382 = .ok (.lcmp, 1) := by decide +kernel
theorem dL_law_1383 : decode cL_law 1383 = .ok (.ifCond .eq 582, 3) := by decide +kernel
theorem dL_law_1386 : decode cL_law 1386 = .ok (.iconst 0, 1) := by decide +kernel
theorem dL_law_1387 : decode cL_law 1387 = .ok (.ireturn, 1) := by decide +kernel
theorem dL_law_1388 : decode cL_law 1388 = .ok (.aload_n 1, 1) := by decide +kernel
theorem dL_law_1389 : decode cL_law 1389 = .ok (.aload_n 0, 1) := by decide +kernel
theorem dL_law_1390 : decode cL_law 1390 = .ok (.iload_n 3, 1) := by decide +kernel
theorem dL_law_1391 : decode cL_law 1391 = .ok (.iconst 1, 1) := by decide +kernel
theorem dL_law_1392 : decode cL_law 1392 = .ok (.iadd, 1) := by decide +kernel
theorem dL_law_1393 : decode cL_law 1393 = .ok (.iaload, 1) := by decide +kernel
theorem dL_law_1394 : decode cL_law 1394 = .ok (.invokevirtual 138, 3) := by decide +kernel
theorem dL_law_1397 : decode cL_law 1397 = .ok (.aload_n 2, 1) := by decide +kernel
theorem dL_law_1398 : decode cL_law 1398 = .ok (.aload_n 0, 1) := by decide +kernel
theorem dL_law_1399 : decode cL_law 1399 = .ok (.iload_n 3, 1) := by decide +kernel
theorem dL_law_1400 : decode cL_law 1400 = .ok (.iconst 1, 1) := by decide +kernel
theorem dL_law_1401 : decode cL_law 1401 = .ok (.iadd, 1) := by decide +kernel
theorem dL_law_1402 : decode cL_law 1402 = .ok (.iaload, 1) := by decide +kernel
theorem dL_law_1403 : decode cL_law 1403 = .ok (.invokevirtual 141, 3) := by decide +kernel
theorem dL_law_1406 : decode cL_law 1406 = .ok (.if_icmp .eq 559, 3) := by decide +kernel
theorem dL_law_1409 : decode cL_law 1409 = .ok (.iconst 0, 1) := by decide +kernel
theorem dL_law_1410 : decode cL_law 1410 = .ok (.ireturn, 1) := by decide +kernel
theorem dL_law_1411 : decode cL_law 1411 = .ok (.aload_n 1, 1) := by decide +kernel
theorem dL_law_1412 : decode cL_law 1412 = .ok (.aload_n 0, 1) := by decide +kernel
theorem dL_law_1413 : decode cL_law 1413 = .ok (.iload_n 3, 1) := by decide +kernel
theorem dL_law_1414 : decode cL_law 1414 = .ok (.iconst 1, 1) := by decide +kernel
theorem dL_law_1415 : decode cL_law 1415 = .ok (.iadd, 1) := by decide +kernel
theorem dL_law_1416 : decode cL_law 1416 = .ok (.iaload, 1) := by decide +kernel
theorem dL_law_1417 : decode cL_law 1417 = .ok (.aload_n 0, 1) := by decide +kernel
theorem dL_law_1418 : decode cL_law 1418 = .ok (.iload_n 3, 1) := by decide +kernel
theorem dL_law_1419 : decode cL_law 1419 = .ok (.iconst 2, 1) := by decide +kernel
theorem dL_law_1420 : decode cL_law 1420 = .ok (.iadd, 1) := by decide +kernel
theorem dL_law_1421 : decode cL_law 1421 = .ok (.iaload, 1) := by decide +kernel
theorem dL_law_1422 : decode cL_law 1422 = .ok (.invokevirtual 142, 3) := by decide +kernel
theorem dL_law_1425 : decode cL_law 1425 = .ok (.aload_n 2, 1) := by decide +kernel
theorem dL_law_1426 : decode cL_law 1426 = .ok (.aload_n 0, 1) := by decide +kernel
theorem dL_law_1427 : decode cL_law 1427 = .ok (.iload_n 3, 1) := by decide +kernel
theorem dL_law_1428 : decode cL_law 1428 = .ok (.iconst 1, 1) := by decide +kernel
theorem dL_law_1429 : decode cL_law 1429 = .ok (.iadd, 1) := by decide +kernel
theorem dL_law_1430 : decode cL_law 1430 = .ok (.iaload, 1) := by decide +kernel
theorem dL_law_1431 : decode cL_law 1431 = .ok (.aload_n 0, 1) := by decide +kernel
theorem dL_law_1432 : decode cL_law 1432 = .ok (.iload_n 3, 1) := by decide +kernel
theorem dL_law_1433 : decode cL_law 1433 = .ok (.iconst 2, 1) := by decide +kernel
theorem dL_law_1434 : decode cL_law 1434 = .ok (.iadd, 1) := by decide +kernel
theorem dL_law_1435 : decode cL_law 1435 = .ok (.iaload, 1) := by decide +kernel
theorem dL_law_1436 : decode cL_law 1436 = .ok (.invokevirtual 145, 3) := by decide +kernel
theorem dL_law_1439 : decode cL_law 1439 = .ok (.if_icmp .eq 526, 3) := by decide +kernel
theorem dL_law_1442 : decode cL_law 1442 = .ok (.iconst 0, 1) := by decide +kernel
theorem dL_law_1443 : decode cL_law 1443 = .ok (.ireturn, 1) := by decide +kernel
theorem dL_law_1444 : decode cL_law 1444 = .ok (.aload_n 1, 1) := by decide +kernel
theorem dL_law_1445 : decode cL_law 1445 = .ok (.aload_n 0, 1) := by decide +kernel
theorem dL_law_1446 : decode cL_law 1446 = .ok (.iload_n 3, 1) := by decide +kernel
theorem dL_law_1447 : decode cL_law 1447 = .ok (.iconst 1, 1) := by decide +kernel
theorem dL_law_1448 : decode cL_law 1448 = .ok (.iadd, 1) := by decide +kernel
theorem dL_law_1449 : decode cL_law 1449 = .ok (.iaload, 1) := by decide +kernel
theorem dL_law_1450 : decode cL_law 1450 = .ok (.aload_n 0, 1) := by decide +kernel
theorem dL_law_1451 : decode cL_law 1451 = .ok (.iload_n 3, 1) := by decide +kernel
theorem dL_law_1452 : decode cL_law 1452 = .ok (.iconst 2, 1) := by decide +kernel
theorem dL_law_1453 : decode cL_law 1453 = .ok (.iadd, 1) := by decide +kernel
theorem dL_law_1454 : decode cL_law 1454 = .ok (.iaload, 1) := by decide +kernel
theorem dL_law_1455 : decode cL_law 1455 = .ok (.invokevirtual 146, 3) := by decide +kernel
theorem dL_law_1458 : decode cL_law 1458 = .ok (.aload_n 2, 1) := by decide +kernel
theorem dL_law_1459 : decode cL_law 1459 = .ok (.aload_n 0, 1) := by decide +kernel
theorem dL_law_1460 : decode cL_law 1460 = .ok (.iload_n 3, 1) := by decide +kernel
theorem dL_law_1461 : decode cL_law 1461 = .ok (.iconst 1, 1) := by decide +kernel
theorem dL_law_1462 : decode cL_law 1462 = .ok (.iadd, 1) := by decide +kernel
theorem dL_law_1463 : decode cL_law 1463 = .ok (.iaload, 1) := by decide +kernel
theorem dL_law_1464 : decode cL_law 1464 = .ok (.aload_n 0, 1) := by decide +kernel
theorem dL_law_1465 : decode cL_law 1465 = .ok (.iload_n 3, 1) := by decide +kernel
theorem dL_law_1466 : decode cL_law 1466 = .ok (.iconst 2, 1) := by decide +kernel
theorem dL_law_1467 : decode cL_law 1467 = .ok (.iadd, 1) := by decide +kernel
theorem dL_law_1468 : decode cL_law 1468 = .ok (.iaload, 1) := by decide +kernel
theorem dL_law_1469 : decode cL_law 1469 = .ok (.invokevirtual 149, 3) := by decide +kernel
theorem dL_law_1472 : decode cL_law 1472 = .ok (.if_icmp .eq 493, 3) := by decide +kernel
theorem dL_law_1475 : decode cL_law 1475 = .ok (.iconst 0, 1) := by decide +kernel
theorem dL_law_1476 : decode cL_law 1476 = .ok (.ireturn, 1) := by decide +kernel
theorem dL_law_1477 : decode cL_law 1477 = .ok (.aload_n 1, 1) := by decide +kernel
theorem dL_law_1478 : decode cL_law 1478 = .ok (.aload_n 0, 1) := by decide +kernel
theorem dL_law_1479 : decode cL_law 1479 = .ok (.iload_n 3, 1) := by decide +kernel
theorem dL_law_1480 : decode cL_law 1480 = .ok (.iconst 1, 1) := by decide +kernel
theorem dL_law_1481 : decode cL_law 1481 = .ok (.iadd, 1) := by decide +kernel
theorem dL_law_1482 : decode cL_law 1482 = .ok (.iaload, 1) := by decide +kernel
theorem dL_law_1483 : decode cL_law 1483 = .ok (.invokevirtual 150, 3) := by decide +kernel
theorem dL_law_1486 : decode cL_law 1486 = .ok (.aload_n 2, 1) := by decide +kernel
theorem dL_law_1487 : decode cL_law 1487 = .ok (.aload_n 0, 1) := by decide +kernel
theorem dL_law_1488 : decode cL_law 1488 = .ok (.iload_n 3, 1) := by decide +kernel
theorem dL_law_1489 : decode cL_law 1489 = .ok (.iconst 1, 1) := by decide +kernel
theorem dL_law_1490 : decode cL_law 1490 = .ok (.iadd, 1) := by decide +kernel
theorem dL_law_1491 : decode cL_law 1491 = .ok (.iaload, 1) := by decide +kernel
theorem dL_law_1492 : decode cL_law 1492 = .ok (.invokevirtual 153, 3) := by decide +kernel
theorem dL_law_1495 : decode cL_law 1495 = .ok (.if_icmp .eq 470, 3) := by decide +kernel
theorem dL_law_1498 : decode cL_law 1498 = .ok (.iconst 0, 1) := by decide +kernel
theorem dL_law_1499 : decode cL_law 1499 = .ok (.ireturn, 1) := by decide +kernel
theorem dL_law_1500 : decode cL_law 1500 = .ok (.aload_n 1, 1) := by decide +kernel
theorem dL_law_1501 : decode cL_law 1501 = .ok (.aload_n 0, 1) := by decide +kernel
theorem dL_law_1502 : decode cL_law 1502 = .ok (.iload_n 3, 1) := by decide +kernel
theorem dL_law_1503 : decode cL_law 1503 = .ok (.iconst 1, 1) := by decide +kernel
theorem dL_law_1504 : decode cL_law 1504 = .ok (.iadd, 1) := by decide +kernel
theorem dL_law_1505 : decode cL_law 1505 = .ok (.iaload, 1) := by decide +kernel
theorem dL_law_1506 : decode cL_law 1506 = .ok (.aload_n 0, 1) := by decide +kernel
theorem dL_law_1507 : decode cL_law 1507 = .ok (.iload_n 3, 1) := by decide +kernel
theorem dL_law_1508 : decode cL_law 1508 = .ok (.iconst 2, 1) := by decide +kernel
theorem dL_law_1509 : decode cL_law 1509 = .ok (.iadd, 1) := by decide +kernel
theorem dL_law_1510 : decode cL_law 1510 = .ok (.iaload, 1) := by decide +kernel
theorem dL_law_1511 : decode cL_law 1511 = .ok (.aload_n 0, 1) := by decide +kernel
theorem dL_law_1512 : decode cL_law 1512 = .ok (.iload_n 3, 1) := by decide +kernel
theorem dL_law_1513 : decode cL_law 1513 = .ok (.iconst 3, 1) := by decide +kernel
theorem dL_law_1514 : decode cL_law 1514 = .ok (.iadd, 1) := by decide +kernel
theorem dL_law_1515 : decode cL_law 1515 = .ok (.iaload, 1) := by decide +kernel
theorem dL_law_1516 : decode cL_law 1516 = .ok (.invokevirtual 154, 3) := by decide +kernel
theorem dL_law_1519 : decode cL_law 1519 = .ok (.aload_n 2, 1) := by decide +kernel
theorem dL_law_1520 : decode cL_law 1520 = .ok (.aload_n 0, 1) := by decide +kernel
theorem dL_law_1521 : decode cL_law 1521 = .ok (.iload_n 3, 1) := by decide +kernel
theorem dL_law_1522 : decode cL_law 1522 = .ok (.iconst 1, 1) := by decide +kernel
theorem dL_law_1523 : decode cL_law 1523 = .ok (.iadd, 1) := by decide +kernel
theorem dL_law_1524 : decode cL_law 1524 = .ok (.iaload, 1) := by decide +kernel
theorem dL_law_1525 : decode cL_law 1525 = .ok (.aload_n 0, 1) := by decide +kernel
theorem dL_law_1526 : decode cL_law 1526 = .ok (.iload_n 3, 1) := by decide +kernel
theorem dL_law_1527 : decode cL_law 1527 = .ok (.iconst 2, 1) := by decide +kernel
theorem dL_law_1528 : decode cL_law 1528 = .ok (.iadd, 1) := by decide +kernel
theorem dL_law_1529 : decode cL_law 1529 = .ok (.iaload, 1) := by decide +kernel
theorem dL_law_1530 : decode cL_law 1530 = .ok (.aload_n 0, 1) := by decide +kernel
theorem dL_law_1531 : decode cL_law 1531 = .ok (.iload_n 3, 1) := by decide +kernel
theorem dL_law_1532 : decode cL_law 1532 = .ok (.iconst 3, 1) := by decide +kernel
theorem dL_law_1533 : decode cL_law 1533 = .ok (.iadd, 1) := by decide +kernel
theorem dL_law_1534 : decode cL_law 1534 = .ok (.iaload, 1) := by decide +kernel
theorem dL_law_1535 : decode cL_law 1535 = .ok (.invokevirtual 157, 3) := by decide +kernel
theorem dL_law_1538 : decode cL_law 1538 = .ok (.if_icmp .eq 427, 3) := by decide +kernel
theorem dL_law_1541 : decode cL_law 1541 = .ok (.iconst 0, 1) := by decide +kernel
theorem dL_law_1542 : decode cL_law 1542 = .ok (.ireturn, 1) := by decide +kernel
theorem dL_law_1543 : decode cL_law 1543 = .ok (.aload_n 1, 1) := by decide +kernel
theorem dL_law_1544 : decode cL_law 1544 = .ok (.aload_n 0, 1) := by decide +kernel
theorem dL_law_1545 : decode cL_law 1545 = .ok (.iload_n 3, 1) := by decide +kernel
theorem dL_law_1546 : decode cL_law 1546 = .ok (.iconst 1, 1) := by decide +kernel
theorem dL_law_1547 : decode cL_law 1547 = .ok (.iadd, 1) := by decide +kernel
theorem dL_law_1548 : decode cL_law 1548 = .ok (.iaload, 1) := by decide +kernel
theorem dL_law_1549 : decode cL_law 1549 = .ok (.invokevirtual 158, 3) := by decide +kernel
theorem dL_law_1552 : decode cL_law 1552 = .ok (.aload_n 2, 1) := by decide +kernel
theorem dL_law_1553 : decode cL_law 1553 = .ok (.aload_n 0, 1) := by decide +kernel
theorem dL_law_1554 : decode cL_law 1554 = .ok (.iload_n 3, 1) := by decide +kernel
theorem dL_law_1555 : decode cL_law 1555 = .ok (.iconst 1, 1) := by decide +kernel
theorem dL_law_1556 : decode cL_law 1556 = .ok (.iadd, 1) := by decide +kernel
theorem dL_law_1557 : decode cL_law 1557 = .ok (.iaload, 1) := by decide +kernel
theorem dL_law_1558 : decode cL_law 1558 = .ok (.invokevirtual 161, 3) := by decide +kernel
theorem dL_law_1561 : decode cL_law 1561 = .ok (.if_icmp .eq 404, 3) := by decide +kernel
theorem dL_law_1564 : decode cL_law 1564 = .ok (.iconst 0, 1) := by decide +kernel
theorem dL_law_1565 : decode cL_law 1565 = .ok (.ireturn, 1) := by decide +kernel
theorem dL_law_1566 : decode cL_law 1566 = .ok (.aload_n 1, 1) := by decide +kernel
theorem dL_law_1567 : decode cL_law 1567 = .ok (.aload_n 0, 1) := by decide +kernel
theorem dL_law_1568 : decode cL_law 1568 = .ok (.iload_n 3, 1) := by decide +kernel
theorem dL_law_1569 : decode cL_law 1569 = .ok (.iconst 1, 1) := by decide +kernel
theorem dL_law_1570 : decode cL_law 1570 = .ok (.iadd, 1) := by decide +kernel
theorem dL_law_1571 : decode cL_law 1571 = .ok (.iaload, 1) := by decide +kernel
theorem dL_law_1572 : decode cL_law 1572 = .ok (.aload_n 0, 1) := by decide +kernel
theorem dL_law_1573 : decode cL_law 1573 = .ok (.iload_n 3, 1) := by decide +kernel
theorem dL_law_1574 : decode cL_law 1574 = .ok (.iconst 2, 1) := by decide +kernel
theorem dL_law_1575 : decode cL_law 1575 = .ok (.iadd, 1) := by decide +kernel
theorem dL_law_1576 : decode cL_law 1576 = .ok (.iaload, 1) := by decide +kernel
theorem dL_law_1577 : decode cL_law 1577 = .ok (.invokevirtual 162, 3) := by decide +kernel
theorem dL_law_1580 : decode cL_law 1580 = .ok (.aload_n 2, 1) := by decide +kernel
theorem dL_law_1581 : decode cL_law 1581 = .ok (.aload_n 0, 1) := by decide +kernel
theorem dL_law_1582 : decode cL_law 1582 = .ok (.iload_n 3, 1) := by decide +kernel
theorem dL_law_1583 : decode cL_law 1583 = .ok (.iconst 1, 1) := by decide +kernel
theorem dL_law_1584 : decode cL_law 1584 = .ok (.iadd, 1) := by decide +kernel
theorem dL_law_1585 : decode cL_law 1585 = .ok (.iaload, 1) := by decide +kernel
theorem dL_law_1586 : decode cL_law 1586 = .ok (.aload_n 0, 1) := by decide +kernel
theorem dL_law_1587 : decode cL_law 1587 = .ok (.iload_n 3, 1) := by decide +kernel
theorem dL_law_1588 : decode cL_law 1588 = .ok (.iconst 2, 1) := by decide +kernel
theorem dL_law_1589 : decode cL_law 1589 = .ok (.iadd, 1) := by decide +kernel
theorem dL_law_1590 : decode cL_law 1590 = .ok (.iaload, 1) := by decide +kernel
theorem dL_law_1591 : decode cL_law 1591 = .ok (.invokevirtual 165, 3) := by decide +kernel
theorem dL_law_1594 : decode cL_law 1594 = .ok (.if_icmp .eq 371, 3) := by decide +kernel
theorem dL_law_1597 : decode cL_law 1597 = .ok (.iconst 0, 1) := by decide +kernel
theorem dL_law_1598 : decode cL_law 1598 = .ok (.ireturn, 1) := by decide +kernel
theorem dL_law_1599 : decode cL_law 1599 = .ok (.aload_n 1, 1) := by decide +kernel
theorem dL_law_1600 : decode cL_law 1600 = .ok (.aload_n 0, 1) := by decide +kernel
theorem dL_law_1601 : decode cL_law 1601 = .ok (.iload_n 3, 1) := by decide +kernel
theorem dL_law_1602 : decode cL_law 1602 = .ok (.iconst 1, 1) := by decide +kernel
theorem dL_law_1603 : decode cL_law 1603 = .ok (.iadd, 1) := by decide +kernel
theorem dL_law_1604 : decode cL_law 1604 = .ok (.iaload, 1) := by decide +kernel
theorem dL_law_1605 : decode cL_law 1605 = .ok (.aload_n 0, 1) := by decide +kernel
theorem dL_law_1606 : decode cL_law 1606 = .ok (.iload_n 3, 1) := by decide +kernel
theorem dL_law_1607 : decode cL_law 1607 = .ok (.iconst 2, 1) := by decide +kernel
theorem dL_law_1608 : decode cL_law 1608 = .ok (.iadd, 1) := by decide +kernel
theorem dL_law_1609 : decode cL_law 1609 = .ok (.iaload, 1) := by decide +kernel
theorem dL_law_1610 : decode cL_law 1610 = .ok (.invokevirtual 166, 3) := by decide +kernel
theorem dL_law_1613 : decode cL_law 1613 = .ok (.aload_n 2, 1) := by decide +kernel
theorem dL_law_1614 : decode cL_law 1614 = .ok (.aload_n 0, 1) := by decide +kernel
theorem dL_law_1615 : decode cL_law 1615 = .ok (.iload_n 3, 1) := by decide +kernel
theorem dL_law_1616 : decode cL_law 1616 = .ok (.iconst 1, 1) := by decide +kernel
theorem dL_law_1617 : decode cL_law 1617 = .ok (.iadd, 1) := by decide +kernel
theorem dL_law_1618 : decode cL_law 1618 = .ok (.iaload, 1) := by decide +kernel
theorem dL_law_1619 : decode cL_law 1619 = .ok (.aload_n 0, 1) := by decide +kernel
theorem dL_law_1620 : decode cL_law 1620 = .ok (.iload_n 3, 1) := by decide +kernel
theorem dL_law_1621 : decode cL_law 1621 = .ok (.iconst 2, 1) := by decide +kernel
theorem dL_law_1622 : decode cL_law 1622 = .ok (.iadd, 1) := by decide +kernel
theorem dL_law_1623 : decode cL_law 1623 = .ok (.iaload, 1) := by decide +kernel
theorem dL_law_1624 : decode cL_law 1624 = .ok (.invokevirtual 169, 3) := by decide +kernel
theorem dL_law_1627 : decode cL_law 1627 = .ok (.if_icmp .eq 338, 3) := by decide +kernel
theorem dL_law_1630 : decode cL_law 1630 = .ok (.iconst 0, 1) := by decide +kernel
theorem dL_law_1631 : decode cL_law 1631 = .ok (.ireturn, 1) := by decide +kernel
theorem dL_law_1632 : decode cL_law 1632 = .ok (.aload_n 1, 1) := by decide +kernel
theorem dL_law_1633 : decode cL_law 1633 = .ok (.aload_n 0, 1) := by decide +kernel
theorem dL_law_1634 : decode cL_law 1634 = .ok (.iload_n 3, 1) := by decide +kernel
theorem dL_law_1635 : decode cL_law 1635 = .ok (.iconst 1, 1) := by decide +kernel
theorem dL_law_1636 : decode cL_law 1636 = .ok (.iadd, 1) := by decide +kernel
theorem dL_law_1637 : decode cL_law 1637 = .ok (.iaload, 1) := by decide +kernel
theorem dL_law_1638 : decode cL_law 1638 = .ok (.aload_n 0, 1) := by decide +kernel
theorem dL_law_1639 : decode cL_law 1639 = .ok (.iload_n 3, 1) := by decide +kernel
theorem dL_law_1640 : decode cL_law 1640 = .ok (.iconst 2, 1) := by decide +kernel
theorem dL_law_1641 : decode cL_law 1641 = .ok (.iadd, 1) := by decide +kernel
theorem dL_law_1642 : decode cL_law 1642 = .ok (.iaload, 1) := by decide +kernel
theorem dL_law_1643 : decode cL_law 1643 = .ok (.aload_n 0, 1) := by decide +kernel
theorem dL_law_1644 : decode cL_law 1644 = .ok (.iload_n 3, 1) := by decide +kernel
theorem dL_law_1645 : decode cL_law 1645 = .ok (.iconst 3, 1) := by decide +kernel
theorem dL_law_1646 : decode cL_law 1646 = .ok (.iadd, 1) := by decide +kernel
theorem dL_law_1647 : decode cL_law 1647 = .ok (.iaload, 1) := by decide +kernel
theorem dL_law_1648 : decode cL_law 1648 = .ok (.invokevirtual 170, 3) := by decide +kernel
theorem dL_law_1651 : decode cL_law 1651 = .ok (.aload_n 2, 1) := by decide +kernel
theorem dL_law_1652 : decode cL_law 1652 = .ok (.aload_n 0, 1) := by decide +kernel
theorem dL_law_1653 : decode cL_law 1653 = .ok (.iload_n 3, 1) := by decide +kernel
theorem dL_law_1654 : decode cL_law 1654 = .ok (.iconst 1, 1) := by decide +kernel
theorem dL_law_1655 : decode cL_law 1655 = .ok (.iadd, 1) := by decide +kernel
theorem dL_law_1656 : decode cL_law 1656 = .ok (.iaload, 1) := by decide +kernel
theorem dL_law_1657 : decode cL_law 1657 = .ok (.aload_n 0, 1) := by decide +kernel
theorem dL_law_1658 : decode cL_law 1658 = .ok (.iload_n 3, 1) := by decide +kernel
theorem dL_law_1659 : decode cL_law 1659 = .ok (.iconst 2, 1) := by decide +kernel
theorem dL_law_1660 : decode cL_law 1660 = .ok (.iadd, 1) := by decide +kernel
theorem dL_law_1661 : decode cL_law 1661 = .ok (.iaload, 1) := by decide +kernel
theorem dL_law_1662 : decode cL_law 1662 = .ok (.aload_n 0, 1) := by decide +kernel
theorem dL_law_1663 : decode cL_law 1663 = .ok (.iload_n 3, 1) := by decide +kernel
theorem dL_law_1664 : decode cL_law 1664 = .ok (.iconst 3, 1) := by decide +kernel
theorem dL_law_1665 : decode cL_law 1665 = .ok (.iadd, 1) := by decide +kernel
theorem dL_law_1666 : decode cL_law 1666 = .ok (.iaload, 1) := by decide +kernel
theorem dL_law_1667 : decode cL_law 1667 = .ok (.invokevirtual 173, 3) := by decide +kernel
theorem dL_law_1670 : decode cL_law 1670 = .ok (.if_icmp .eq 295, 3) := by decide +kernel
theorem dL_law_1673 : decode cL_law 1673 = .ok (.iconst 0, 1) := by decide +kernel
theorem dL_law_1674 : decode cL_law 1674 = .ok (.ireturn, 1) := by decide +kernel
theorem dL_law_1675 : decode cL_law 1675 = .ok (.aload_n 1, 1) := by decide +kernel
theorem dL_law_1676 : decode cL_law 1676 = .ok (.aload_n 0, 1) := by decide +kernel
theorem dL_law_1677 : decode cL_law 1677 = .ok (.iload_n 3, 1) := by decide +kernel
theorem dL_law_1678 : decode cL_law 1678 = .ok (.iconst 1, 1) := by decide +kernel
theorem dL_law_1679 : decode cL_law 1679 = .ok (.iadd, 1) := by decide +kernel
theorem dL_law_1680 : decode cL_law 1680 = .ok (.iaload, 1) := by decide +kernel
theorem dL_law_1681 : decode cL_law 1681 = .ok (.invokevirtual 174, 3) := by decide +kernel
theorem dL_law_1684 : decode cL_law 1684 = .ok (.aload_n 2, 1) := by decide +kernel
theorem dL_law_1685 : decode cL_law 1685 = .ok (.aload_n 0, 1) := by decide +kernel
theorem dL_law_1686 : decode cL_law 1686 = .ok (.iload_n 3, 1) := by decide +kernel
theorem dL_law_1687 : decode cL_law 1687 = .ok (.iconst 1, 1) := by decide +kernel
theorem dL_law_1688 : decode cL_law 1688 = .ok (.iadd, 1) := by decide +kernel
theorem dL_law_1689 : decode cL_law 1689 = .ok (.iaload, 1) := by decide +kernel
theorem dL_law_1690 : decode cL_law 1690 = .ok (.invokevirtual 177, 3) := by decide +kernel
theorem dL_law_1693 : decode cL_law 1693 = .ok (.if_icmp .eq 272, 3) := by decide +kernel
theorem dL_law_1696 : decode cL_law 1696 = .ok (.iconst 0, 1) := by decide +kernel
theorem dL_law_1697 : decode cL_law 1697 = .ok (.ireturn, 1) := by decide +kernel
theorem dL_law_1698 : decode cL_law 1698 = .ok (.aload_n 1, 1) := by decide +kernel
theorem dL_law_1699 : decode cL_law 1699 = .ok (.aload_n 0, 1) := by decide +kernel
theorem dL_law_1700 : decode cL_law 1700 = .ok (.iload_n 3, 1) := by decide +kernel
theorem dL_law_1701 : decode cL_law 1701 = .ok (.iconst 1, 1) := by decide +kernel
theorem dL_law_1702 : decode cL_law 1702 = .ok (.iadd, 1) := by decide +kernel
theorem dL_law_1703 : decode cL_law 1703 = .ok (.iaload, 1) := by decide +kernel
theorem dL_law_1704 : decode cL_law 1704 = .ok (.aload_n 0, 1) := by decide +kernel
theorem dL_law_1705 : decode cL_law 1705 = .ok (.iload_n 3, 1) := by decide +kernel
theorem dL_law_1706 : decode cL_law 1706 = .ok (.iconst 2, 1) := by decide +kernel
theorem dL_law_1707 : decode cL_law 1707 = .ok (.iadd, 1) := by decide +kernel
theorem dL_law_1708 : decode cL_law 1708 = .ok (.iaload, 1) := by decide +kernel
theorem dL_law_1709 : decode cL_law 1709 = .ok (.aload_n 0, 1) := by decide +kernel
theorem dL_law_1710 : decode cL_law 1710 = .ok (.iload_n 3, 1) := by decide +kernel
theorem dL_law_1711 : decode cL_law 1711 = .ok (.iconst 3, 1) := by decide +kernel
theorem dL_law_1712 : decode cL_law 1712 = .ok (.iadd, 1) := by decide +kernel
theorem dL_law_1713 : decode cL_law 1713 = .ok (.iaload, 1) := by decide +kernel
theorem dL_law_1714 : decode cL_law 1714 = .ok (.invokevirtual 178, 3) := by decide +kernel
theorem dL_law_1717 : decode cL_law 1717 = .ok (.aload_n 2, 1) := by decide +kernel
theorem dL_law_1718 : decode cL_law 1718 = .ok (.aload_n 0, 1) := by decide +kernel
theorem dL_law_1719 : decode cL_law 1719 = .ok (.iload_n 3, 1) := by decide +kernel
theorem dL_law_1720 : decode cL_law 1720 = .ok (.iconst 1, 1) := by decide +kernel
theorem dL_law_1721 : decode cL_law 1721 = .ok (.iadd, 1) := by decide +kernel
theorem dL_law_1722 : decode cL_law 1722 = .ok (.iaload, 1) := by decide +kernel
theorem dL_law_1723 : decode cL_law 1723 = .ok (.aload_n 0, 1) := by decide +kernel
theorem dL_law_1724 : decode cL_law 1724 = .ok (.iload_n 3, 1) := by decide +kernel
theorem dL_law_1725 : decode cL_law 1725 = .ok (.iconst 2, 1) := by decide +kernel
theorem dL_law_1726 : decode cL_law 1726 = .ok (.iadd, 1) := by decide +kernel
theorem dL_law_1727 : decode cL_law 1727 = .ok (.iaload, 1) := by decide +kernel
theorem dL_law_1728 : decode cL_law 1728 = .ok (.aload_n 0, 1) := by decide +kernel
theorem dL_law_1729 : decode cL_law 1729 = .ok (.iload_n 3, 1) := by decide +kernel
theorem dL_law_1730 : decode cL_law 1730 = .ok (.iconst 3, 1) := by decide +kernel
theorem dL_law_1731 : decode cL_law 1731 = .ok (.iadd, 1) := by decide +kernel
theorem dL_law_1732 : decode cL_law 1732 = .ok (.iaload, 1) := by decide +kernel
theorem dL_law_1733 : decode cL_law 1733 = .ok (.invokevirtual 181, 3) := by decide +kernel
theorem dL_law_1736 : decode cL_law 1736 = .ok (.if_icmp .eq 229, 3) := by decide +kernel
theorem dL_law_1739 : decode cL_law 1739 = .ok (.iconst 0, 1) := by decide +kernel
theorem dL_law_1740 : decode cL_law 1740 = .ok (.ireturn, 1) := by decide +kernel
theorem dL_law_1741 : decode cL_law 1741 = .ok (.aload_n 1, 1) := by decide +kernel
theorem dL_law_1742 : decode cL_law 1742 = .ok (.aload_n 0, 1) := by decide +kernel
theorem dL_law_1743 : decode cL_law 1743 = .ok (.iload_n 3, 1) := by decide +kernel
theorem dL_law_1744 : decode cL_law 1744 = .ok (.iconst 1, 1) := by decide +kernel
theorem dL_law_1745 : decode cL_law 1745 = .ok (.iadd, 1) := by decide +kernel
theorem dL_law_1746 : decode cL_law 1746 = .ok (.iaload, 1) := by decide +kernel
theorem dL_law_1747 : decode cL_law 1747 = .ok (.aload_n 0, 1) := by decide +kernel
theorem dL_law_1748 : decode cL_law 1748 = .ok (.iload_n 3, 1) := by decide +kernel
theorem dL_law_1749 : decode cL_law 1749 = .ok (.iconst 2, 1) := by decide +kernel
theorem dL_law_1750 : decode cL_law 1750 = .ok (.iadd, 1) := by decide +kernel
theorem dL_law_1751 : decode cL_law 1751 = .ok (.iaload, 1) := by decide +kernel
theorem dL_law_1752 : decode cL_law 1752 = .ok (.aload_n 0, 1) := by decide +kernel
theorem dL_law_1753 : decode cL_law 1753 = .ok (.iload_n 3, 1) := by decide +kernel
theorem dL_law_1754 : decode cL_law 1754 = .ok (.iconst 3, 1) := by decide +kernel
theorem dL_law_1755 : decode cL_law 1755 = .ok (.iadd, 1) := by decide +kernel
theorem dL_law_1756 : decode cL_law 1756 = .ok (.iaload, 1) := by decide +kernel
theorem dL_law_1757 : decode cL_law 1757 = .ok (.invokevirtual 182, 3) := by decide +kernel
theorem dL_law_1760 : decode cL_law 1760 = .ok (.aload_n 2, 1) := by decide +kernel
theorem dL_law_1761 : decode cL_law 1761 = .ok (.aload_n 0, 1) := by decide +kernel
theorem dL_law_1762 : decode cL_law 1762 = .ok (.iload_n 3, 1) := by decide +kernel
theorem dL_law_1763 : decode cL_law 1763 = .ok (.iconst 1, 1) := by decide +kernel
theorem dL_law_1764 : decode cL_law 1764 = .ok (.iadd, 1) := by decide +kernel
theorem dL_law_1765 : decode cL_law 1765 = .ok (.iaload, 1) := by decide +kernel
theorem dL_law_1766 : decode cL_law 1766 = .ok (.aload_n 0, 1) := by decide +kernel
theorem dL_law_1767 : decode cL_law 1767 = .ok (.iload_n 3, 1) := by decide +kernel
theorem dL_law_1768 : decode cL_law 1768 = .ok (.iconst 2, 1) := by decide +kernel
theorem dL_law_1769 : decode cL_law 1769 = .ok (.iadd, 1) := by decide +kernel
theorem dL_law_1770 : decode cL_law 1770 = .ok (.iaload, 1) := by decide +kernel
theorem dL_law_1771 : decode cL_law 1771 = .ok (.aload_n 0, 1) := by decide +kernel
theorem dL_law_1772 : decode cL_law 1772 = .ok (.iload_n 3, 1) := by decide +kernel
theorem dL_law_1773 : decode cL_law 1773 = .ok (.iconst 3, 1) := by decide +kernel
theorem dL_law_1774 : decode cL_law 1774 = .ok (.iadd, 1) := by decide +kernel
theorem dL_law_1775 : decode cL_law 1775 = .ok (.iaload, 1) := by decide +kernel
theorem dL_law_1776 : decode cL_law 1776 = .ok (.invokevirtual 185, 3) := by decide +kernel
theorem dL_law_1779 : decode cL_law 1779 = .ok (.if_icmp .eq 186, 3) := by decide +kernel
theorem dL_law_1782 : decode cL_law 1782 = .ok (.iconst 0, 1) := by decide +kernel
theorem dL_law_1783 : decode cL_law 1783 = .ok (.ireturn, 1) := by decide +kernel
theorem dL_law_1784 : decode cL_law 1784 = .ok (.aload_n 1, 1) := by decide +kernel
theorem dL_law_1785 : decode cL_law 1785 = .ok (.aload_n 0, 1) := by decide +kernel
theorem dL_law_1786 : decode cL_law 1786 = .ok (.iload_n 3, 1) := by decide +kernel
theorem dL_law_1787 : decode cL_law 1787 = .ok (.iconst 1, 1) := by decide +kernel
theorem dL_law_1788 : decode cL_law 1788 = .ok (.iadd, 1) := by decide +kernel
theorem dL_law_1789 : decode cL_law 1789 = .ok (.iaload, 1) := by decide +kernel
theorem dL_law_1790 : decode cL_law 1790 = .ok (.aload_n 0, 1) := by decide +kernel
theorem dL_law_1791 : decode cL_law 1791 = .ok (.iload_n 3, 1) := by decide +kernel
theorem dL_law_1792 : decode cL_law 1792 = .ok (.iconst 2, 1) := by decide +kernel
theorem dL_law_1793 : decode cL_law 1793 = .ok (.iadd, 1) := by decide +kernel
theorem dL_law_1794 : decode cL_law 1794 = .ok (.iaload, 1) := by decide +kernel
theorem dL_law_1795 : decode cL_law 1795 = .ok (.aload_n 0, 1) := by decide +kernel
theorem dL_law_1796 : decode cL_law 1796 = .ok (.iload_n 3, 1) := by decide +kernel
theorem dL_law_1797 : decode cL_law 1797 = .ok (.iconst 3, 1) := by decide +kernel
theorem dL_law_1798 : decode cL_law 1798 = .ok (.iadd, 1) := by decide +kernel
theorem dL_law_1799 : decode cL_law 1799 = .ok (.iaload, 1) := by decide +kernel
theorem dL_law_1800 : decode cL_law 1800 = .ok (.aload_n 0, 1) := by decide +kernel
theorem dL_law_1801 : decode cL_law 1801 = .ok (.iload_n 3, 1) := by decide +kernel
theorem dL_law_1802 : decode cL_law 1802 = .ok (.iconst 4, 1) := by decide +kernel
theorem dL_law_1803 : decode cL_law 1803 = .ok (.iadd, 1) := by decide +kernel
theorem dL_law_1804 : decode cL_law 1804 = .ok (.iaload, 1) := by decide +kernel
theorem dL_law_1805 : decode cL_law 1805 = .ok (.aload_n 0, 1) := by decide +kernel
theorem dL_law_1806 : decode cL_law 1806 = .ok (.iload_n 3, 1) := by decide +kernel
theorem dL_law_1807 : decode cL_law 1807 = .ok (.iconst 5, 1) := by decide +kernel
theorem dL_law_1808 : decode cL_law 1808 = .ok (.iadd, 1) := by decide +kernel
theorem dL_law_1809 : decode cL_law 1809 = .ok (.iaload, 1) := by decide +kernel
theorem dL_law_1810 : decode cL_law 1810 = .ok (.invokevirtual 186, 3) := by decide +kernel
theorem dL_law_1813 : decode cL_law 1813 = .ok (.aload_n 2, 1) := by decide +kernel
theorem dL_law_1814 : decode cL_law 1814 = .ok (.aload_n 0, 1) := by decide +kernel
theorem dL_law_1815 : decode cL_law 1815 = .ok (.iload_n 3, 1) := by decide +kernel
theorem dL_law_1816 : decode cL_law 1816 = .ok (.iconst 1, 1) := by decide +kernel
theorem dL_law_1817 : decode cL_law 1817 = .ok (.iadd, 1) := by decide +kernel
theorem dL_law_1818 : decode cL_law 1818 = .ok (.iaload, 1) := by decide +kernel
theorem dL_law_1819 : decode cL_law 1819 = .ok (.aload_n 0, 1) := by decide +kernel
theorem dL_law_1820 : decode cL_law 1820 = .ok (.iload_n 3, 1) := by decide +kernel
theorem dL_law_1821 : decode cL_law 1821 = .ok (.iconst 2, 1) := by decide +kernel
theorem dL_law_1822 : decode cL_law 1822 = .ok (.iadd, 1) := by decide +kernel
theorem dL_law_1823 : decode cL_law 1823 = .ok (.iaload, 1) := by decide +kernel
theorem dL_law_1824 : decode cL_law 1824 = .ok (.aload_n 0, 1) := by decide +kernel
theorem dL_law_1825 : decode cL_law 1825 = .ok (.iload_n 3, 1) := by decide +kernel
theorem dL_law_1826 : decode cL_law 1826 = .ok (.iconst 3, 1) := by decide +kernel
theorem dL_law_1827 : decode cL_law 1827 = .ok (.iadd, 1) := by decide +kernel
theorem dL_law_1828 : decode cL_law 1828 = .ok (.iaload, 1) := by decide +kernel
theorem dL_law_1829 : decode cL_law 1829 = .ok (.aload_n 0, 1) := by decide +kernel
theorem dL_law_1830 : decode cL_law 1830 = .ok (.iload_n 3, 1) := by decide +kernel
theorem dL_law_1831 : decode cL_law 1831 = .ok (.iconst 4, 1) := by decide +kernel
theorem dL_law_1832 : decode cL_law 1832 = .ok (.iadd, 1) := by decide +kernel
theorem dL_law_1833 : decode cL_law 1833 = .ok (.iaload, 1) := by decide +kernel
theorem dL_law_1834 : decode cL_law 1834 = .ok (.aload_n 0, 1) := by decide +kernel
theorem dL_law_1835 : decode cL_law 1835 = .ok (.iload_n 3, 1) := by decide +kernel
theorem dL_law_1836 : decode cL_law 1836 = .ok (.iconst 5, 1) := by decide +kernel
theorem dL_law_1837 : decode cL_law 1837 = .ok (.iadd, 1) := by decide +kernel
theorem dL_law_1838 : decode cL_law 1838 = .ok (.iaload, 1) := by decide +kernel
theorem dL_law_1839 : decode cL_law 1839 = .ok (.invokevirtual 189, 3) := by decide +kernel
theorem dL_law_1842 : decode cL_law 1842 = .ok (.if_icmp .eq 123, 3) := by decide +kernel
theorem dL_law_1845 : decode cL_law 1845 = .ok (.iconst 0, 1) := by decide +kernel
theorem dL_law_1846 : decode cL_law 1846 = .ok (.ireturn, 1) := by decide +kernel
theorem dL_law_1847 : decode cL_law 1847 = .ok (.aload_n 1, 1) := by decide +kernel
theorem dL_law_1848 : decode cL_law 1848 = .ok (.invokevirtual 190, 3) := by decide +kernel
theorem dL_law_1851 : decode cL_law 1851 = .ok (.aload_n 2, 1) := by decide +kernel
theorem dL_law_1852 : decode cL_law 1852 = .ok (.invokevirtual 194, 3) := by decide +kernel
theorem dL_law_1855 : decode cL_law 1855 = .ok (.if_icmp .eq 110, 3) := by decide +kernel
theorem dL_law_1858 : decode cL_law 1858 = .ok (.iconst 0, 1) := by decide +kernel
theorem dL_law_1859 : decode cL_law 1859 = .ok (.ireturn, 1) := by decide +kernel
theorem dL_law_1860 : decode cL_law 1860 = .ok (.aload_n 1, 1) := by decide +kernel
theorem dL_law_1861 : decode cL_law 1861 = .ok (.invokevirtual 195, 3) := by decide +kernel
theorem dL_law_1864 : decode cL_law 1864 = .ok (.aload_n 2, 1) := by decide +kernel
theorem dL_law_1865 : decode cL_law 1865 = .ok (.invokevirtual 198, 3) := by decide +kernel
theorem dL_law_1868 : decode cL_law 1868 = .ok (.if_icmp .eq 97, 3) := by decide +kernel
theorem dL_law_1871 : decode cL_law 1871 = .ok (.iconst 0, 1) := by decide +kernel
theorem dL_law_1872 : decode cL_law 1872 = .ok (.ireturn, 1) := by decide +kernel
theorem dL_law_1873 : decode cL_law 1873 = .ok (.aload_n 1, 1) := by decide +kernel
theorem dL_law_1874 : decode cL_law 1874 = .ok (.aload_n 0, 1) := by decide +kernel
theorem dL_law_1875 : decode cL_law 1875 = .ok (.iload_n 3, 1) := by decide +kernel
theorem dL_law_1876 : decode cL_law 1876 = .ok (.iconst 1, 1) := by decide +kernel
theorem dL_law_1877 : decode cL_law 1877 = .ok (.iadd, 1) := by decide +kernel
theorem dL_law_1878 : decode cL_law 1878 = .ok (.iaload, 1) := by decide +kernel
theorem dL_law_1879 : decode cL_law 1879 = .ok (.invokevirtual 199, 3) := by decide +kernel
theorem dL_law_1882 : decode cL_law 1882 = .ok (.aload_n 2, 1) := by decide +kernel
theorem dL_law_1883 : decode cL_law 1883 = .ok (.aload_n 0, 1) := by decide +kernel
theorem dL_law_1884 : decode cL_law 1884 = .ok (.iload_n 3, 1) := by decide +kernel
theorem dL_law_1885 : decode cL_law 1885 = .ok (.iconst 1, 1) := by decide +kernel
theorem dL_law_1886 : decode cL_law 1886 = .ok (.iadd, 1) := by decide +kernel
theorem dL_law_1887 : decode cL_law 1887 = .ok (.iaload, 1) := by decide +kernel
theorem dL_law_1888 : decode cL_law 1888 = .ok (.invokevirtual 202, 3) := by decide +kernel
theorem dL_law_1891 : decode cL_law 1891 = .ok (.if_icmp .eq 74, 3) := by decide +kernel
theorem dL_law_1894 : decode cL_law 1894 = .ok (.iconst 0, 1) := by decide +kernel
theorem dL_law_1895 : decode cL_law 1895 = .ok (.ireturn, 1) := by decide +kernel
theorem dL_law_1896 : decode cL_law 1896 = .ok (.aload_n 1, 1) := by decide +kernel
theorem dL_law_1897 : decode cL_law 1897 = .ok (.aload_n 0, 1) := by decide +kernel
theorem dL_law_1898 : decode cL_law 1898 = .ok (.iload_n 3, 1) := by decide +kernel
theorem dL_law_1899 : decode cL_law 1899 = .ok (.iconst 1, 1) := by decide +kernel
theorem dL_law_1900 : decode cL_law 1900 = .ok (.iadd, 1) := by decide +kernel
theorem dL_law_1901 : decode cL_law 1901 = .ok (.iaload, 1) := by decide +kernel
theorem dL_law_1902 : decode cL_law 1902 = .ok (.invokevirtual 203, 3) := by decide +kernel
theorem dL_law_1905 : decode cL_law 1905 = .ok (.aload_n 2, 1) := by decide +kernel
theorem dL_law_1906 : decode cL_law 1906 = .ok (.aload_n 0, 1) := by decide +kernel
theorem dL_law_1907 : decode cL_law 1907 = .ok (.iload_n 3, 1) := by decide +kernel
theorem dL_law_1908 : decode cL_law 1908 = .ok (.iconst 1, 1) := by decide +kernel
theorem dL_law_1909 : decode cL_law 1909 = .ok (.iadd, 1) := by decide +kernel
theorem dL_law_1910 : decode cL_law 1910 = .ok (.iaload, 1) := by decide +kernel
theorem dL_law_1911 : decode cL_law 1911 = .ok (.invokevirtual 206, 3) := by decide +kernel
theorem dL_law_1914 : decode cL_law 1914 = .ok (.if_icmp .eq 51, 3) := by decide +kernel
theorem dL_law_1917 : decode cL_law 1917 = .ok (.iconst 0, 1) := by decide +kernel
theorem dL_law_1918 : decode cL_law 1918 = .ok (.ireturn, 1) := by decide +kernel
theorem dL_law_1919 : decode cL_law 1919 = .ok (.aload_n 1, 1) := by decide +kernel
theorem dL_law_1920 : decode cL_law 1920 = .ok (.aload_n 0, 1) := by decide +kernel
theorem dL_law_1921 : decode cL_law 1921 = .ok (.iload_n 3, 1) := by decide +kernel
theorem dL_law_1922 : decode cL_law 1922 = .ok (.iconst 1, 1) := by decide +kernel
theorem dL_law_1923 : decode cL_law 1923 = .ok (.iadd, 1) := by decide +kernel
theorem dL_law_1924 : decode cL_law 1924 = .ok (.iaload, 1) := by decide +kernel
theorem dL_law_1925 : decode cL_law 1925 = .ok (.invokevirtual 207, 3) := by decide +kernel
theorem dL_law_1928 : decode cL_law 1928 = .ok (.aload_n 2, 1) := by decide +kernel
theorem dL_law_1929 : decode cL_law 1929 = .ok (.aload_n 0, 1) := by decide +kernel
theorem dL_law_1930 : decode cL_law 1930 = .ok (.iload_n 3, 1) := by decide +kernel
theorem dL_law_1931 : decode cL_law 1931 = .ok (.iconst 1, 1) := by decide +kernel
theorem dL_law_1932 : decode cL_law 1932 = .ok (.iadd, 1) := by decide +kernel
theorem dL_law_1933 : decode cL_law 1933 = .ok (.iaload, 1) := by decide +kernel
theorem dL_law_1934 : decode cL_law 1934 = .ok (.invokevirtual 210, 3) := by decide +kernel
theorem dL_law_1937 : decode cL_law 1937 = .ok (.if_icmp .eq 28, 3) := by decide +kernel
theorem dL_law_1940 : decode cL_law 1940 = .ok (.iconst 0, 1) := by decide +kernel
theorem dL_law_1941 : decode cL_law 1941 = .ok (.ireturn, 1) := by decide +kernel
theorem dL_law_1942 : decode cL_law 1942 = .ok (.aload_n 1, 1) := by decide +kernel
theorem dL_law_1943 : decode cL_law 1943 = .ok (.aload_n 0, 1) := by decide +kernel
theorem dL_law_1944 : decode cL_law 1944 = .ok (.iload_n 3, 1) := by decide +kernel
theorem dL_law_1945 : decode cL_law 1945 = .ok (.iconst 1, 1) := by decide +kernel
theorem dL_law_1946 : decode cL_law 1946 = .ok (.iadd, 1) := by decide +kernel
theorem dL_law_1947 : decode cL_law 1947 = .ok (.iaload, 1) := by decide +kernel
theorem dL_law_1948 : decode cL_law 1948 = .ok (.invokevirtual 211, 3) := by decide +kernel
theorem dL_law_1951 : decode cL_law 1951 = .ok (.aload_n 2, 1) := by decide +kernel
theorem dL_law_1952 : decode cL_law 1952 = .ok (.aload_n 0, 1) := by decide +kernel
theorem dL_law_1953 : decode cL_law 1953 = .ok (.iload_n 3, 1) := by decide +kernel
theorem dL_law_1954 : decode cL_law 1954 = .ok (.iconst 1, 1) := by decide +kernel
theorem dL_law_1955 : decode cL_law 1955 = .ok (.iadd, 1) := by decide +kernel
theorem dL_law_1956 : decode cL_law 1956 = .ok (.iaload, 1) := by decide +kernel
theorem dL_law_1957 : decode cL_law 1957 = .ok (.invokevirtual 214, 3) := by decide +kernel
theorem dL_law_1960 : decode cL_law 1960 = .ok (.if_icmp .eq 5, 3) := by decide +kernel
theorem dL_law_1963 : decode cL_law 1963 = .ok (.iconst 0, 1) := by decide +kernel
theorem dL_law_1964 : decode cL_law 1964 = .ok (.ireturn, 1) := by decide +kernel
theorem dL_law_1965 : decode cL_law 1965 = .ok (.iinc 3 6, 3) := by decide +kernel
theorem dL_law_1968 : decode cL_law 1968 = .ok (.goto (-1950), 3) := by decide +kernel
theorem dL_law_1971 : decode cL_law 1971 = .ok (.iconst 1, 1) := by decide +kernel
theorem dL_law_1972 : decode cL_law 1972 = .ok (.ireturn, 1) := by decide +kernel

