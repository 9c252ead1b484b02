theorem dX0_init_0 : decode cX0_init 0 = .ok (.aload_n 0, 1) := by decide +kernel
theorem dX0_init_1 : decode cX0_init 1 = .ok (.invokespecial 3, 3) := by decide +kernel
theorem dX0_init_4 : decode cX0_init 4 = .ok (.aload_n 0, 1) := by decide +kernel
theorem dX0_init_5 : decode cX0_init 5 = .ok (.new 9, 3) := by decide +kernel
theorem dX0_init_8 : decode cX0_init 8 = .ok (.dup, 1) := by decide +kernel
theorem dX0_init_9 : decode cX0_init 9 = .ok (.invokespecial 11, 3) := by decide +kernel
theorem dX0_init_12 : decode cX0_init 12 = .ok (.putfield 12, 3) := by decide +kernel
theorem dX0_init_15 : decode cX0_init 15 = .ok (.aload_n 0, 1) := by decide +kernel
theorem dX0_init_16 : decode cX0_init 16 = .ok (.new 18, 3) := by decide +kernel
theorem dX0_init_19 : decode cX0_init 19 = .ok (.dup, 1) := by decide +kernel
theorem dX0_init_20 : decode cX0_init 20 = .ok (.sipush 136, 3) := by decide +kernel
theorem dX0_init_23 : decode cX0_init 23 = .ok (.invokespecial 20, 3) := by decide +kernel
theorem dX0_init_26 : decode cX0_init 26 = .ok (.putfield 23, 3) := by decide +kernel
theorem dX0_init_29 : decode cX0_init 29 = .ok (.aload_n 0, 1) := by decide +kernel
theorem dX0_init_30 : decode cX0_init 30 = .ok (.new 18, 3) := by decide +kernel
theorem dX0_init_33 : decode cX0_init 33 = .ok (.dup, 1) := by decide +kernel
theorem dX0_init_34 : decode cX0_init 34 = .ok (.sipush 136, 3) := by decide +kernel
theorem dX0_init_37 : decode cX0_init 37 = .ok (.invokespecial 20, 3) := by decide +kernel
theorem dX0_init_40 : decode cX0_init 40 = .ok (.putfield 27, 3) := by decide +kernel
theorem dX0_init_43 : decode cX0_init 43 = .ok (.return_, 1) := by decide +kernel
theorem dX0_of_0 : decode cX0_of 0 = .ok (.aload_n 1, 1) := by decide +kernel
theorem dX0_of_1 : decode cX0_of 1 = .ok (.aload_n 2, 1) := by decide +kernel
theorem dX0_of_2 : decode cX0_of 2 = .ok (.invokevirtual 30, 3) := by decide +kernel
theorem dX0_of_5 : decode cX0_of 5 = .ok (.ifCond .lt 7, 3) := by decide +kernel
theorem dX0_of_8 : decode cX0_of 8 = .ok (.iconst 1, 1) := by decide +kernel
theorem dX0_of_9 : decode cX0_of 9 = .ok (.goto 4, 3) := by decide +kernel
theorem dX0_of_12 : decode cX0_of 12 = .ok (.iconst 0, 1) := by decide +kernel
theorem dX0_of_13 : decode cX0_of 13 = .ok (.istore_n 3, 1) := by decide +kernel
theorem dX0_of_14 : decode cX0_of 14 = .ok (.aload_n 0, 1) := by decide +kernel
theorem dX0_of_15 : decode cX0_of 15 = .ok (.getfield 23, 3) := by decide +kernel
theorem dX0_of_18 : decode cX0_of 18 = .ok (.iload_n 3, 1) := by decide +kernel
theorem dX0_of_19 : decode cX0_of 19 = .ok (.ifCond .eq 7, 3) := by decide +kernel
theorem dX0_of_22 : decode cX0_of 22 = .ok (.aload_n 1, 1) := by decide +kernel
theorem dX0_of_23 : decode cX0_of 23 = .ok (.goto 4, 3) := by decide +kernel
theorem dX0_of_26 : decode cX0_of 26 = .ok (.aload_n 2, 1) := by decide +kernel
theorem dX0_of_27 : decode cX0_of 27 = .ok (.invokevirtual 34, 3) := by decide +kernel
theorem dX0_of_30 : decode cX0_of 30 = .ok (.aload_n 0, 1) := by decide +kernel
theorem dX0_of_31 : decode cX0_of 31 = .ok (.getfield 27, 3) := by decide +kernel
theorem dX0_of_34 : decode cX0_of 34 = .ok (.iload_n 3, 1) := by decide +kernel
theorem dX0_of_35 : decode cX0_of 35 = .ok (.ifCond .eq 7, 3) := by decide +kernel
theorem dX0_of_38 : decode cX0_of 38 = .ok (.aload_n 2, 1) := by decide +kernel
theorem dX0_of_39 : decode cX0_of 39 = .ok (.goto 4, 3) := by decide +kernel
theorem dX0_of_42 : decode cX0_of 42 = .ok (.aload_n 1, 1) := by decide +kernel
theorem dX0_of_43 : decode cX0_of 43 = .ok (.invokevirtual 34, 3) := by decide +kernel
theorem dX0_of_46 : decode cX0_of 46 = .ok (.iconst 0, 1) := by decide +kernel
theorem dX0_of_47 : decode cX0_of 47 = .ok (.istore 4, 2) := by decide +kernel
theorem dX0_of_49 : decode cX0_of 49 = .ok (.iload 4, 2) := by decide +kernel
theorem dX0_of_51 : decode cX0_of 51 = .ok (.sipush 10000, 3) := by decide +kernel
theorem dX0_of_54 : decode cX0_of 54 = .ok (.if_icmp .ge 91, 3) := by decide +kernel
theorem dX0_of_57 : decode cX0_of 57 = .ok (.aload_n 0, 1) := by decide +kernel
theorem dX0_of_58 : decode cX0_of 58 = .ok (.getfield 27, 3) := by decide +kernel
theorem dX0_of_61 : decode cX0_of 61 = .ok (.invokevirtual 38, 3) := by decide +kernel
theorem dX0_of_64 : decode cX0_of 64 = .ok (.ifCond .ne 81, 3) := by decide +kernel
theorem dX0_of_67 : decode cX0_of 67 = .ok (.aload_n 0, 1) := by decide +kernel
theorem dX0_of_68 : decode cX0_of 68 = .ok (.getfield 23, 3) := by decide +kernel
theorem dX0_of_71 : decode cX0_of 71 = .ok (.getfield 42, 3) := by decide +kernel
theorem dX0_of_74 : decode cX0_of 74 = .ok (.iconst 2, 1) := by decide +kernel
theorem dX0_of_75 : decode cX0_of 75 = .ok (.if_icmp .gt 10, 3) := by decide +kernel
theorem dX0_of_78 : decode cX0_of 78 = .ok (.aload_n 0, 1) := by decide +kernel
theorem dX0_of_79 : decode cX0_of 79 = .ok (.invokevirtual 46, 3) := by decide +kernel
theorem dX0_of_82 : decode cX0_of 82 = .ok (.goto 57, 3) := by decide +kernel
theorem dX0_of_85 : decode cX0_of 85 = .ok (.aload_n 0, 1) := by decide +kernel
theorem dX0_of_86 : decode cX0_of 86 = .ok (.invokevirtual 49, 3) := by decide +kernel
theorem dX0_of_89 : decode cX0_of 89 = .ok (.ifCond .eq 10, 3) := by decide +kernel
theorem dX0_of_92 : decode cX0_of 92 = .ok (.aload_n 0, 1) := by decide +kernel
theorem dX0_of_93 : decode cX0_of 93 = .ok (.invokevirtual 52, 3) := by decide +kernel
theorem dX0_of_96 : decode cX0_of 96 = .ok (.goto 43, 3) := by decide +kernel
theorem dX0_of_99 : decode cX0_of 99 = .ok (.aload_n 0, 1) := by decide +kernel
theorem dX0_of_100 : decode cX0_of 100 = .ok (.getfield 12, 3) := by decide +kernel
theorem dX0_of_103 : decode cX0_of 103 = .ok (.aload_n 0, 1) := by decide +kernel
theorem dX0_of_104 : decode cX0_of 104 = .ok (.getfield 23, 3) := by decide +kernel
theorem dX0_of_107 : decode cX0_of 107 = .ok (.aload_n 0, 1) := by decide +kernel
theorem dX0_of_108 : decode cX0_of 108 = .ok (.getfield 27, 3) := by decide +kernel
theorem dX0_of_111 : decode cX0_of 111 = .ok (.invokevirtual 55, 3) := by decide +kernel
theorem dX0_of_114 : decode cX0_of 114 = .ok (.aload_n 0, 1) := by decide +kernel
theorem dX0_of_115 : decode cX0_of 115 = .ok (.getfield 23, 3) := by decide +kernel
theorem dX0_of_118 : decode cX0_of 118 = .ok (.aload_n 0, 1) := by decide +kernel
theorem dX0_of_119 : decode cX0_of 119 = .ok (.getfield 27, 3) := by decide +kernel
theorem dX0_of_122 : decode cX0_of 122 = .ok (.invokevirtual 34, 3) := by decide +kernel
theorem dX0_of_125 : decode cX0_of 125 = .ok (.aload_n 0, 1) := by decide +kernel
theorem dX0_of_126 : decode cX0_of 126 = .ok (.getfield 27, 3) := by decide +kernel
theorem dX0_of_129 : decode cX0_of 129 = .ok (.aload_n 0, 1) := by decide +kernel
theorem dX0_of_130 : decode cX0_of 130 = .ok (.getfield 12, 3) := by decide +kernel
theorem dX0_of_133 : decode cX0_of 133 = .ok (.getfield 59, 3) := by decide +kernel
theorem dX0_of_136 : decode cX0_of 136 = .ok (.invokevirtual 34, 3) := by decide +kernel
theorem dX0_of_139 : decode cX0_of 139 = .ok (.iinc 4 1, 3) := by decide +kernel
theorem dX0_of_142 : decode cX0_of 142 = .ok (.goto (-93), 3) := by decide +kernel
theorem dX0_of_145 : decode cX0_of 145 = .ok (.aload_n 0, 1) := by decide +kernel
theorem dX0_of_146 : decode cX0_of 146 = .ok (.getfield 23, 3) := by decide +kernel
theorem dX0_of_149 : decode cX0_of 149 = .ok (.areturn, 1) := by decide +kernel
theorem dX0_finishShort_0 : decode cX0_finishShort 0 = .ok (.aload_n 0, 1) := by decide +kernel
theorem dX0_finishShort_1 : decode cX0_finishShort 1 = .ok (.getfield 23, 3) := by decide +kernel
theorem dX0_finishShort_4 : decode cX0_finishShort 4 = .ok (.invokevirtual 62, 3) := by decide +kernel
theorem dX0_finishShort_7 : decode cX0_finishShort 7 = .ok (.lstore_n 1, 1) := by decide +kernel
theorem dX0_finishShort_8 : decode cX0_finishShort 8 = .ok (.aload_n 0, 1) := by decide +kernel
theorem dX0_finishShort_9 : decode cX0_finishShort 9 = .ok (.getfield 27, 3) := by decide +kernel
theorem dX0_finishShort_12 : decode cX0_finishShort 12 = .ok (.invokevirtual 62, 3) := by decide +kernel
theorem dX0_finishShort_15 : decode cX0_finishShort 15 = .ok (.lstore_n 3, 1) := by decide +kernel
theorem dX0_finishShort_16 : decode cX0_finishShort 16 = .ok (.iconst 0, 1) := by decide +kernel
theorem dX0_finishShort_17 : decode cX0_finishShort 17 = .ok (.istore 5, 2) := by decide +kernel
theorem dX0_finishShort_19 : decode cX0_finishShort 19 = .ok (.iload 5, 2) := by decide +kernel
theorem dX0_finishShort_21 : decode cX0_finishShort 21 = .ok (.bipush 100, 2) := by decide +kernel
theorem dX0_finishShort_23 : decode cX0_finishShort 23 = .ok (.if_icmp .ge 25, 3) := by decide +kernel
theorem dX0_finishShort_26 : decode cX0_finishShort 26 = .ok (.lload_n 3, 1) := by decide +kernel
theorem dX0_finishShort_27 : decode cX0_finishShort 27 = .ok (.lconst 0, 1) := by decide +kernel
theorem dX0_finishShort_28 : decode cX0_finishShort 28 = .ok (.lcmp, 1) := by decide +kernel
theorem dX0_finishShort_29 : decode cX0_finishShort 29 = .ok (.ifCond .eq 19, 3) := by decide +kernel
theorem dX0_finishShort_32 : decode cX0_finishShort 32 = .ok (.lload_n 1, 1) := by decide +kernel
theorem dX0_finishShort_33 : decode cX0_finishShort 33 = .ok (.lload_n 3, 1) := by decide +kernel
theorem dX0_finishShort_34 : decode cX0_finishShort 34 = .ok (.lrem, 1) := by decide +kernel
theorem dX0_finishShort_35 : decode cX0_finishShort 35 = .ok (.lstore 6, 2) := by decide +kernel
theorem dX0_finishShort_37 : decode cX0_finishShort 37 = .ok (.lload_n 3, 1) := by decide +kernel
theorem dX0_finishShort_38 : decode cX0_finishShort 38 = .ok (.lstore_n 1, 1) := by decide +kernel
theorem dX0_finishShort_39 : decode cX0_finishShort 39 = .ok (.lload 6, 2) := by decide +kernel
theorem dX0_finishShort_41 : decode cX0_finishShort 41 = .ok (.lstore_n 3, 1) := by decide +kernel
theorem dX0_finishShort_42 : decode cX0_finishShort 42 = .ok (.iinc 5 1, 3) := by decide +kernel
theorem dX0_finishShort_45 : decode cX0_finishShort 45 = .ok (.goto (-26), 3) := by decide +kernel
theorem dX0_finishShort_48 : decode cX0_finishShort 48 = .ok (.aload_n 0, 1) := by decide +kernel
theorem dX0_finishShort_49 : decode cX0_finishShort 49 = .ok (.getfield 23, 3) := by decide +kernel
theorem dX0_finishShort_52 : decode cX0_finishShort 52 = .ok (.lload_n 1, 1) := by decide +kernel
theorem dX0_finishShort_53 : decode cX0_finishShort 53 = .ok (.invokevirtual 66, 3) := by decide +kernel
theorem dX0_finishShort_56 : decode cX0_finishShort 56 = .ok (.aload_n 0, 1) := by decide +kernel
theorem dX0_finishShort_57 : decode cX0_finishShort 57 = .ok (.getfield 27, 3) := by decide +kernel
theorem dX0_finishShort_60 : decode cX0_finishShort 60 = .ok (.lload_n 3, 1) := by decide +kernel
theorem dX0_finishShort_61 : decode cX0_finishShort 61 = .ok (.invokevirtual 66, 3) := by decide +kernel
theorem dX0_finishShort_64 : decode cX0_finishShort 64 = .ok (.return_, 1) := by decide +kernel
theorem dX0_findPass_0 : decode cX0_findPass 0 = .ok (.aload_n 0, 1) := by decide +kernel
theorem dX0_findPass_1 : decode cX0_findPass 1 = .ok (.getfield 23, 3) := by decide +kernel
theorem dX0_findPass_4 : decode cX0_findPass 4 = .ok (.invokevirtual 70, 3) := by decide +kernel
theorem dX0_findPass_7 : decode cX0_findPass 7 = .ok (.bipush 62, 2) := by decide +kernel
theorem dX0_findPass_9 : decode cX0_findPass 9 = .ok (.isub, 1) := by decide +kernel
theorem dX0_findPass_10 : decode cX0_findPass 10 = .ok (.istore_n 1, 1) := by decide +kernel
theorem dX0_findPass_11 : decode cX0_findPass 11 = .ok (.aload_n 0, 1) := by decide +kernel
theorem dX0_findPass_12 : decode cX0_findPass 12 = .ok (.getfield 23, 3) := by decide +kernel
theorem dX0_findPass_15 : decode cX0_findPass 15 = .ok (.iload_n 1, 1) := by decide +kernel
theorem dX0_findPass_16 : decode cX0_findPass 16 = .ok (.invokevirtual 74, 3) := by decide +kernel
theorem dX0_findPass_19 : decode cX0_findPass 19 = .ok (.lstore_n 2, 1) := by decide +kernel
theorem dX0_findPass_20 : decode cX0_findPass 20 = .ok (.aload_n 0, 1) := by decide +kernel
theorem dX0_findPass_21 : decode cX0_findPass 21 = .ok (.getfield 27, 3) := by decide +kernel
theorem dX0_findPass_24 : decode cX0_findPass 24 = .ok (.iload_n 1, 1) := by decide +kernel
theorem dX0_findPass_25 : decode cX0_findPass 25 = .ok (.invokevirtual 74, 3) := by decide +kernel
theorem dX0_findPass_28 : decode cX0_findPass 28 = .ok (.lstore 4, 2) := by decide +kernel
theorem dX0_findPass_30 : decode cX0_findPass 30 = .ok (.aload_n 0, 1) := by decide +kernel
theorem dX0_findPass_31 : decode cX0_findPass 31 = .ok (.lconst 1, 1) := by decide +kernel
theorem dX0_findPass_32 : decode cX0_findPass 32 = .ok (.putfield 78, 3) := by decide +kernel
theorem dX0_findPass_35 : decode cX0_findPass 35 = .ok (.aload_n 0, 1) := by decide +kernel
theorem dX0_findPass_36 : decode cX0_findPass 36 = .ok (.lconst 0, 1) := by decide +kernel
theorem dX0_findPass_37 : decode cX0_findPass 37 = .ok (.putfield 82, 3) := by decide +kernel
theorem dX0_findPass_40 : decode cX0_findPass 40 = .ok (.aload_n 0, 1) := by decide +kernel
theorem dX0_findPass_41 : decode cX0_findPass 41 = .ok (.lconst 0, 1) := by decide +kernel
theorem dX0_findPass_42 : decode cX0_findPass 42 = .ok (.putfield 85, 3) := by decide +kernel
theorem dX0_findPass_45 : decode cX0_findPass 45 = .ok (.aload_n 0, 1) := by decide +kernel
theorem dX0_findPass_46 : decode cX0_findPass 46 = .ok (.lconst 1, 1) := by decide +kernel
theorem dX0_findPass_47 : decode cX0_findPass 47 = .ok (.putfield 88, 3) := by decide +kernel
theorem dX0_findPass_50 : decode cX0_findPass 50 = .ok (.iconst 0, 1) := by decide +kernel
theorem dX0_findPass_51 : decode cX0_findPass 51 = .ok (.istore 6, 2) := by decide +kernel
theorem dX0_findPass_53 : decode cX0_findPass 53 = .ok (.iload 6, 2) := by decide +kernel
theorem dX0_findPass_55 : decode cX0_findPass 55 = .ok (.bipush 100, 2) := by decide +kernel
theorem dX0_findPass_57 : decode cX0_findPass 57 = .ok (.if_icmp .ge 180, 3) := by decide +kernel
theorem dX0_findPass_60 : decode cX0_findPass 60 = .ok (.lload 4, 2) := by decide +kernel
theorem dX0_findPass_62 : decode cX0_findPass 62 = .ok (.aload_n 0, 1) := by decide +kernel
theorem dX0_findPass_63 : decode cX0_findPass 63 = .ok (.getfield 85, 3) := by decide +kernel
theorem dX0_findPass_66 : decode cX0_findPass 66 = .ok (.ladd, 1) := by decide +kernel
theorem dX0_findPass_67 : decode cX0_findPass 67 = .ok (.lconst 0, 1) := by decide +kernel
theorem dX0_findPass_68 : decode cX0_findPass 68 = .ok (.lcmp, 1) := by decide +kernel
theorem dX0_findPass_69 : decode cX0_findPass 69 = .ok (.ifCond .le 168, 3) := by decide +kernel
theorem dX0_findPass_72 : decode cX0_findPass 72 = .ok (.lload 4, 2) := by decide +kernel
theorem dX0_findPass_74 : decode cX0_findPass 74 = .ok (.aload_n 0, 1) := by decide +kernel
theorem dX0_findPass_75 : decode cX0_findPass 75 = .ok (.getfield 88, 3) := by decide +kernel
theorem dX0_findPass_78 : decode cX0_findPass 78 = .ok (.ladd, 1) := by decide +kernel
theorem dX0_findPass_79 : decode cX0_findPass 79 = .ok (.lconst 0, 1) := by decide +kernel
theorem dX0_findPass_80 : decode cX0_findPass 80 = .ok (.lcmp, 1) := by decide +kernel
theorem dX0_findPass_81 : decode cX0_findPass 81 = .ok (.ifCond .le 156, 3) := by decide +kernel
theorem dX0_findPass_84 : decode cX0_findPass 84 = .ok (.lload_n 2, 1) := by decide +kernel
theorem dX0_findPass_85 : decode cX0_findPass 85 = .ok (.aload_n 0, 1) := by decide +kernel
theorem dX0_findPass_86 : decode cX0_findPass 86 = .ok (.getfield 78, 3) := by decide +kernel
theorem dX0_findPass_89 : decode cX0_findPass 89 = .ok (.ladd, 1) := by decide +kernel
theorem dX0_findPass_90 : decode cX0_findPass 90 = .ok (.lload 4, 2) := by decide +kernel
theorem dX0_findPass_92 : decode cX0_findPass 92 = .ok (.aload_n 0, 1) := by decide +kernel
theorem dX0_findPass_93 : decode cX0_findPass 93 = .ok (.getfield 85, 3) := by decide +kernel
theorem dX0_findPass_96 : decode cX0_findPass 96 = .ok (.ladd, 1) := by decide +kernel
theorem dX0_findPass_97 : decode cX0_findPass 97 = .ok (.ldiv, 1) := by decide +kernel
theorem dX0_findPass_98 : decode cX0_findPass 98 = .ok (.lstore 7, 2) := by decide +kernel
theorem dX0_findPass_100 : decode cX0_findPass 100 = .ok (.lload 7, 2) := by decide +kernel
theorem dX0_findPass_102 : decode cX0_findPass 102 = .ok (.lload_n 2, 1) := by decide +kernel
theorem dX0_findPass_103 : decode cX0_findPass 103 = .ok (.aload_n 0, 1) := by decide +kernel
theorem dX0_findPass_104 : decode cX0_findPass 104 = .ok (.getfield 82, 3) := by decide +kernel
theorem dX0_findPass_107 : decode cX0_findPass 107 = .ok (.ladd, 1) := by decide +kernel
theorem dX0_findPass_108 : decode cX0_findPass 108 = .ok (.lload 4, 2) := by decide +kernel
theorem dX0_findPass_110 : decode cX0_findPass 110 = .ok (.aload_n 0, 1) := by decide +kernel
theorem dX0_findPass_111 : decode cX0_findPass 111 = .ok (.getfield 88, 3) := by decide +kernel
theorem dX0_findPass_114 : decode cX0_findPass 114 = .ok (.ladd, 1) := by decide +kernel
theorem dX0_findPass_115 : decode cX0_findPass 115 = .ok (.ldiv, 1) := by decide +kernel
theorem dX0_findPass_116 : decode cX0_findPass 116 = .ok (.lcmp, 1) := by decide +kernel
theorem dX0_findPass_117 : decode cX0_findPass 117 = .ok (.ifCond .ne 120, 3) := by decide +kernel
theorem dX0_findPass_120 : decode cX0_findPass 120 = .ok (.lload 7, 2) := by decide +kernel
theorem dX0_findPass_122 : decode cX0_findPass 122 = .ok (.ldc2_w 91, 3) := by decide +kernel
theorem dX0_findPass_125 : decode cX0_findPass 125 = .ok (.lcmp, 1) := by decide +kernel
theorem dX0_findPass_126 : decode cX0_findPass 126 = .ok (.ifCond .le 6, 3) := by decide +kernel
theorem dX0_findPass_129 : decode cX0_findPass 129 = .ok (.goto 108, 3) := by decide +kernel
theorem dX0_findPass_132 : decode cX0_findPass 132 = .ok (.aload_n 0, 1) := by decide +kernel
theorem dX0_findPass_133 : decode cX0_findPass 133 = .ok (.getfield 78, 3) := by decide +kernel
theorem dX0_findPass_136 : decode cX0_findPass 136 = .ok (.lload 7, 2) := by decide +kernel
theorem dX0_findPass_138 : decode cX0_findPass 138 = .ok (.aload_n 0, 1) := by decide +kernel
theorem dX0_findPass_139 : decode cX0_findPass 139 = .ok (.getfield 85, 3) := by decide +kernel
theorem dX0_findPass_142 : decode cX0_findPass 142 = .ok (.lmul, 1) := by decide +kernel
theorem dX0_findPass_143 : decode cX0_findPass 143 = .ok (.lsub, 1) := by decide +kernel
theorem dX0_findPass_144 : decode cX0_findPass 144 = .ok (.lstore 9, 2) := by decide +kernel
theorem dX0_findPass_146 : decode cX0_findPass 146 = .ok (.aload_n 0, 1) := by decide +kernel
theorem dX0_findPass_147 : decode cX0_findPass 147 = .ok (.getfield 82, 3) := by decide +kernel
theorem dX0_findPass_150 : decode cX0_findPass 150 = .ok (.lload 7, 2) := by decide +kernel
theorem dX0_findPass_152 : decode cX0_findPass 152 = .ok (.aload_n 0, 1) := by decide +kernel
theorem dX0_findPass_153 : decode cX0_findPass 153 = .ok (.getfield 88, 3) := by decide +kernel
theorem dX0_findPass_156 : decode cX0_findPass 156 = .ok (.lmul, 1) := by decide +kernel
theorem dX0_findPass_157 : decode cX0_findPass 157 = .ok (.lsub, 1) := by decide +kernel
theorem dX0_findPass_158 : decode cX0_findPass 158 = .ok (.lstore 11, 2) := by decide +kernel
theorem dX0_findPass_160 : decode cX0_findPass 160 = .ok (.lload 9, 2) := by decide +kernel
theorem dX0_findPass_162 : decode cX0_findPass 162 = .ok (.invokestatic 93, 3) := by decide +kernel
theorem dX0_findPass_165 : decode cX0_findPass 165 = .ok (.ldc2_w 91, 3) := by decide +kernel
theorem dX0_findPass_168 : decode cX0_findPass 168 = .ok (.lcmp, 1) := by decide +kernel
theorem dX0_findPass_169 : decode cX0_findPass 169 = .ok (.ifCond .gt 68, 3) := by decide +kernel
theorem dX0_findPass_172 : decode cX0_findPass 172 = .ok (.lload 11, 2) := by decide +kernel
theorem dX0_findPass_174 : decode cX0_findPass 174 = .ok (.invokestatic 93, 3) := by decide +kernel
theorem dX0_findPass_177 : decode cX0_findPass 177 = .ok (.ldc2_w 91, 3) := by decide +kernel
theorem dX0_findPass_180 : decode cX0_findPass 180 = .ok (.lcmp, 1) := by decide +kernel
theorem dX0_findPass_181 : decode cX0_findPass 181 = .ok (.ifCond .le 6, 3) := by decide +kernel
theorem dX0_findPass_184 : decode cX0_findPass 184 = .ok (.goto 53, 3) := by decide +kernel
theorem dX0_findPass_187 : decode cX0_findPass 187 = .ok (.aload_n 0, 1) := by decide +kernel
theorem dX0_findPass_188 : decode cX0_findPass 188 = .ok (.aload_n 0, 1) := by decide +kernel
theorem dX0_findPass_189 : decode cX0_findPass 189 = .ok (.getfield 85, 3) := by decide +kernel
theorem dX0_findPass_192 : decode cX0_findPass 192 = .ok (.putfield 78, 3) := by decide +kernel
theorem dX0_findPass_195 : decode cX0_findPass 195 = .ok (.aload_n 0, 1) := by decide +kernel
theorem dX0_findPass_196 : decode cX0_findPass 196 = .ok (.aload_n 0, 1) := by decide +kernel
theorem dX0_findPass_197 : decode cX0_findPass 197 = .ok (.getfield 88, 3) := by decide +kernel
theorem dX0_findPass_200 : decode cX0_findPass 200 = .ok (.putfield 82, 3) := by decide +kernel
theorem dX0_findPass_203 : decode cX0_findPass 203 = .ok (.aload_n 0, 1) := by decide +kernel
theorem dX0_findPass_204 : decode cX0_findPass 204 = .ok (.lload 9, 2) := by decide +kernel
theorem dX0_findPass_206 : decode cX0_findPass 206 = .ok (.putfield 85, 3) := by decide +kernel
theorem dX0_findPass_209 : decode cX0_findPass 209 = .ok (.aload_n 0, 1) := by decide +kernel
theorem dX0_findPass_210 : decode cX0_findPass 210 = .ok (.lload 11, 2) := by decide +kernel
theorem dX0_findPass_212 : decode cX0_findPass 212 = .ok (.putfield 88, 3) := by decide +kernel
theorem dX0_findPass_215 : decode cX0_findPass 215 = .ok (.lload_n 2, 1) := by decide +kernel
theorem dX0_findPass_216 : decode cX0_findPass 216 = .ok (.lload 7, 2) := by decide +kernel
theorem dX0_findPass_218 : decode cX0_findPass 218 = .ok (.lload 4, 2) := by decide +kernel
theorem dX0_findPass_220 : decode cX0_findPass 220 = .ok (.lmul, 1) := by decide +kernel
theorem dX0_findPass_221 : decode cX0_findPass 221 = .ok (.lsub, 1) := by decide +kernel
theorem dX0_findPass_222 : decode cX0_findPass 222 = .ok (.lstore 13, 2) := by decide +kernel
theorem dX0_findPass_224 : decode cX0_findPass 224 = .ok (.lload 4, 2) := by decide +kernel
theorem dX0_findPass_226 : decode cX0_findPass 226 = .ok (.lstore_n 2, 1) := by decide +kernel
theorem dX0_findPass_227 : decode cX0_findPass 227 = .ok (.lload 13, 2) := by decide +kernel
theorem dX0_findPass_229 : decode cX0_findPass 229 = .ok (.lstore 4, 2) := by decide +kernel
theorem dX0_findPass_231 : decode cX0_findPass 231 = .ok (.iinc 6 1, 3) := by decide +kernel
theorem dX0_findPass_234 : decode cX0_findPass 234 = .ok (.goto (-181), 3) := by decide +kernel
theorem dX0_findPass_237 : decode cX0_findPass 237 = .ok (.aload_n 0, 1) := by decide +kernel
theorem dX0_findPass_238 : decode cX0_findPass 238 = .ok (.getfield 82, 3) := by decide +kernel
theorem dX0_findPass_241 : decode cX0_findPass 241 = .ok (.lconst 0, 1) := by decide +kernel
theorem dX0_findPass_242 : decode cX0_findPass 242 = .ok (.lcmp, 1) := by decide +kernel
theorem dX0_findPass_243 : decode cX0_findPass 243 = .ok (.ifCond .eq 7, 3) := by decide +kernel
theorem dX0_findPass_246 : decode cX0_findPass 246 = .ok (.iconst 1, 1) := by decide +kernel
theorem dX0_findPass_247 : decode cX0_findPass 247 = .ok (.goto 4, 3) := by decide +kernel
theorem dX0_findPass_250 : decode cX0_findPass 250 = .ok (.iconst 0, 1) := by decide +kernel
theorem dX0_findPass_251 : decode cX0_findPass 251 = .ok (.ireturn, 1) := by decide +kernel
theorem dX0_doPass_0 : decode cX0_doPass 0 = .ok (.aload_n 0, 1) := by decide +kernel
theorem dX0_doPass_1 : decode cX0_doPass 1 = .ok (.getfield 23, 3) := by decide +kernel
theorem dX0_doPass_4 : decode cX0_doPass 4 = .ok (.getfield 42, 3) := by decide +kernel
theorem dX0_doPass_7 : decode cX0_doPass 7 = .ok (.istore_n 1, 1) := by decide +kernel
theorem dX0_doPass_8 : decode cX0_doPass 8 = .ok (.lconst 0, 1) := by decide +kernel
theorem dX0_doPass_9 : decode cX0_doPass 9 = .ok (.lstore_n 2, 1) := by decide +kernel
theorem dX0_doPass_10 : decode cX0_doPass 10 = .ok (.lconst 0, 1) := by decide +kernel
theorem dX0_doPass_11 : decode cX0_doPass 11 = .ok (.lstore 4, 2) := by decide +kernel
theorem dX0_doPass_13 : decode cX0_doPass 13 = .ok (.iconst 0, 1) := by decide +kernel
theorem dX0_doPass_14 : decode cX0_doPass 14 = .ok (.istore 6, 2) := by decide +kernel
theorem dX0_doPass_16 : decode cX0_doPass 16 = .ok (.iload 6, 2) := by decide +kernel
theorem dX0_doPass_18 : decode cX0_doPass 18 = .ok (.iload_n 1, 1) := by decide +kernel
theorem dX0_doPass_19 : decode cX0_doPass 19 = .ok (.if_icmp .ge 117, 3) := by decide +kernel
theorem dX0_doPass_22 : decode cX0_doPass 22 = .ok (.aload_n 0, 1) := by decide +kernel
theorem dX0_doPass_23 : decode cX0_doPass 23 = .ok (.getfield 23, 3) := by decide +kernel
theorem dX0_doPass_26 : decode cX0_doPass 26 = .ok (.getfield 99, 3) := by decide +kernel
theorem dX0_doPass_29 : decode cX0_doPass 29 = .ok (.iload 6, 2) := by decide +kernel
theorem dX0_doPass_31 : decode cX0_doPass 31 = .ok (.iaload, 1) := by decide +kernel
theorem dX0_doPass_32 : decode cX0_doPass 32 = .ok (.i2l, 1) := by decide +kernel
theorem dX0_doPass_33 : decode cX0_doPass 33 = .ok (.lstore 7, 2) := by decide +kernel
theorem dX0_doPass_35 : decode cX0_doPass 35 = .ok (.aload_n 0, 1) := by decide +kernel
theorem dX0_doPass_36 : decode cX0_doPass 36 = .ok (.getfield 27, 3) := by decide +kernel
theorem dX0_doPass_39 : decode cX0_doPass 39 = .ok (.iload 6, 2) := by decide +kernel
theorem dX0_doPass_41 : decode cX0_doPass 41 = .ok (.invokevirtual 103, 3) := by decide +kernel
theorem dX0_doPass_44 : decode cX0_doPass 44 = .ok (.i2l, 1) := by decide +kernel
theorem dX0_doPass_45 : decode cX0_doPass 45 = .ok (.lstore 9, 2) := by decide +kernel
theorem dX0_doPass_47 : decode cX0_doPass 47 = .ok (.lload_n 2, 1) := by decide +kernel
theorem dX0_doPass_48 : decode cX0_doPass 48 = .ok (.aload_n 0, 1) := by decide +kernel
theorem dX0_doPass_49 : decode cX0_doPass 49 = .ok (.getfield 78, 3) := by decide +kernel
theorem dX0_doPass_52 : decode cX0_doPass 52 = .ok (.lload 7, 2) := by decide +kernel
theorem dX0_doPass_54 : decode cX0_doPass 54 = .ok (.lmul, 1) := by decide +kernel
theorem dX0_doPass_55 : decode cX0_doPass 55 = .ok (.aload_n 0, 1) := by decide +kernel
theorem dX0_doPass_56 : decode cX0_doPass 56 = .ok (.getfield 82, 3) := by decide +kernel
theorem dX0_doPass_59 : decode cX0_doPass 59 = .ok (.lload 9, 2) := by decide +kernel
theorem dX0_doPass_61 : decode cX0_doPass 61 = .ok (.lmul, 1) := by decide +kernel
theorem dX0_doPass_62 : decode cX0_doPass 62 = .ok (.ladd, 1) := by decide +kernel
theorem dX0_doPass_63 : decode cX0_doPass 63 = .ok (.ladd, 1) := by decide +kernel
theorem dX0_doPass_64 : decode cX0_doPass 64 = .ok (.lstore_n 2, 1) := by decide +kernel
theorem dX0_doPass_65 : decode cX0_doPass 65 = .ok (.lload 4, 2) := by decide +kernel
theorem dX0_doPass_67 : decode cX0_doPass 67 = .ok (.aload_n 0, 1) := by decide +kernel
theorem dX0_doPass_68 : decode cX0_doPass 68 = .ok (.getfield 85, 3) := by decide +kernel
theorem dX0_doPass_71 : decode cX0_doPass 71 = .ok (.lload 7, 2) := by decide +kernel
theorem dX0_doPass_73 : decode cX0_doPass 73 = .ok (.lmul, 1) := by decide +kernel
theorem dX0_doPass_74 : decode cX0_doPass 74 = .ok (.aload_n 0, 1) := by decide +kernel
theorem dX0_doPass_75 : decode cX0_doPass 75 = .ok (.getfield 88, 3) := by decide +kernel
theorem dX0_doPass_78 : decode cX0_doPass 78 = .ok (.lload 9, 2) := by decide +kernel
theorem dX0_doPass_80 : decode cX0_doPass 80 = .ok (.lmul, 1) := by decide +kernel
theorem dX0_doPass_81 : decode cX0_doPass 81 = .ok (.ladd, 1) := by decide +kernel
theorem dX0_doPass_82 : decode cX0_doPass 82 = .ok (.ladd, 1) := by decide +kernel
theorem dX0_doPass_83 : decode cX0_doPass 83 = .ok (.lstore 4, 2) := by decide +kernel
theorem dX0_doPass_85 : decode cX0_doPass 85 = .ok (.aload_n 0, 1) := by decide +kernel
theorem dX0_doPass_86 : decode cX0_doPass 86 = .ok (.getfield 23, 3) := by decide +kernel
theorem dX0_doPass_89 : decode cX0_doPass 89 = .ok (.getfield 99, 3) := by decide +kernel
theorem dX0_doPass_92 : decode cX0_doPass 92 = .ok (.iload 6, 2) := by decide +kernel
theorem dX0_doPass_94 : decode cX0_doPass 94 = .ok (.lload_n 2, 1) := by decide +kernel
theorem dX0_doPass_95 : decode cX0_doPass 95 = .ok (.ldc2_w 91, 3) := by decide +kernel
theorem dX0_doPass_98 : decode cX0_doPass 98 = .ok (.land, 1) := by decide +kernel
theorem dX0_doPass_99 : decode cX0_doPass 99 = .ok (.l2i, 1) := by decide +kernel
theorem dX0_doPass_100 : decode cX0_doPass 100 = .ok (.iastore, 1) := by decide +kernel
theorem dX0_doPass_101 : decode cX0_doPass 101 = .ok (.aload_n 0, 1) := by decide +kernel
theorem dX0_doPass_102 : decode cX0_doPass 102 = .ok (.getfield 27, 3) := by decide +kernel
theorem dX0_doPass_105 : decode cX0_doPass 105 = .ok (.getfield 99, 3) := by decide +kernel
theorem dX0_doPass_108 : decode cX0_doPass 108 = .ok (.iload 6, 2) := by decide +kernel
theorem dX0_doPass_110 : decode cX0_doPass 110 = .ok (.lload 4, 2) := by decide +kernel
theorem dX0_doPass_112 : decode cX0_doPass 112 = .ok (.ldc2_w 91, 3) := by decide +kernel
theorem dX0_doPass_115 : decode cX0_doPass 115 = .ok (.land, 1) := by decide +kernel
theorem dX0_doPass_116 : decode cX0_doPass 116 = .ok (.l2i, 1) := by decide +kernel
theorem dX0_doPass_117 : decode cX0_doPass 117 = .ok (.iastore, 1) := by decide +kernel
theorem dX0_doPass_118 : decode cX0_doPass 118 = .ok (.lload_n 2, 1) := by decide +kernel
theorem dX0_doPass_119 : decode cX0_doPass 119 = .ok (.bipush 31, 2) := by decide +kernel
theorem dX0_doPass_121 : decode cX0_doPass 121 = .ok (.lshr, 1) := by decide +kernel
theorem dX0_doPass_122 : decode cX0_doPass 122 = .ok (.lstore_n 2, 1) := by decide +kernel
theorem dX0_doPass_123 : decode cX0_doPass 123 = .ok (.lload 4, 2) := by decide +kernel
theorem dX0_doPass_125 : decode cX0_doPass 125 = .ok (.bipush 31, 2) := by decide +kernel
theorem dX0_doPass_127 : decode cX0_doPass 127 = .ok (.lshr, 1) := by decide +kernel
theorem dX0_doPass_128 : decode cX0_doPass 128 = .ok (.lstore 4, 2) := by decide +kernel
theorem dX0_doPass_130 : decode cX0_doPass 130 = .ok (.iinc 6 1, 3) := by decide +kernel
theorem dX0_doPass_133 : decode cX0_doPass 133 = .ok (.goto (-117), 3) := by decide +kernel
theorem dX0_doPass_136 : decode cX0_doPass 136 = .ok (.aload_n 0, 1) := by decide +kernel
theorem dX0_doPass_137 : decode cX0_doPass 137 = .ok (.getfield 23, 3) := by decide +kernel
theorem dX0_doPass_140 : decode cX0_doPass 140 = .ok (.iload_n 1, 1) := by decide +kernel
theorem dX0_doPass_141 : decode cX0_doPass 141 = .ok (.invokevirtual 107, 3) := by decide +kernel
theorem dX0_doPass_144 : decode cX0_doPass 144 = .ok (.aload_n 0, 1) := by decide +kernel
theorem dX0_doPass_145 : decode cX0_doPass 145 = .ok (.getfield 27, 3) := by decide +kernel
theorem dX0_doPass_148 : decode cX0_doPass 148 = .ok (.iload_n 1, 1) := by decide +kernel
theorem dX0_doPass_149 : decode cX0_doPass 149 = .ok (.invokevirtual 107, 3) := by decide +kernel
theorem dX0_doPass_152 : decode cX0_doPass 152 = .ok (.return_, 1) := by decide +kernel
theorem dX1_init_0 : decode cX1_init 0 = .ok (.aload_n 0, 1) := by decide +kernel
theorem dX1_init_1 : decode cX1_init 1 = .ok (.invokespecial 3, 3) := by decide +kernel
theorem dX1_init_4 : decode cX1_init 4 = .ok (.aload_n 0, 1) := by decide +kernel
theorem dX1_init_5 : decode cX1_init 5 = .ok (.new 9, 3) := by decide +kernel
theorem dX1_init_8 : decode cX1_init 8 = .ok (.dup, 1) := by decide +kernel
theorem dX1_init_9 : decode cX1_init 9 = .ok (.sipush 136, 3) := by decide +kernel
theorem dX1_init_12 : decode cX1_init 12 = .ok (.invokespecial 11, 3) := by decide +kernel
theorem dX1_init_15 : decode cX1_init 15 = .ok (.putfield 14, 3) := by decide +kernel
theorem dX1_init_18 : decode cX1_init 18 = .ok (.aload_n 0, 1) := by decide +kernel
theorem dX1_init_19 : decode cX1_init 19 = .ok (.new 9, 3) := by decide +kernel
theorem dX1_init_22 : decode cX1_init 22 = .ok (.dup, 1) := by decide +kernel
theorem dX1_init_23 : decode cX1_init 23 = .ok (.sipush 136, 3) := by decide +kernel
theorem dX1_init_26 : decode cX1_init 26 = .ok (.invokespecial 11, 3) := by decide +kernel
theorem dX1_init_29 : decode cX1_init 29 = .ok (.putfield 20, 3) := by decide +kernel
theorem dX1_init_32 : decode cX1_init 32 = .ok (.aload_n 0, 1) := by decide +kernel
theorem dX1_init_33 : decode cX1_init 33 = .ok (.new 9, 3) := by decide +kernel
theorem dX1_init_36 : decode cX1_init 36 = .ok (.dup, 1) := by decide +kernel
theorem dX1_init_37 : decode cX1_init 37 = .ok (.sipush 136, 3) := by decide +kernel
theorem dX1_init_40 : decode cX1_init 40 = .ok (.invokespecial 11, 3) := by decide +kernel
theorem dX1_init_43 : decode cX1_init 43 = .ok (.putfield 23, 3) := by decide +kernel
theorem dX1_init_46 : decode cX1_init 46 = .ok (.return_, 1) := by decide +kernel
theorem dX1_divide_0 : decode cX1_divide 0 = .ok (.aload_n 2, 1) := by decide +kernel
theorem dX1_divide_1 : decode cX1_divide 1 = .ok (.invokevirtual 26, 3) := by decide +kernel
theorem dX1_divide_4 : decode cX1_divide 4 = .ok (.ifCond .ne 11, 3) := by decide +kernel
theorem dX1_divide_7 : decode cX1_divide 7 = .ok (.aload_n 1, 1) := by decide +kernel
theorem dX1_divide_8 : decode cX1_divide 8 = .ok (.aload_n 2, 1) := by decide +kernel
theorem dX1_divide_9 : decode cX1_divide 9 = .ok (.invokevirtual 30, 3) := by decide +kernel
theorem dX1_divide_12 : decode cX1_divide 12 = .ok (.ifCond .ge 20, 3) := by decide +kernel
theorem dX1_divide_15 : decode cX1_divide 15 = .ok (.aload_n 0, 1) := by decide +kernel
theorem dX1_divide_16 : decode cX1_divide 16 = .ok (.getfield 14, 3) := by decide +kernel
theorem dX1_divide_19 : decode cX1_divide 19 = .ok (.iconst 0, 1) := by decide +kernel
theorem dX1_divide_20 : decode cX1_divide 20 = .ok (.putfield 34, 3) := by decide +kernel
theorem dX1_divide_23 : decode cX1_divide 23 = .ok (.aload_n 0, 1) := by decide +kernel
theorem dX1_divide_24 : decode cX1_divide 24 = .ok (.getfield 20, 3) := by decide +kernel
theorem dX1_divide_27 : decode cX1_divide 27 = .ok (.aload_n 1, 1) := by decide +kernel
theorem dX1_divide_28 : decode cX1_divide 28 = .ok (.invokevirtual 38, 3) := by decide +kernel
theorem dX1_divide_31 : decode cX1_divide 31 = .ok (.return_, 1) := by decide +kernel
theorem dX1_divide_32 : decode cX1_divide 32 = .ok (.aload_n 2, 1) := by decide +kernel
theorem dX1_divide_33 : decode cX1_divide 33 = .ok (.getfield 34, 3) := by decide +kernel
theorem dX1_divide_36 : decode cX1_divide 36 = .ok (.iconst 1, 1) := by decide +kernel
theorem dX1_divide_37 : decode cX1_divide 37 = .ok (.if_icmp .ne 33, 3) := by decide +kernel
theorem dX1_divide_40 : decode cX1_divide 40 = .ok (.aload_n 0, 1) := by decide +kernel
theorem dX1_divide_41 : decode cX1_divide 41 = .ok (.getfield 14, 3) := by decide +kernel
theorem dX1_divide_44 : decode cX1_divide 44 = .ok (.aload_n 1, 1) := by decide +kernel
theorem dX1_divide_45 : decode cX1_divide 45 = .ok (.invokevirtual 38, 3) := by decide +kernel
theorem dX1_divide_48 : decode cX1_divide 48 = .ok (.aload_n 0, 1) := by decide +kernel
theorem dX1_divide_49 : decode cX1_divide 49 = .ok (.getfield 20, 3) := by decide +kernel
theorem dX1_divide_52 : decode cX1_divide 52 = .ok (.aload_n 0, 1) := by decide +kernel
theorem dX1_divide_53 : decode cX1_divide 53 = .ok (.getfield 14, 3) := by decide +kernel
theorem dX1_divide_56 : decode cX1_divide 56 = .ok (.aload_n 2, 1) := by decide +kernel
theorem dX1_divide_57 : decode cX1_divide 57 = .ok (.getfield 42, 3) := by decide +kernel
theorem dX1_divide_60 : decode cX1_divide 60 = .ok (.iconst 0, 1) := by decide +kernel
theorem dX1_divide_61 : decode cX1_divide 61 = .ok (.iaload, 1) := by decide +kernel
theorem dX1_divide_62 : decode cX1_divide 62 = .ok (.invokevirtual 46, 3) := by decide +kernel
theorem dX1_divide_65 : decode cX1_divide 65 = .ok (.i2l, 1) := by decide +kernel
theorem dX1_divide_66 : decode cX1_divide 66 = .ok (.invokevirtual 50, 3) := by decide +kernel
theorem dX1_divide_69 : decode cX1_divide 69 = .ok (.return_, 1) := by decide +kernel
theorem dX1_divide_70 : decode cX1_divide 70 = .ok (.aload_n 2, 1) := by decide +kernel
theorem dX1_divide_71 : decode cX1_divide 71 = .ok (.getfield 34, 3) := by decide +kernel
theorem dX1_divide_74 : decode cX1_divide 74 = .ok (.bipush 31, 2) := by decide +kernel
theorem dX1_divide_76 : decode cX1_divide 76 = .ok (.imul, 1) := by decide +kernel
theorem dX1_divide_77 : decode cX1_divide 77 = .ok (.aload_n 2, 1) := by decide +kernel
theorem dX1_divide_78 : decode cX1_divide 78 = .ok (.invokevirtual 54, 3) := by decide +kernel
theorem dX1_divide_81 : decode cX1_divide 81 = .ok (.isub, 1) := by decide +kernel
theorem dX1_divide_82 : decode cX1_divide 82 = .ok (.istore_n 3, 1) := by decide +kernel
theorem dX1_divide_83 : decode cX1_divide 83 = .ok (.aload_n 0, 1) := by decide +kernel
theorem dX1_divide_84 : decode cX1_divide 84 = .ok (.getfield 23, 3) := by decide +kernel
theorem dX1_divide_87 : decode cX1_divide 87 = .ok (.aload_n 2, 1) := by decide +kernel
theorem dX1_divide_88 : decode cX1_divide 88 = .ok (.iload_n 3, 1) := by decide +kernel
theorem dX1_divide_89 : decode cX1_divide 89 = .ok (.invokevirtual 58, 3) := by decide +kernel
theorem dX1_divide_92 : decode cX1_divide 92 = .ok (.aload_n 0, 1) := by decide +kernel
theorem dX1_divide_93 : decode cX1_divide 93 = .ok (.getfield 20, 3) := by decide +kernel
theorem dX1_divide_96 : decode cX1_divide 96 = .ok (.aload_n 1, 1) := by decide +kernel
theorem dX1_divide_97 : decode cX1_divide 97 = .ok (.iload_n 3, 1) := by decide +kernel
theorem dX1_divide_98 : decode cX1_divide 98 = .ok (.invokevirtual 58, 3) := by decide +kernel
theorem dX1_divide_101 : decode cX1_divide 101 = .ok (.aload_n 1, 1) := by decide +kernel
theorem dX1_divide_102 : decode cX1_divide 102 = .ok (.getfield 34, 3) := by decide +kernel
theorem dX1_divide_105 : decode cX1_divide 105 = .ok (.aload_n 2, 1) := by decide +kernel
theorem dX1_divide_106 : decode cX1_divide 106 = .ok (.getfield 34, 3) := by decide +kernel
theorem dX1_divide_109 : decode cX1_divide 109 = .ok (.isub, 1) := by decide +kernel
theorem dX1_divide_110 : decode cX1_divide 110 = .ok (.istore 4, 2) := by decide +kernel
theorem dX1_divide_112 : decode cX1_divide 112 = .ok (.iload 4, 2) := by decide +kernel
theorem dX1_divide_114 : decode cX1_divide 114 = .ok (.istore 5, 2) := by decide +kernel
theorem dX1_divide_116 : decode cX1_divide 116 = .ok (.iload 5, 2) := by decide +kernel
theorem dX1_divide_118 : decode cX1_divide 118 = .ok (.ifCond .lt 49, 3) := by decide +kernel
theorem dX1_divide_121 : decode cX1_divide 121 = .ok (.aload_n 0, 1) := by decide +kernel
theorem dX1_divide_122 : decode cX1_divide 122 = .ok (.iload 5, 2) := by decide +kernel
theorem dX1_divide_124 : decode cX1_divide 124 = .ok (.invokevirtual 62, 3) := by decide +kernel
theorem dX1_divide_127 : decode cX1_divide 127 = .ok (.istore 6, 2) := by decide +kernel
theorem dX1_divide_129 : decode cX1_divide 129 = .ok (.aload_n 0, 1) := by decide +kernel
theorem dX1_divide_130 : decode cX1_divide 130 = .ok (.iload 6, 2) := by decide +kernel
theorem dX1_divide_132 : decode cX1_divide 132 = .ok (.iload 5, 2) := by decide +kernel
theorem dX1_divide_134 : decode cX1_divide 134 = .ok (.invokevirtual 65, 3) := by decide +kernel
theorem dX1_divide_137 : decode cX1_divide 137 = .ok (.ifCond .eq 12, 3) := by decide +kernel
theorem dX1_divide_140 : decode cX1_divide 140 = .ok (.aload_n 0, 1) := by decide +kernel
theorem dX1_divide_141 : decode cX1_divide 141 = .ok (.iload 5, 2) := by decide +kernel
theorem dX1_divide_143 : decode cX1_divide 143 = .ok (.invokevirtual 69, 3) := by decide +kernel
theorem dX1_divide_146 : decode cX1_divide 146 = .ok (.iinc 6 (-1), 3) := by decide +kernel
theorem dX1_divide_149 : decode cX1_divide 149 = .ok (.aload_n 0, 1) := by decide +kernel
theorem dX1_divide_150 : decode cX1_divide 150 = .ok (.getfield 14, 3) := by decide +kernel
theorem dX1_divide_153 : decode cX1_divide 153 = .ok (.getfield 42, 3) := by decide +kernel
theorem dX1_divide_156 : decode cX1_divide 156 = .ok (.iload 5, 2) := by decide +kernel
theorem dX1_divide_158 : decode cX1_divide 158 = .ok (.iload 6, 2) := by decide +kernel
theorem dX1_divide_160 : decode cX1_divide 160 = .ok (.iastore, 1) := by decide +kernel
theorem dX1_divide_161 : decode cX1_divide 161 = .ok (.iinc 5 (-1), 3) := by decide +kernel
theorem dX1_divide_164 : decode cX1_divide 164 = .ok (.goto (-48), 3) := by decide +kernel
theorem dX1_divide_167 : decode cX1_divide 167 = .ok (.aload_n 0, 1) := by decide +kernel
theorem dX1_divide_168 : decode cX1_divide 168 = .ok (.getfield 14, 3) := by decide +kernel
theorem dX1_divide_171 : decode cX1_divide 171 = .ok (.iload 4, 2) := by decide +kernel
theorem dX1_divide_173 : decode cX1_divide 173 = .ok (.iconst 1, 1) := by decide +kernel
theorem dX1_divide_174 : decode cX1_divide 174 = .ok (.iadd, 1) := by decide +kernel
theorem dX1_divide_175 : decode cX1_divide 175 = .ok (.invokevirtual 72, 3) := by decide +kernel
theorem dX1_divide_178 : decode cX1_divide 178 = .ok (.aload_n 0, 1) := by decide +kernel
theorem dX1_divide_179 : decode cX1_divide 179 = .ok (.getfield 20, 3) := by decide +kernel
theorem dX1_divide_182 : decode cX1_divide 182 = .ok (.aload_n 2, 1) := by decide +kernel
theorem dX1_divide_183 : decode cX1_divide 183 = .ok (.getfield 34, 3) := by decide +kernel
theorem dX1_divide_186 : decode cX1_divide 186 = .ok (.invokevirtual 72, 3) := by decide +kernel
theorem dX1_divide_189 : decode cX1_divide 189 = .ok (.aload_n 0, 1) := by decide +kernel
theorem dX1_divide_190 : decode cX1_divide 190 = .ok (.getfield 20, 3) := by decide +kernel
theorem dX1_divide_193 : decode cX1_divide 193 = .ok (.iload_n 3, 1) := by decide +kernel
theorem dX1_divide_194 : decode cX1_divide 194 = .ok (.invokevirtual 75, 3) := by decide +kernel
theorem dX1_divide_197 : decode cX1_divide 197 = .ok (.return_, 1) := by decide +kernel
theorem dX1_guess_0 : decode cX1_guess 0 = .ok (.iload_n 1, 1) := by decide +kernel
theorem dX1_guess_1 : decode cX1_guess 1 = .ok (.aload_n 0, 1) := by decide +kernel
theorem dX1_guess_2 : decode cX1_guess 2 = .ok (.getfield 23, 3) := by decide +kernel
theorem dX1_guess_5 : decode cX1_guess 5 = .ok (.getfield 34, 3) := by decide +kernel
theorem dX1_guess_8 : decode cX1_guess 8 = .ok (.iadd, 1) := by decide +kernel
theorem dX1_guess_9 : decode cX1_guess 9 = .ok (.istore_n 2, 1) := by decide +kernel
theorem dX1_guess_10 : decode cX1_guess 10 = .ok (.aload_n 0, 1) := by decide +kernel
theorem dX1_guess_11 : decode cX1_guess 11 = .ok (.getfield 23, 3) := by decide +kernel
theorem dX1_guess_14 : decode cX1_guess 14 = .ok (.getfield 42, 3) := by decide +kernel
theorem dX1_guess_17 : decode cX1_guess 17 = .ok (.aload_n 0, 1) := by decide +kernel
theorem dX1_guess_18 : decode cX1_guess 18 = .ok (.getfield 23, 3) := by decide +kernel
theorem dX1_guess_21 : decode cX1_guess 21 = .ok (.getfield 34, 3) := by decide +kernel
theorem dX1_guess_24 : decode cX1_guess 24 = .ok (.iconst 1, 1) := by decide +kernel
theorem dX1_guess_25 : decode cX1_guess 25 = .ok (.isub, 1) := by decide +kernel
theorem dX1_guess_26 : decode cX1_guess 26 = .ok (.iaload, 1) := by decide +kernel
theorem dX1_guess_27 : decode cX1_guess 27 = .ok (.i2l, 1) := by decide +kernel
theorem dX1_guess_28 : decode cX1_guess 28 = .ok (.lstore_n 3, 1) := by decide +kernel
theorem dX1_guess_29 : decode cX1_guess 29 = .ok (.lload_n 3, 1) := by decide +kernel
theorem dX1_guess_30 : decode cX1_guess 30 = .ok (.lconst 0, 1) := by decide +kernel
theorem dX1_guess_31 : decode cX1_guess 31 = .ok (.lcmp, 1) := by decide +kernel
theorem dX1_guess_32 : decode cX1_guess 32 = .ok (.ifCond .ne 5, 3) := by decide +kernel
theorem dX1_guess_35 : decode cX1_guess 35 = .ok (.iconst 0, 1) := by decide +kernel
theorem dX1_guess_36 : decode cX1_guess 36 = .ok (.ireturn, 1) := by decide +kernel
theorem dX1_guess_37 : decode cX1_guess 37 = .ok (.aload_n 0, 1) := by decide +kernel
theorem dX1_guess_38 : decode cX1_guess 38 = .ok (.getfield 20, 3) := by decide +kernel
theorem dX1_guess_41 : decode cX1_guess 41 = .ok (.getfield 42, 3) := by decide +kernel
theorem dX1_guess_44 : decode cX1_guess 44 = .ok (.iload_n 2, 1) := by decide +kernel
theorem dX1_guess_45 : decode cX1_guess 45 = .ok (.iaload, 1) := by decide +kernel
theorem dX1_guess_46 : decode cX1_guess 46 = .ok (.i2l, 1) := by decide +kernel
theorem dX1_guess_47 : decode cX1_guess 47 = .ok (.bipush 31, 2) := by decide +kernel
theorem dX1_guess_49 : decode cX1_guess 49 = .ok (.lshl, 1) := by decide +kernel
theorem dX1_guess_50 : decode cX1_guess 50 = .ok (.aload_n 0, 1) := by decide +kernel
theorem dX1_guess_51 : decode cX1_guess 51 = .ok (.getfield 20, 3) := by decide +kernel
theorem dX1_guess_54 : decode cX1_guess 54 = .ok (.getfield 42, 3) := by decide +kernel
theorem dX1_guess_57 : decode cX1_guess 57 = .ok (.iload_n 2, 1) := by decide +kernel
theorem dX1_guess_58 : decode cX1_guess 58 = .ok (.iconst 1, 1) := by decide +kernel
theorem dX1_guess_59 : decode cX1_guess 59 = .ok (.isub, 1) := by decide +kernel
theorem dX1_guess_60 : decode cX1_guess 60 = .ok (.iaload, 1) := by decide +kernel
theorem dX1_guess_61 : decode cX1_guess 61 = .ok (.i2l, 1) := by decide +kernel
theorem dX1_guess_62 : decode cX1_guess 62 = .ok (.lor, 1) := by decide +kernel
theorem dX1_guess_63 : decode cX1_guess 63 = .ok (.lstore 5, 2) := by decide +kernel
theorem dX1_guess_65 : decode cX1_guess 65 = .ok (.lload 5, 2) := by decide +kernel
theorem dX1_guess_67 : decode cX1_guess 67 = .ok (.lload_n 3, 1) := by decide +kernel
theorem dX1_guess_68 : decode cX1_guess 68 = .ok (.ldiv, 1) := by decide +kernel
theorem dX1_guess_69 : decode cX1_guess 69 = .ok (.lstore 7, 2) := by decide +kernel
theorem dX1_guess_71 : decode cX1_guess 71 = .ok (.lload 5, 2) := by decide +kernel
theorem dX1_guess_73 : decode cX1_guess 73 = .ok (.lload 7, 2) := by decide +kernel
theorem dX1_guess_75 : decode cX1_guess 75 = .ok (.lload_n 3, 1) := by decide +kernel
theorem dX1_guess_76 : decode cX1_guess 76 = .ok (.lmul, 1) := by decide +kernel
theorem dX1_guess_77 : decode cX1_guess 77 = .ok (.lsub, 1) := by decide +kernel
theorem dX1_guess_78 : decode cX1_guess 78 = .ok (.lstore 9, 2) := by decide +kernel
theorem dX1_guess_80 : decode cX1_guess 80 = .ok (.aload_n 0, 1) := by decide +kernel
theorem dX1_guess_81 : decode cX1_guess 81 = .ok (.getfield 23, 3) := by decide +kernel
theorem dX1_guess_84 : decode cX1_guess 84 = .ok (.getfield 42, 3) := by decide +kernel
theorem dX1_guess_87 : decode cX1_guess 87 = .ok (.aload_n 0, 1) := by decide +kernel
theorem dX1_guess_88 : decode cX1_guess 88 = .ok (.getfield 23, 3) := by decide +kernel
theorem dX1_guess_91 : decode cX1_guess 91 = .ok (.getfield 34, 3) := by decide +kernel
theorem dX1_guess_94 : decode cX1_guess 94 = .ok (.iconst 2, 1) := by decide +kernel
theorem dX1_guess_95 : decode cX1_guess 95 = .ok (.isub, 1) := by decide +kernel
theorem dX1_guess_96 : decode cX1_guess 96 = .ok (.iaload, 1) := by decide +kernel
theorem dX1_guess_97 : decode cX1_guess 97 = .ok (.i2l, 1) := by decide +kernel
theorem dX1_guess_98 : decode cX1_guess 98 = .ok (.lstore 11, 2) := by decide +kernel
theorem dX1_guess_100 : decode cX1_guess 100 = .ok (.aload_n 0, 1) := by decide +kernel
theorem dX1_guess_101 : decode cX1_guess 101 = .ok (.getfield 20, 3) := by decide +kernel
theorem dX1_guess_104 : decode cX1_guess 104 = .ok (.getfield 42, 3) := by decide +kernel
theorem dX1_guess_107 : decode cX1_guess 107 = .ok (.iload_n 2, 1) := by decide +kernel
theorem dX1_guess_108 : decode cX1_guess 108 = .ok (.iconst 2, 1) := by decide +kernel
theorem dX1_guess_109 : decode cX1_guess 109 = .ok (.isub, 1) := by decide +kernel
theorem dX1_guess_110 : decode cX1_guess 110 = .ok (.iaload, 1) := by decide +kernel
theorem dX1_guess_111 : decode cX1_guess 111 = .ok (.i2l, 1) := by decide +kernel
theorem dX1_guess_112 : decode cX1_guess 112 = .ok (.lstore 13, 2) := by decide +kernel
theorem dX1_guess_114 : decode cX1_guess 114 = .ok (.iconst 0, 1) := by decide +kernel
theorem dX1_guess_115 : decode cX1_guess 115 = .ok (.istore 15, 2) := by decide +kernel
theorem dX1_guess_117 : decode cX1_guess 117 = .ok (.iload 15, 2) := by decide +kernel
theorem dX1_guess_119 : decode cX1_guess 119 = .ok (.iconst 2, 1) := by decide +kernel
theorem dX1_guess_120 : decode cX1_guess 120 = .ok (.if_icmp .ge 59, 3) := by decide +kernel
theorem dX1_guess_123 : decode cX1_guess 123 = .ok (.lload 9, 2) := by decide +kernel
theorem dX1_guess_125 : decode cX1_guess 125 = .ok (.ldc2_w 78, 3) := by decide +kernel
theorem dX1_guess_128 : decode cX1_guess 128 = .ok (.lcmp, 1) := by decide +kernel
theorem dX1_guess_129 : decode cX1_guess 129 = .ok (.ifCond .gt 50, 3) := by decide +kernel
theorem dX1_guess_132 : decode cX1_guess 132 = .ok (.lload 7, 2) := by decide +kernel
theorem dX1_guess_134 : decode cX1_guess 134 = .ok (.ldc2_w 78, 3) := by decide +kernel
theorem dX1_guess_137 : decode cX1_guess 137 = .ok (.lcmp, 1) := by decide +kernel
theorem dX1_guess_138 : decode cX1_guess 138 = .ok (.ifCond .gt 23, 3) := by decide +kernel
theorem dX1_guess_141 : decode cX1_guess 141 = .ok (.lload 7, 2) := by decide +kernel
theorem dX1_guess_143 : decode cX1_guess 143 = .ok (.lload 11, 2) := by decide +kernel
theorem dX1_guess_145 : decode cX1_guess 145 = .ok (.lmul, 1) := by decide +kernel
theorem dX1_guess_146 : decode cX1_guess 146 = .ok (.lload 9, 2) := by decide +kernel
theorem dX1_guess_148 : decode cX1_guess 148 = .ok (.bipush 31, 2) := by decide +kernel
theorem dX1_guess_150 : decode cX1_guess 150 = .ok (.lshl, 1) := by decide +kernel
theorem dX1_guess_151 : decode cX1_guess 151 = .ok (.lload 13, 2) := by decide +kernel
theorem dX1_guess_153 : decode cX1_guess 153 = .ok (.lor, 1) := by decide +kernel
theorem dX1_guess_154 : decode cX1_guess 154 = .ok (.lcmp, 1) := by decide +kernel
theorem dX1_guess_155 : decode cX1_guess 155 = .ok (.ifCond .gt 6, 3) := by decide +kernel
theorem dX1_guess_158 : decode cX1_guess 158 = .ok (.goto 21, 3) := by decide +kernel
theorem dX1_guess_161 : decode cX1_guess 161 = .ok (.lload 7, 2) := by decide +kernel
theorem dX1_guess_163 : decode cX1_guess 163 = .ok (.lconst 1, 1) := by decide +kernel
theorem dX1_guess_164 : decode cX1_guess 164 = .ok (.lsub, 1) := by decide +kernel
theorem dX1_guess_165 : decode cX1_guess 165 = .ok (.lstore 7, 2) := by decide +kernel
theorem dX1_guess_167 : decode cX1_guess 167 = .ok (.lload 9, 2) := by decide +kernel
theorem dX1_guess_169 : decode cX1_guess 169 = .ok (.lload_n 3, 1) := by decide +kernel
theorem dX1_guess_170 : decode cX1_guess 170 = .ok (.ladd, 1) := by decide +kernel
theorem dX1_guess_171 : decode cX1_guess 171 = .ok (.lstore 9, 2) := by decide +kernel
theorem dX1_guess_173 : decode cX1_guess 173 = .ok (.iinc 15 1, 3) := by decide +kernel
theorem dX1_guess_176 : decode cX1_guess 176 = .ok (.goto (-59), 3) := by decide +kernel
theorem dX1_guess_179 : decode cX1_guess 179 = .ok (.lload 7, 2) := by decide +kernel
theorem dX1_guess_181 : decode cX1_guess 181 = .ok (.l2i, 1) := by decide +kernel
theorem dX1_guess_182 : decode cX1_guess 182 = .ok (.ireturn, 1) := by decide +kernel
theorem dX1_takeAway_0 : decode cX1_takeAway 0 = .ok (.lconst 0, 1) := by decide +kernel
theorem dX1_takeAway_1 : decode cX1_takeAway 1 = .ok (.lstore_n 3, 1) := by decide +kernel
theorem dX1_takeAway_2 : decode cX1_takeAway 2 = .ok (.iconst 0, 1) := by decide +kernel
theorem dX1_takeAway_3 : decode cX1_takeAway 3 = .ok (.istore 5, 2) := by decide +kernel
theorem dX1_takeAway_5 : decode cX1_takeAway 5 = .ok (.iload 5, 2) := by decide +kernel
theorem dX1_takeAway_7 : decode cX1_takeAway 7 = .ok (.aload_n 0, 1) := by decide +kernel
theorem dX1_takeAway_8 : decode cX1_takeAway 8 = .ok (.getfield 23, 3) := by decide +kernel
theorem dX1_takeAway_11 : decode cX1_takeAway 11 = .ok (.getfield 34, 3) := by decide +kernel
theorem dX1_takeAway_14 : decode cX1_takeAway 14 = .ok (.if_icmp .ge 76, 3) := by decide +kernel
theorem dX1_takeAway_17 : decode cX1_takeAway 17 = .ok (.lload_n 3, 1) := by decide +kernel
theorem dX1_takeAway_18 : decode cX1_takeAway 18 = .ok (.iload_n 1, 1) := by decide +kernel
theorem dX1_takeAway_19 : decode cX1_takeAway 19 = .ok (.i2l, 1) := by decide +kernel
theorem dX1_takeAway_20 : decode cX1_takeAway 20 = .ok (.aload_n 0, 1) := by decide +kernel
theorem dX1_takeAway_21 : decode cX1_takeAway 21 = .ok (.getfield 23, 3) := by decide +kernel
theorem dX1_takeAway_24 : decode cX1_takeAway 24 = .ok (.getfield 42, 3) := by decide +kernel
theorem dX1_takeAway_27 : decode cX1_takeAway 27 = .ok (.iload 5, 2) := by decide +kernel
theorem dX1_takeAway_29 : decode cX1_takeAway 29 = .ok (.iaload, 1) := by decide +kernel
theorem dX1_takeAway_30 : decode cX1_takeAway 30 = .ok (.i2l, 1) := by decide +kernel
theorem dX1_takeAway_31 : decode cX1_takeAway 31 = .ok (.lmul, 1) := by decide +kernel
theorem dX1_takeAway_32 : decode cX1_takeAway 32 = .ok (.ladd, 1) := by decide +kernel
theorem dX1_takeAway_33 : decode cX1_takeAway 33 = .ok (.lstore_n 3, 1) := by decide +kernel
theorem dX1_takeAway_34 : decode cX1_takeAway 34 = .ok (.aload_n 0, 1) := by decide +kernel
theorem dX1_takeAway_35 : decode cX1_takeAway 35 = .ok (.getfield 20, 3) := by decide +kernel
theorem dX1_takeAway_38 : decode cX1_takeAway 38 = .ok (.getfield 42, 3) := by decide +kernel
theorem dX1_takeAway_41 : decode cX1_takeAway 41 = .ok (.iload_n 2, 1) := by decide +kernel
theorem dX1_takeAway_42 : decode cX1_takeAway 42 = .ok (.iload 5, 2) := by decide +kernel
theorem dX1_takeAway_44 : decode cX1_takeAway 44 = .ok (.iadd, 1) := by decide +kernel
theorem dX1_takeAway_45 : decode cX1_takeAway 45 = .ok (.iaload, 1) := by decide +kernel
theorem dX1_takeAway_46 : decode cX1_takeAway 46 = .ok (.lload_n 3, 1) := by decide +kernel
theorem dX1_takeAway_47 : decode cX1_takeAway 47 = .ok (.ldc2_w 78, 3) := by decide +kernel
theorem dX1_takeAway_50 : decode cX1_takeAway 50 = .ok (.land, 1) := by decide +kernel
theorem dX1_takeAway_51 : decode cX1_takeAway 51 = .ok (.l2i, 1) := by decide +kernel
theorem dX1_takeAway_52 : decode cX1_takeAway 52 = .ok (.isub, 1) := by decide +kernel
theorem dX1_takeAway_53 : decode cX1_takeAway 53 = .ok (.istore 6, 2) := by decide +kernel
theorem dX1_takeAway_55 : decode cX1_takeAway 55 = .ok (.aload_n 0, 1) := by decide +kernel
theorem dX1_takeAway_56 : decode cX1_takeAway 56 = .ok (.getfield 20, 3) := by decide +kernel
theorem dX1_takeAway_59 : decode cX1_takeAway 59 = .ok (.getfield 42, 3) := by decide +kernel
theorem dX1_takeAway_62 : decode cX1_takeAway 62 = .ok (.iload_n 2, 1) := by decide +kernel
theorem dX1_takeAway_63 : decode cX1_takeAway 63 = .ok (.iload 5, 2) := by decide +kernel
theorem dX1_takeAway_65 : decode cX1_takeAway 65 = .ok (.iadd, 1) := by decide +kernel
theorem dX1_takeAway_66 : decode cX1_takeAway 66 = .ok (.iload 6, 2) := by decide +kernel
theorem dX1_takeAway_68 : decode cX1_takeAway 68 = .ok (.ldc 80, 2) := by decide +kernel
theorem dX1_takeAway_70 : decode cX1_takeAway 70 = .ok (.iand, 1) := by decide +kernel
theorem dX1_takeAway_71 : decode cX1_takeAway 71 = .ok (.iastore, 1) := by decide +kernel
theorem dX1_takeAway_72 : decode cX1_takeAway 72 = .ok (.lload_n 3, 1) := by decide +kernel
theorem dX1_takeAway_73 : decode cX1_takeAway 73 = .ok (.bipush 31, 2) := by decide +kernel
theorem dX1_takeAway_75 : decode cX1_takeAway 75 = .ok (.lushr, 1) := by decide +kernel
theorem dX1_takeAway_76 : decode cX1_takeAway 76 = .ok (.iload 6, 2) := by decide +kernel
theorem dX1_takeAway_78 : decode cX1_takeAway 78 = .ok (.bipush 31, 2) := by decide +kernel
theorem dX1_takeAway_80 : decode cX1_takeAway 80 = .ok (.iushr, 1) := by decide +kernel
theorem dX1_takeAway_81 : decode cX1_takeAway 81 = .ok (.i2l, 1) := by decide +kernel
theorem dX1_takeAway_82 : decode cX1_takeAway 82 = .ok (.ladd, 1) := by decide +kernel
theorem dX1_takeAway_83 : decode cX1_takeAway 83 = .ok (.lstore_n 3, 1) := by decide +kernel
theorem dX1_takeAway_84 : decode cX1_takeAway 84 = .ok (.iinc 5 1, 3) := by decide +kernel
theorem dX1_takeAway_87 : decode cX1_takeAway 87 = .ok (.goto (-82), 3) := by decide +kernel
theorem dX1_takeAway_90 : decode cX1_takeAway 90 = .ok (.aload_n 0, 1) := by decide +kernel
theorem dX1_takeAway_91 : decode cX1_takeAway 91 = .ok (.getfield 20, 3) := by decide +kernel
theorem dX1_takeAway_94 : decode cX1_takeAway 94 = .ok (.getfield 42, 3) := by decide +kernel
theorem dX1_takeAway_97 : decode cX1_takeAway 97 = .ok (.iload_n 2, 1) := by decide +kernel
theorem dX1_takeAway_98 : decode cX1_takeAway 98 = .ok (.aload_n 0, 1) := by decide +kernel
theorem dX1_takeAway_99 : decode cX1_takeAway 99 = .ok (.getfield 23, 3) := by decide +kernel
theorem dX1_takeAway_102 : decode cX1_takeAway 102 = .ok (.getfield 34, 3) := by decide +kernel
theorem dX1_takeAway_105 : decode cX1_takeAway 105 = .ok (.iadd, 1) := by decide +kernel
theorem dX1_takeAway_106 : decode cX1_takeAway 106 = .ok (.iaload, 1) := by decide +kernel
theorem dX1_takeAway_107 : decode cX1_takeAway 107 = .ok (.i2l, 1) := by decide +kernel
theorem dX1_takeAway_108 : decode cX1_takeAway 108 = .ok (.lload_n 3, 1) := by decide +kernel
theorem dX1_takeAway_109 : decode cX1_takeAway 109 = .ok (.lcmp, 1) := by decide +kernel
theorem dX1_takeAway_110 : decode cX1_takeAway 110 = .ok (.ifCond .ge 7, 3) := by decide +kernel
theorem dX1_takeAway_113 : decode cX1_takeAway 113 = .ok (.iconst 1, 1) := by decide +kernel
theorem dX1_takeAway_114 : decode cX1_takeAway 114 = .ok (.goto 4, 3) := by decide +kernel
theorem dX1_takeAway_117 : decode cX1_takeAway 117 = .ok (.iconst 0, 1) := by decide +kernel
theorem dX1_takeAway_118 : decode cX1_takeAway 118 = .ok (.ireturn, 1) := by decide +kernel
theorem dX1_giveBack_0 : decode cX1_giveBack 0 = .ok (.iconst 0, 1) := by decide +kernel
theorem dX1_giveBack_1 : decode cX1_giveBack 1 = .ok (.istore_n 2, 1) := by decide +kernel
theorem dX1_giveBack_2 : decode cX1_giveBack 2 = .ok (.iconst 0, 1) := by decide +kernel
theorem dX1_giveBack_3 : decode cX1_giveBack 3 = .ok (.istore_n 3, 1) := by decide +kernel
theorem dX1_giveBack_4 : decode cX1_giveBack 4 = .ok (.iload_n 3, 1) := by decide +kernel
theorem dX1_giveBack_5 : decode cX1_giveBack 5 = .ok (.aload_n 0, 1) := by decide +kernel
theorem dX1_giveBack_6 : decode cX1_giveBack 6 = .ok (.getfield 23, 3) := by decide +kernel
theorem dX1_giveBack_9 : decode cX1_giveBack 9 = .ok (.getfield 34, 3) := by decide +kernel
theorem dX1_giveBack_12 : decode cX1_giveBack 12 = .ok (.if_icmp .ge 56, 3) := by decide +kernel
theorem dX1_giveBack_15 : decode cX1_giveBack 15 = .ok (.aload_n 0, 1) := by decide +kernel
theorem dX1_giveBack_16 : decode cX1_giveBack 16 = .ok (.getfield 20, 3) := by decide +kernel
theorem dX1_giveBack_19 : decode cX1_giveBack 19 = .ok (.getfield 42, 3) := by decide +kernel
theorem dX1_giveBack_22 : decode cX1_giveBack 22 = .ok (.iload_n 1, 1) := by decide +kernel
theorem dX1_giveBack_23 : decode cX1_giveBack 23 = .ok (.iload_n 3, 1) := by decide +kernel
theorem dX1_giveBack_24 : decode cX1_giveBack 24 = .ok (.iadd, 1) := by decide +kernel
theorem dX1_giveBack_25 : decode cX1_giveBack 25 = .ok (.iaload, 1) := by decide +kernel
theorem dX1_giveBack_26 : decode cX1_giveBack 26 = .ok (.aload_n 0, 1) := by decide +kernel
theorem dX1_giveBack_27 : decode cX1_giveBack 27 = .ok (.getfield 23, 3) := by decide +kernel
theorem dX1_giveBack_30 : decode cX1_giveBack 30 = .ok (.getfield 42, 3) := by decide +kernel
theorem dX1_giveBack_33 : decode cX1_giveBack 33 = .ok (.iload_n 3, 1) := by decide +kernel
theorem dX1_giveBack_34 : decode cX1_giveBack 34 = .ok (.iaload, 1) := by decide +kernel
theorem dX1_giveBack_35 : decode cX1_giveBack 35 = .ok (.iadd, 1) := by decide +kernel
theorem dX1_giveBack_36 : decode cX1_giveBack 36 = .ok (.iload_n 2, 1) := by decide +kernel
theorem dX1_giveBack_37 : decode cX1_giveBack 37 = .ok (.iadd, 1) := by decide +kernel
theorem dX1_giveBack_38 : decode cX1_giveBack 38 = .ok (.istore 4, 2) := by decide +kernel
theorem dX1_giveBack_40 : decode cX1_giveBack 40 = .ok (.aload_n 0, 1) := by decide +kernel
theorem dX1_giveBack_41 : decode cX1_giveBack 41 = .ok (.getfield 20, 3) := by decide +kernel
theorem dX1_giveBack_44 : decode cX1_giveBack 44 = .ok (.getfield 42, 3) := by decide +kernel
theorem dX1_giveBack_47 : decode cX1_giveBack 47 = .ok (.iload_n 1, 1) := by decide +kernel
theorem dX1_giveBack_48 : decode cX1_giveBack 48 = .ok (.iload_n 3, 1) := by decide +kernel
theorem dX1_giveBack_49 : decode cX1_giveBack 49 = .ok (.iadd, 1) := by decide +kernel
theorem dX1_giveBack_50 : decode cX1_giveBack 50 = .ok (.iload 4, 2) := by decide +kernel
theorem dX1_giveBack_52 : decode cX1_giveBack 52 = .ok (.ldc 80, 2) := by decide +kernel
theorem dX1_giveBack_54 : decode cX1_giveBack 54 = .ok (.iand, 1) := by decide +kernel
theorem dX1_giveBack_55 : decode cX1_giveBack 55 = .ok (.iastore, 1) := by decide +kernel
theorem dX1_giveBack_56 : decode cX1_giveBack 56 = .ok (.iload 4, 2) := by decide +kernel
theorem dX1_giveBack_58 : decode cX1_giveBack 58 = .ok (.bipush 31, 2) := by decide +kernel
theorem dX1_giveBack_60 : decode cX1_giveBack 60 = .ok (.iushr, 1) := by decide +kernel
theorem dX1_giveBack_61 : decode cX1_giveBack 61 = .ok (.istore_n 2, 1) := by decide +kernel
theorem dX1_giveBack_62 : decode cX1_giveBack 62 = .ok (.iinc 3 1, 3) := by decide +kernel
theorem dX1_giveBack_65 : decode cX1_giveBack 65 = .ok (.goto (-61), 3) := by decide +kernel
theorem dX1_giveBack_68 : decode cX1_giveBack 68 = .ok (.return_, 1) := by decide +kernel
theorem dX2_init_0 : decode cX2_init 0 = .ok (.aload_n 0, 1) := by decide +kernel
theorem dX2_init_1 : decode cX2_init 1 = .ok (.invokespecial 1, 3) := by decide +kernel
theorem dX2_init_4 : decode cX2_init 4 = .ok (.aload_n 0, 1) := by decide +kernel
theorem dX2_init_5 : decode cX2_init 5 = .ok (.new 7, 3) := by decide +kernel
theorem dX2_init_8 : decode cX2_init 8 = .ok (.dup, 1) := by decide +kernel
theorem dX2_init_9 : decode cX2_init 9 = .ok (.iload_n 1, 1) := by decide +kernel
theorem dX2_init_10 : decode cX2_init 10 = .ok (.invokespecial 9, 3) := by decide +kernel
theorem dX2_init_13 : decode cX2_init 13 = .ok (.putfield 12, 3) := by decide +kernel
theorem dX2_init_16 : decode cX2_init 16 = .ok (.aload_n 0, 1) := by decide +kernel
theorem dX2_init_17 : decode cX2_init 17 = .ok (.new 7, 3) := by decide +kernel
theorem dX2_init_20 : decode cX2_init 20 = .ok (.dup, 1) := by decide +kernel
theorem dX2_init_21 : decode cX2_init 21 = .ok (.iload_n 1, 1) := by decide +kernel
theorem dX2_init_22 : decode cX2_init 22 = .ok (.invokespecial 9, 3) := by decide +kernel
theorem dX2_init_25 : decode cX2_init 25 = .ok (.putfield 18, 3) := by decide +kernel
theorem dX2_init_28 : decode cX2_init 28 = .ok (.aload_n 0, 1) := by decide +kernel
theorem dX2_init_29 : decode cX2_init 29 = .ok (.getfield 18, 3) := by decide +kernel
theorem dX2_init_32 : decode cX2_init 32 = .ok (.lconst 1, 1) := by decide +kernel
theorem dX2_init_33 : decode cX2_init 33 = .ok (.invokevirtual 21, 3) := by decide +kernel
theorem dX2_init_36 : decode cX2_init 36 = .ok (.return_, 1) := by decide +kernel
theorem dX2_isWhole_0 : decode cX2_isWhole 0 = .ok (.aload_n 0, 1) := by decide +kernel
theorem dX2_isWhole_1 : decode cX2_isWhole 1 = .ok (.getfield 18, 3) := by decide +kernel
theorem dX2_isWhole_4 : decode cX2_isWhole 4 = .ok (.invokevirtual 25, 3) := by decide +kernel
theorem dX2_isWhole_7 : decode cX2_isWhole 7 = .ok (.ireturn, 1) := by decide +kernel
theorem dX2_fits_0 : decode cX2_fits 0 = .ok (.aload_n 0, 1) := by decide +kernel
theorem dX2_fits_1 : decode cX2_fits 1 = .ok (.getfield 12, 3) := by decide +kernel
theorem dX2_fits_4 : decode cX2_fits 4 = .ok (.invokevirtual 29, 3) := by decide +kernel
theorem dX2_fits_7 : decode cX2_fits 7 = .ok (.ifCond .eq 17, 3) := by decide +kernel
theorem dX2_fits_10 : decode cX2_fits 10 = .ok (.aload_n 0, 1) := by decide +kernel
theorem dX2_fits_11 : decode cX2_fits 11 = .ok (.getfield 18, 3) := by decide +kernel
theorem dX2_fits_14 : decode cX2_fits 14 = .ok (.invokevirtual 29, 3) := by decide +kernel
theorem dX2_fits_17 : decode cX2_fits 17 = .ok (.ifCond .eq 7, 3) := by decide +kernel
theorem dX2_fits_20 : decode cX2_fits 20 = .ok (.iconst 1, 1) := by decide +kernel
theorem dX2_fits_21 : decode cX2_fits 21 = .ok (.goto 4, 3) := by decide +kernel
theorem dX2_fits_24 : decode cX2_fits 24 = .ok (.iconst 0, 1) := by decide +kernel
theorem dX2_fits_25 : decode cX2_fits 25 = .ok (.ireturn, 1) := by decide +kernel
theorem dX2_become_0 : decode cX2_become 0 = .ok (.aload_n 0, 1) := by decide +kernel
theorem dX2_become_1 : decode cX2_become 1 = .ok (.getfield 12, 3) := by decide +kernel
theorem dX2_become_4 : decode cX2_become 4 = .ok (.aload_n 1, 1) := by decide +kernel
theorem dX2_become_5 : decode cX2_become 5 = .ok (.getfield 12, 3) := by decide +kernel
theorem dX2_become_8 : decode cX2_become 8 = .ok (.invokevirtual 32, 3) := by decide +kernel
theorem dX2_become_11 : decode cX2_become 11 = .ok (.aload_n 0, 1) := by decide +kernel
theorem dX2_become_12 : decode cX2_become 12 = .ok (.getfield 18, 3) := by decide +kernel
theorem dX2_become_15 : decode cX2_become 15 = .ok (.aload_n 1, 1) := by decide +kernel
theorem dX2_become_16 : decode cX2_become 16 = .ok (.getfield 18, 3) := by decide +kernel
theorem dX2_become_19 : decode cX2_become 19 = .ok (.invokevirtual 32, 3) := by decide +kernel
theorem dX2_become_22 : decode cX2_become 22 = .ok (.aload_n 0, 1) := by decide +kernel
theorem dX2_become_23 : decode cX2_become 23 = .ok (.aload_n 1, 1) := by decide +kernel
theorem dX2_become_24 : decode cX2_become 24 = .ok (.getfield 36, 3) := by decide +kernel
theorem dX2_become_27 : decode cX2_become 27 = .ok (.putfield 36, 3) := by decide +kernel
theorem dX2_become_30 : decode cX2_become 30 = .ok (.return_, 1) := by decide +kernel
theorem dX2_becomeWhole_0 : decode cX2_becomeWhole 0 = .ok (.aload_n 0, 1) := by decide +kernel
theorem dX2_becomeWhole_1 : decode cX2_becomeWhole 1 = .ok (.getfield 12, 3) := by decide +kernel
theorem dX2_becomeWhole_4 : decode cX2_becomeWhole 4 = .ok (.lload_n 1, 1) := by decide +kernel
theorem dX2_becomeWhole_5 : decode cX2_becomeWhole 5 = .ok (.lconst 0, 1) := by decide +kernel
theorem dX2_becomeWhole_6 : decode cX2_becomeWhole 6 = .ok (.lcmp, 1) := by decide +kernel
theorem dX2_becomeWhole_7 : decode cX2_becomeWhole 7 = .ok (.ifCond .ge 8, 3) := by decide +kernel
theorem dX2_becomeWhole_10 : decode cX2_becomeWhole 10 = .ok (.lload_n 1, 1) := by decide +kernel
theorem dX2_becomeWhole_11 : decode cX2_becomeWhole 11 = .ok (.lneg, 1) := by decide +kernel
theorem dX2_becomeWhole_12 : decode cX2_becomeWhole 12 = .ok (.goto 4, 3) := by decide +kernel
theorem dX2_becomeWhole_15 : decode cX2_becomeWhole 15 = .ok (.lload_n 1, 1) := by decide +kernel
theorem dX2_becomeWhole_16 : decode cX2_becomeWhole 16 = .ok (.invokevirtual 21, 3) := by decide +kernel
theorem dX2_becomeWhole_19 : decode cX2_becomeWhole 19 = .ok (.aload_n 0, 1) := by decide +kernel
theorem dX2_becomeWhole_20 : decode cX2_becomeWhole 20 = .ok (.getfield 18, 3) := by decide +kernel
theorem dX2_becomeWhole_23 : decode cX2_becomeWhole 23 = .ok (.lconst 1, 1) := by decide +kernel
theorem dX2_becomeWhole_24 : decode cX2_becomeWhole 24 = .ok (.invokevirtual 21, 3) := by decide +kernel
theorem dX2_becomeWhole_27 : decode cX2_becomeWhole 27 = .ok (.aload_n 0, 1) := by decide +kernel
theorem dX2_becomeWhole_28 : decode cX2_becomeWhole 28 = .ok (.lload_n 1, 1) := by decide +kernel
theorem dX2_becomeWhole_29 : decode cX2_becomeWhole 29 = .ok (.lconst 0, 1) := by decide +kernel
theorem dX2_becomeWhole_30 : decode cX2_becomeWhole 30 = .ok (.lcmp, 1) := by decide +kernel
theorem dX2_becomeWhole_31 : decode cX2_becomeWhole 31 = .ok (.ifCond .ge 7, 3) := by decide +kernel
theorem dX2_becomeWhole_34 : decode cX2_becomeWhole 34 = .ok (.iconst 1, 1) := by decide +kernel
theorem dX2_becomeWhole_35 : decode cX2_becomeWhole 35 = .ok (.goto 4, 3) := by decide +kernel
theorem dX2_becomeWhole_38 : decode cX2_becomeWhole 38 = .ok (.iconst 0, 1) := by decide +kernel
theorem dX2_becomeWhole_39 : decode cX2_becomeWhole 39 = .ok (.putfield 36, 3) := by decide +kernel
theorem dX2_becomeWhole_42 : decode cX2_becomeWhole 42 = .ok (.return_, 1) := by decide +kernel
theorem dX2_becomeWhole__0 : decode cX2_becomeWhole_ 0 = .ok (.aload_n 0, 1) := by decide +kernel
theorem dX2_becomeWhole__1 : decode cX2_becomeWhole_ 1 = .ok (.getfield 12, 3) := by decide +kernel
theorem dX2_becomeWhole__4 : decode cX2_becomeWhole_ 4 = .ok (.aload_n 1, 1) := by decide +kernel
theorem dX2_becomeWhole__5 : decode cX2_becomeWhole_ 5 = .ok (.invokevirtual 32, 3) := by decide +kernel
theorem dX2_becomeWhole__8 : decode cX2_becomeWhole_ 8 = .ok (.aload_n 0, 1) := by decide +kernel
theorem dX2_becomeWhole__9 : decode cX2_becomeWhole_ 9 = .ok (.getfield 18, 3) := by decide +kernel
theorem dX2_becomeWhole__12 : decode cX2_becomeWhole_ 12 = .ok (.lconst 1, 1) := by decide +kernel
theorem dX2_becomeWhole__13 : decode cX2_becomeWhole_ 13 = .ok (.invokevirtual 21, 3) := by decide +kernel
theorem dX2_becomeWhole__16 : decode cX2_becomeWhole_ 16 = .ok (.aload_n 0, 1) := by decide +kernel
theorem dX2_becomeWhole__17 : decode cX2_becomeWhole_ 17 = .ok (.iload_n 2, 1) := by decide +kernel
theorem dX2_becomeWhole__18 : decode cX2_becomeWhole_ 18 = .ok (.invokevirtual 40, 3) := by decide +kernel
theorem dX2_becomeWhole__21 : decode cX2_becomeWhole_ 21 = .ok (.return_, 1) := by decide +kernel
theorem dX2_sign_0 : decode cX2_sign 0 = .ok (.aload_n 0, 1) := by decide +kernel
theorem dX2_sign_1 : decode cX2_sign 1 = .ok (.iload_n 1, 1) := by decide +kernel
theorem dX2_sign_2 : decode cX2_sign 2 = .ok (.ifCond .eq 17, 3) := by decide +kernel
theorem dX2_sign_5 : decode cX2_sign 5 = .ok (.aload_n 0, 1) := by decide +kernel
theorem dX2_sign_6 : decode cX2_sign 6 = .ok (.getfield 12, 3) := by decide +kernel
theorem dX2_sign_9 : decode cX2_sign 9 = .ok (.invokevirtual 44, 3) := by decide +kernel
theorem dX2_sign_12 : decode cX2_sign 12 = .ok (.ifCond .ne 7, 3) := by decide +kernel
theorem dX2_sign_15 : decode cX2_sign 15 = .ok (.iconst 1, 1) := by decide +kernel
theorem dX2_sign_16 : decode cX2_sign 16 = .ok (.goto 4, 3) := by decide +kernel
theorem dX2_sign_19 : decode cX2_sign 19 = .ok (.iconst 0, 1) := by decide +kernel
theorem dX2_sign_20 : decode cX2_sign 20 = .ok (.putfield 36, 3) := by decide +kernel
theorem dX2_sign_23 : decode cX2_sign 23 = .ok (.return_, 1) := by decide +kernel
theorem dX3_init_0 : decode cX3_init 0 = .ok (.aload_n 0, 1) := by decide +kernel
theorem dX3_init_1 : decode cX3_init 1 = .ok (.invokespecial 3, 3) := by decide +kernel
theorem dX3_init_4 : decode cX3_init 4 = .ok (.aload_n 0, 1) := by decide +kernel
theorem dX3_init_5 : decode cX3_init 5 = .ok (.iload_n 1, 1) := by decide +kernel
theorem dX3_init_6 : decode cX3_init 6 = .ok (.bipush 67, 2) := by decide +kernel
theorem dX3_init_8 : decode cX3_init 8 = .ok (.invokestatic 9, 3) := by decide +kernel
theorem dX3_init_11 : decode cX3_init 11 = .ok (.newarray .int, 2) := by decide +kernel
theorem dX3_init_13 : decode cX3_init 13 = .ok (.putfield 15, 3) := by decide +kernel
theorem dX3_init_16 : decode cX3_init 16 = .ok (.return_, 1) := by decide +kernel
theorem dX3_isZero_0 : decode cX3_isZero 0 = .ok (.aload_n 0, 1) := by decide +kernel
theorem dX3_isZero_1 : decode cX3_isZero 1 = .ok (.getfield 21, 3) := by decide +kernel
theorem dX3_isZero_4 : decode cX3_isZero 4 = .ok (.ifCond .ne 7, 3) := by decide +kernel
theorem dX3_isZero_7 : decode cX3_isZero 7 = .ok (.iconst 1, 1) := by decide +kernel
theorem dX3_isZero_8 : decode cX3_isZero 8 = .ok (.goto 4, 3) := by decide +kernel
theorem dX3_isZero_11 : decode cX3_isZero 11 = .ok (.iconst 0, 1) := by decide +kernel
theorem dX3_isZero_12 : decode cX3_isZero 12 = .ok (.ireturn, 1) := by decide +kernel
theorem dX3_isOne_0 : decode cX3_isOne 0 = .ok (.aload_n 0, 1) := by decide +kernel
theorem dX3_isOne_1 : decode cX3_isOne 1 = .ok (.getfield 21, 3) := by decide +kernel
theorem dX3_isOne_4 : decode cX3_isOne 4 = .ok (.iconst 1, 1) := by decide +kernel
theorem dX3_isOne_5 : decode cX3_isOne 5 = .ok (.if_icmp .ne 17, 3) := by decide +kernel
theorem dX3_isOne_8 : decode cX3_isOne 8 = .ok (.aload_n 0, 1) := by decide +kernel
theorem dX3_isOne_9 : decode cX3_isOne 9 = .ok (.getfield 15, 3) := by decide +kernel
theorem dX3_isOne_12 : decode cX3_isOne 12 = .ok (.iconst 0, 1) := by decide +kernel
theorem dX3_isOne_13 : decode cX3_isOne 13 = .ok (.iaload, 1) := by decide +kernel
theorem dX3_isOne_14 : decode cX3_isOne 14 = .ok (.iconst 1, 1) := by decide +kernel
theorem dX3_isOne_15 : decode cX3_isOne 15 = .ok (.if_icmp .ne 7, 3) := by decide +kernel
theorem dX3_isOne_18 : decode cX3_isOne 18 = .ok (.iconst 1, 1) := by decide +kernel
theorem dX3_isOne_19 : decode cX3_isOne 19 = .ok (.goto 4, 3) := by decide +kernel
theorem dX3_isOne_22 : decode cX3_isOne 22 = .ok (.iconst 0, 1) := by decide +kernel
theorem dX3_isOne_23 : decode cX3_isOne 23 = .ok (.ireturn, 1) := by decide +kernel
theorem dX3_isOdd_0 : decode cX3_isOdd 0 = .ok (.aload_n 0, 1) := by decide +kernel
theorem dX3_isOdd_1 : decode cX3_isOdd 1 = .ok (.iconst 0, 1) := by decide +kernel
theorem dX3_isOdd_2 : decode cX3_isOdd 2 = .ok (.invokevirtual 25, 3) := by decide +kernel
theorem dX3_isOdd_5 : decode cX3_isOdd 5 = .ok (.iconst 1, 1) := by decide +kernel
theorem dX3_isOdd_6 : decode cX3_isOdd 6 = .ok (.iand, 1) := by decide +kernel
theorem dX3_isOdd_7 : decode cX3_isOdd 7 = .ok (.iconst 1, 1) := by decide +kernel
theorem dX3_isOdd_8 : decode cX3_isOdd 8 = .ok (.if_icmp .ne 7, 3) := by decide +kernel
theorem dX3_isOdd_11 : decode cX3_isOdd 11 = .ok (.iconst 1, 1) := by decide +kernel
theorem dX3_isOdd_12 : decode cX3_isOdd 12 = .ok (.goto 4, 3) := by decide +kernel
theorem dX3_isOdd_15 : decode cX3_isOdd 15 = .ok (.iconst 0, 1) := by decide +kernel
theorem dX3_isOdd_16 : decode cX3_isOdd 16 = .ok (.ireturn, 1) := by decide +kernel
theorem dX3_limbAt_0 : decode cX3_limbAt 0 = .ok (.iload_n 1, 1) := by decide +kernel
theorem dX3_limbAt_1 : decode cX3_limbAt 1 = .ok (.ifCond .lt 20, 3) := by decide +kernel
theorem dX3_limbAt_4 : decode cX3_limbAt 4 = .ok (.iload_n 1, 1) := by decide +kernel
theorem dX3_limbAt_5 : decode cX3_limbAt 5 = .ok (.aload_n 0, 1) := by decide +kernel
theorem dX3_limbAt_6 : decode cX3_limbAt 6 = .ok (.getfield 21, 3) := by decide +kernel
theorem dX3_limbAt_9 : decode cX3_limbAt 9 = .ok (.if_icmp .ge 12, 3) := by decide +kernel
theorem dX3_limbAt_12 : decode cX3_limbAt 12 = .ok (.aload_n 0, 1) := by decide +kernel
theorem dX3_limbAt_13 : decode cX3_limbAt 13 = .ok (.getfield 15, 3) := by decide +kernel
theorem dX3_limbAt_16 : decode cX3_limbAt 16 = .ok (.iload_n 1, 1) := by decide +kernel
theorem dX3_limbAt_17 : decode cX3_limbAt 17 = .ok (.iaload, 1) := by decide +kernel
theorem dX3_limbAt_18 : decode cX3_limbAt 18 = .ok (.goto 4, 3) := by decide +kernel
theorem dX3_limbAt_21 : decode cX3_limbAt 21 = .ok (.iconst 0, 1) := by decide +kernel
theorem dX3_limbAt_22 : decode cX3_limbAt 22 = .ok (.ireturn, 1) := by decide +kernel
theorem dX3_toLong_0 : decode cX3_toLong 0 = .ok (.aload_n 0, 1) := by decide +kernel
theorem dX3_toLong_1 : decode cX3_toLong 1 = .ok (.iconst 1, 1) := by decide +kernel
theorem dX3_toLong_2 : decode cX3_toLong 2 = .ok (.invokevirtual 25, 3) := by decide +kernel
theorem dX3_toLong_5 : decode cX3_toLong 5 = .ok (.i2l, 1) := by decide +kernel
theorem dX3_toLong_6 : decode cX3_toLong 6 = .ok (.bipush 31, 2) := by decide +kernel
theorem dX3_toLong_8 : decode cX3_toLong 8 = .ok (.lshl, 1) := by decide +kernel
theorem dX3_toLong_9 : decode cX3_toLong 9 = .ok (.aload_n 0, 1) := by decide +kernel
theorem dX3_toLong_10 : decode cX3_toLong 10 = .ok (.iconst 0, 1) := by decide +kernel
theorem dX3_toLong_11 : decode cX3_toLong 11 = .ok (.invokevirtual 25, 3) := by decide +kernel
theorem dX3_toLong_14 : decode cX3_toLong 14 = .ok (.i2l, 1) := by decide +kernel
theorem dX3_toLong_15 : decode cX3_toLong 15 = .ok (.lor, 1) := by decide +kernel
theorem dX3_toLong_16 : decode cX3_toLong 16 = .ok (.lreturn, 1) := by decide +kernel
theorem dX3_bitLength_0 : decode cX3_bitLength 0 = .ok (.aload_n 0, 1) := by decide +kernel
theorem dX3_bitLength_1 : decode cX3_bitLength 1 = .ok (.getfield 21, 3) := by decide +kernel
theorem dX3_bitLength_4 : decode cX3_bitLength 4 = .ok (.ifCond .ne 5, 3) := by decide +kernel
theorem dX3_bitLength_7 : decode cX3_bitLength 7 = .ok (.iconst 0, 1) := by decide +kernel
theorem dX3_bitLength_8 : decode cX3_bitLength 8 = .ok (.ireturn, 1) := by decide +kernel
theorem dX3_bitLength_9 : decode cX3_bitLength 9 = .ok (.aload_n 0, 1) := by decide +kernel
theorem dX3_bitLength_10 : decode cX3_bitLength 10 = .ok (.getfield 15, 3) := by decide +kernel
theorem dX3_bitLength_13 : decode cX3_bitLength 13 = .ok (.aload_n 0, 1) := by decide +kernel
theorem dX3_bitLength_14 : decode cX3_bitLength 14 = .ok (.getfield 21, 3) := by decide +kernel
theorem dX3_bitLength_17 : decode cX3_bitLength 17 = .ok (.iconst 1, 1) := by decide +kernel
theorem dX3_bitLength_18 : decode cX3_bitLength 18 = .ok (.isub, 1) := by decide +kernel
theorem dX3_bitLength_19 : decode cX3_bitLength 19 = .ok (.iaload, 1) := by decide +kernel
theorem dX3_bitLength_20 : decode cX3_bitLength 20 = .ok (.istore_n 1, 1) := by decide +kernel
theorem dX3_bitLength_21 : decode cX3_bitLength 21 = .ok (.bipush 31, 2) := by decide +kernel
theorem dX3_bitLength_23 : decode cX3_bitLength 23 = .ok (.istore_n 2, 1) := by decide +kernel
theorem dX3_bitLength_24 : decode cX3_bitLength 24 = .ok (.iload_n 2, 1) := by decide +kernel
theorem dX3_bitLength_25 : decode cX3_bitLength 25 = .ok (.ifCond .le 17, 3) := by decide +kernel
theorem dX3_bitLength_28 : decode cX3_bitLength 28 = .ok (.iload_n 1, 1) := by decide +kernel
theorem dX3_bitLength_29 : decode cX3_bitLength 29 = .ok (.iload_n 2, 1) := by decide +kernel
theorem dX3_bitLength_30 : decode cX3_bitLength 30 = .ok (.iconst 1, 1) := by decide +kernel
theorem dX3_bitLength_31 : decode cX3_bitLength 31 = .ok (.isub, 1) := by decide +kernel
theorem dX3_bitLength_32 : decode cX3_bitLength 32 = .ok (.iushr, 1) := by decide +kernel
theorem dX3_bitLength_33 : decode cX3_bitLength 33 = .ok (.ifCond .ne 9, 3) := by decide +kernel
theorem dX3_bitLength_36 : decode cX3_bitLength 36 = .ok (.iinc 2 (-1), 3) := by decide +kernel
theorem dX3_bitLength_39 : decode cX3_bitLength 39 = .ok (.goto (-15), 3) := by decide +kernel
theorem dX3_bitLength_42 : decode cX3_bitLength 42 = .ok (.aload_n 0, 1) := by decide +kernel
theorem dX3_bitLength_43 : decode cX3_bitLength 43 = .ok (.getfield 21, 3) := by decide +kernel
theorem dX3_bitLength_46 : decode cX3_bitLength 46 = .ok (.iconst 1, 1) := by decide +kernel
theorem dX3_bitLength_47 : decode cX3_bitLength 47 = .ok (.isub, 1) := by decide +kernel
theorem dX3_bitLength_48 : decode cX3_bitLength 48 = .ok (.bipush 31, 2) := by decide +kernel
theorem dX3_bitLength_50 : decode cX3_bitLength 50 = .ok (.imul, 1) := by decide +kernel
theorem dX3_bitLength_51 : decode cX3_bitLength 51 = .ok (.iload_n 2, 1) := by decide +kernel
theorem dX3_bitLength_52 : decode cX3_bitLength 52 = .ok (.iadd, 1) := by decide +kernel
theorem dX3_bitLength_53 : decode cX3_bitLength 53 = .ok (.ireturn, 1) := by decide +kernel
theorem dX3_fits_0 : decode cX3_fits 0 = .ok (.aload_n 0, 1) := by decide +kernel
theorem dX3_fits_1 : decode cX3_fits 1 = .ok (.invokevirtual 29, 3) := by decide +kernel
theorem dX3_fits_4 : decode cX3_fits 4 = .ok (.sipush 2048, 3) := by decide +kernel
theorem dX3_fits_7 : decode cX3_fits 7 = .ok (.if_icmp .gt 7, 3) := by decide +kernel
theorem dX3_fits_10 : decode cX3_fits 10 = .ok (.iconst 1, 1) := by decide +kernel
theorem dX3_fits_11 : decode cX3_fits 11 = .ok (.goto 4, 3) := by decide +kernel
theorem dX3_fits_14 : decode cX3_fits 14 = .ok (.iconst 0, 1) := by decide +kernel
theorem dX3_fits_15 : decode cX3_fits 15 = .ok (.ireturn, 1) := by decide +kernel
theorem dX3_order_0 : decode cX3_order 0 = .ok (.aload_n 0, 1) := by decide +kernel
theorem dX3_order_1 : decode cX3_order 1 = .ok (.getfield 21, 3) := by decide +kernel
theorem dX3_order_4 : decode cX3_order 4 = .ok (.aload_n 1, 1) := by decide +kernel
theorem dX3_order_5 : decode cX3_order 5 = .ok (.getfield 21, 3) := by decide +kernel
theorem dX3_order_8 : decode cX3_order 8 = .ok (.if_icmp .eq 20, 3) := by decide +kernel
theorem dX3_order_11 : decode cX3_order 11 = .ok (.aload_n 0, 1) := by decide +kernel
theorem dX3_order_12 : decode cX3_order 12 = .ok (.getfield 21, 3) := by decide +kernel
theorem dX3_order_15 : decode cX3_order 15 = .ok (.aload_n 1, 1) := by decide +kernel
theorem dX3_order_16 : decode cX3_order 16 = .ok (.getfield 21, 3) := by decide +kernel
theorem dX3_order_19 : decode cX3_order 19 = .ok (.if_icmp .ge 7, 3) := by decide +kernel
theorem dX3_order_22 : decode cX3_order 22 = .ok (.iconst (-1), 1) := by decide +kernel
theorem dX3_order_23 : decode cX3_order 23 = .ok (.goto 4, 3) := by decide +kernel
theorem dX3_order_26 : decode cX3_order 26 = .ok (.iconst 1, 1) := by decide +kernel
theorem dX3_order_27 : decode cX3_order 27 = .ok (.ireturn, 1) := by decide +kernel
theorem dX3_order_28 : decode cX3_order 28 = .ok (.aload_n 0, 1) := by decide +kernel
theorem dX3_order_29 : decode cX3_order 29 = .ok (.getfield 21, 3) := by decide +kernel
theorem dX3_order_32 : decode cX3_order 32 = .ok (.iconst 1, 1) := by decide +kernel
theorem dX3_order_33 : decode cX3_order 33 = .ok (.isub, 1) := by decide +kernel
theorem dX3_order_34 : decode cX3_order 34 = .ok (.istore_n 2, 1) := by decide +kernel
theorem dX3_order_35 : decode cX3_order 35 = .ok (.iload_n 2, 1) := by decide +kernel
theorem dX3_order_36 : decode cX3_order 36 = .ok (.ifCond .lt 45, 3) := by decide +kernel
theorem dX3_order_39 : decode cX3_order 39 = .ok (.aload_n 0, 1) := by decide +kernel
theorem dX3_order_40 : decode cX3_order 40 = .ok (.getfield 15, 3) := by decide +kernel
theorem dX3_order_43 : decode cX3_order 43 = .ok (.iload_n 2, 1) := by decide +kernel
theorem dX3_order_44 : decode cX3_order 44 = .ok (.iaload, 1) := by decide +kernel
theorem dX3_order_45 : decode cX3_order 45 = .ok (.aload_n 1, 1) := by decide +kernel
theorem dX3_order_46 : decode cX3_order 46 = .ok (.getfield 15, 3) := by decide +kernel
theorem dX3_order_49 : decode cX3_order 49 = .ok (.iload_n 2, 1) := by decide +kernel
theorem dX3_order_50 : decode cX3_order 50 = .ok (.iaload, 1) := by decide +kernel
theorem dX3_order_51 : decode cX3_order 51 = .ok (.if_icmp .eq 24, 3) := by decide +kernel
theorem dX3_order_54 : decode cX3_order 54 = .ok (.aload_n 0, 1) := by decide +kernel
theorem dX3_order_55 : decode cX3_order 55 = .ok (.getfield 15, 3) := by decide +kernel
theorem dX3_order_58 : decode cX3_order 58 = .ok (.iload_n 2, 1) := by decide +kernel
theorem dX3_order_59 : decode cX3_order 59 = .ok (.iaload, 1) := by decide +kernel
theorem dX3_order_60 : decode cX3_order 60 = .ok (.aload_n 1, 1) := by decide +kernel
theorem dX3_order_61 : decode cX3_order 61 = .ok (.getfield 15, 3) := by decide +kernel
theorem dX3_order_64 : decode cX3_order 64 = .ok (.iload_n 2, 1) := by decide +kernel
theorem dX3_order_65 : decode cX3_order 65 = .ok (.iaload, 1) := by decide +kernel
theorem dX3_order_66 : decode cX3_order 66 = .ok (.if_icmp .ge 7, 3) := by decide +kernel
theorem dX3_order_69 : decode cX3_order 69 = .ok (.iconst (-1), 1) := by decide +kernel
theorem dX3_order_70 : decode cX3_order 70 = .ok (.goto 4, 3) := by decide +kernel
theorem dX3_order_73 : decode cX3_order 73 = .ok (.iconst 1, 1) := by decide +kernel
theorem dX3_order_74 : decode cX3_order 74 = .ok (.ireturn, 1) := by decide +kernel
theorem dX3_order_75 : decode cX3_order 75 = .ok (.iinc 2 (-1), 3) := by decide +kernel
theorem dX3_order_78 : decode cX3_order 78 = .ok (.goto (-43), 3) := by decide +kernel
theorem dX3_order_81 : decode cX3_order 81 = .ok (.iconst 0, 1) := by decide +kernel
theorem dX3_order_82 : decode cX3_order 82 = .ok (.ireturn, 1) := by decide +kernel
theorem dX3_become_0 : decode cX3_become 0 = .ok (.aload_n 1, 1) := by decide +kernel
theorem dX3_become_1 : decode cX3_become 1 = .ok (.getfield 15, 3) := by decide +kernel
theorem dX3_become_4 : decode cX3_become 4 = .ok (.iconst 0, 1) := by decide +kernel
theorem dX3_become_5 : decode cX3_become 5 = .ok (.aload_n 0, 1) := by decide +kernel
theorem dX3_become_6 : decode cX3_become 6 = .ok (.getfield 15, 3) := by decide +kernel
theorem dX3_become_9 : decode cX3_become 9 = .ok (.iconst 0, 1) := by decide +kernel
theorem dX3_become_10 : decode cX3_become 10 = .ok (.aload_n 1, 1) := by decide +kernel
theorem dX3_become_11 : decode cX3_become 11 = .ok (.getfield 21, 3) := by decide +kernel
theorem dX3_become_14 : decode cX3_become 14 = .ok (.invokestatic 33, 3) := by decide +kernel
theorem dX3_become_17 : decode cX3_become 17 = .ok (.aload_n 0, 1) := by decide +kernel
theorem dX3_become_18 : decode cX3_become 18 = .ok (.aload_n 1, 1) := by decide +kernel
theorem dX3_become_19 : decode cX3_become 19 = .ok (.getfield 21, 3) := by decide +kernel
theorem dX3_become_22 : decode cX3_become 22 = .ok (.putfield 21, 3) := by decide +kernel
theorem dX3_become_25 : decode cX3_become 25 = .ok (.return_, 1) := by decide +kernel
theorem dX3_becomeUnsigned_0 : decode cX3_becomeUnsigned 0 = .ok (.aload_n 0, 1) := by decide +kernel
theorem dX3_becomeUnsigned_1 : decode cX3_becomeUnsigned 1 = .ok (.getfield 15, 3) := by decide +kernel
theorem dX3_becomeUnsigned_4 : decode cX3_becomeUnsigned 4 = .ok (.iconst 0, 1) := by decide +kernel
theorem dX3_becomeUnsigned_5 : decode cX3_becomeUnsigned 5 = .ok (.lload_n 1, 1) := by decide +kernel
theorem dX3_becomeUnsigned_6 : decode cX3_becomeUnsigned 6 = .ok (.ldc2_w 39, 3) := by decide +kernel
theorem dX3_becomeUnsigned_9 : decode cX3_becomeUnsigned 9 = .ok (.land, 1) := by decide +kernel
theorem dX3_becomeUnsigned_10 : decode cX3_becomeUnsigned 10 = .ok (.l2i, 1) := by decide +kernel
theorem dX3_becomeUnsigned_11 : decode cX3_becomeUnsigned 11 = .ok (.iastore, 1) := by decide +kernel
theorem dX3_becomeUnsigned_12 : decode cX3_becomeUnsigned 12 = .ok (.aload_n 0, 1) := by decide +kernel
theorem dX3_becomeUnsigned_13 : decode cX3_becomeUnsigned 13 = .ok (.getfield 15, 3) := by decide +kernel
theorem dX3_becomeUnsigned_16 : decode cX3_becomeUnsigned 16 = .ok (.iconst 1, 1) := by decide +kernel
theorem dX3_becomeUnsigned_17 : decode cX3_becomeUnsigned 17 = .ok (.lload_n 1, 1) := by decide +kernel
theorem dX3_becomeUnsigned_18 : decode cX3_becomeUnsigned 18 = .ok (.bipush 31, 2) := by decide +kernel
theorem dX3_becomeUnsigned_20 : decode cX3_becomeUnsigned 20 = .ok (.lushr, 1) := by decide +kernel
theorem dX3_becomeUnsigned_21 : decode cX3_becomeUnsigned 21 = .ok (.ldc2_w 39, 3) := by decide +kernel
theorem dX3_becomeUnsigned_24 : decode cX3_becomeUnsigned 24 = .ok (.land, 1) := by decide +kernel
theorem dX3_becomeUnsigned_25 : decode cX3_becomeUnsigned 25 = .ok (.l2i, 1) := by decide +kernel
theorem dX3_becomeUnsigned_26 : decode cX3_becomeUnsigned 26 = .ok (.iastore, 1) := by decide +kernel
theorem dX3_becomeUnsigned_27 : decode cX3_becomeUnsigned 27 = .ok (.aload_n 0, 1) := by decide +kernel
theorem dX3_becomeUnsigned_28 : decode cX3_becomeUnsigned 28 = .ok (.getfield 15, 3) := by decide +kernel
theorem dX3_becomeUnsigned_31 : decode cX3_becomeUnsigned 31 = .ok (.iconst 2, 1) := by decide +kernel
theorem dX3_becomeUnsigned_32 : decode cX3_becomeUnsigned 32 = .ok (.lload_n 1, 1) := by decide +kernel
theorem dX3_becomeUnsigned_33 : decode cX3_becomeUnsigned 33 = .ok (.bipush 62, 2) := by decide +kernel
theorem dX3_becomeUnsigned_35 : decode cX3_becomeUnsigned 35 = .ok (.lushr, 1) := by decide +kernel
theorem dX3_becomeUnsigned_36 : decode cX3_becomeUnsigned 36 = .ok (.l2i, 1) := by decide +kernel
theorem dX3_becomeUnsigned_37 : decode cX3_becomeUnsigned 37 = .ok (.iastore, 1) := by decide +kernel
theorem dX3_becomeUnsigned_38 : decode cX3_becomeUnsigned 38 = .ok (.aload_n 0, 1) := by decide +kernel
theorem dX3_becomeUnsigned_39 : decode cX3_becomeUnsigned 39 = .ok (.iconst 3, 1) := by decide +kernel
theorem dX3_becomeUnsigned_40 : decode cX3_becomeUnsigned 40 = .ok (.invokevirtual 41, 3) := by decide +kernel
theorem dX3_becomeUnsigned_43 : decode cX3_becomeUnsigned 43 = .ok (.return_, 1) := by decide +kernel
theorem dX3_trim_0 : decode cX3_trim 0 = .ok (.aload_n 0, 1) := by decide +kernel
theorem dX3_trim_1 : decode cX3_trim 1 = .ok (.iload_n 1, 1) := by decide +kernel
theorem dX3_trim_2 : decode cX3_trim 2 = .ok (.putfield 21, 3) := by decide +kernel
theorem dX3_trim_5 : decode cX3_trim 5 = .ok (.aload_n 0, 1) := by decide +kernel
theorem dX3_trim_6 : decode cX3_trim 6 = .ok (.getfield 21, 3) := by decide +kernel
theorem dX3_trim_9 : decode cX3_trim 9 = .ok (.ifCond .le 30, 3) := by decide +kernel
theorem dX3_trim_12 : decode cX3_trim 12 = .ok (.aload_n 0, 1) := by decide +kernel
theorem dX3_trim_13 : decode cX3_trim 13 = .ok (.getfield 15, 3) := by decide +kernel
theorem dX3_trim_16 : decode cX3_trim 16 = .ok (.aload_n 0, 1) := by decide +kernel
theorem dX3_trim_17 : decode cX3_trim 17 = .ok (.getfield 21, 3) := by decide +kernel
theorem dX3_trim_20 : decode cX3_trim 20 = .ok (.iconst 1, 1) := by decide +kernel
theorem dX3_trim_21 : decode cX3_trim 21 = .ok (.isub, 1) := by decide +kernel
theorem dX3_trim_22 : decode cX3_trim 22 = .ok (.iaload, 1) := by decide +kernel
theorem dX3_trim_23 : decode cX3_trim 23 = .ok (.ifCond .ne 16, 3) := by decide +kernel
theorem dX3_trim_26 : decode cX3_trim 26 = .ok (.aload_n 0, 1) := by decide +kernel
theorem dX3_trim_27 : decode cX3_trim 27 = .ok (.dup, 1) := by decide +kernel
theorem dX3_trim_28 : decode cX3_trim 28 = .ok (.getfield 21, 3) := by decide +kernel
theorem dX3_trim_31 : decode cX3_trim 31 = .ok (.iconst 1, 1) := by decide +kernel
theorem dX3_trim_32 : decode cX3_trim 32 = .ok (.isub, 1) := by decide +kernel
theorem dX3_trim_33 : decode cX3_trim 33 = .ok (.putfield 21, 3) := by decide +kernel
theorem dX3_trim_36 : decode cX3_trim 36 = .ok (.goto (-31), 3) := by decide +kernel
theorem dX3_trim_39 : decode cX3_trim 39 = .ok (.return_, 1) := by decide +kernel
theorem dX3_becomeSum_0 : decode cX3_becomeSum 0 = .ok (.aload_n 1, 1) := by decide +kernel
theorem dX3_becomeSum_1 : decode cX3_becomeSum 1 = .ok (.getfield 21, 3) := by decide +kernel
theorem dX3_becomeSum_4 : decode cX3_becomeSum 4 = .ok (.aload_n 2, 1) := by decide +kernel
theorem dX3_becomeSum_5 : decode cX3_becomeSum 5 = .ok (.getfield 21, 3) := by decide +kernel
theorem dX3_becomeSum_8 : decode cX3_becomeSum 8 = .ok (.invokestatic 9, 3) := by decide +kernel
theorem dX3_becomeSum_11 : decode cX3_becomeSum 11 = .ok (.istore_n 3, 1) := by decide +kernel
theorem dX3_becomeSum_12 : decode cX3_becomeSum 12 = .ok (.iconst 0, 1) := by decide +kernel
theorem dX3_becomeSum_13 : decode cX3_becomeSum 13 = .ok (.istore 4, 2) := by decide +kernel
theorem dX3_becomeSum_15 : decode cX3_becomeSum 15 = .ok (.iconst 0, 1) := by decide +kernel
theorem dX3_becomeSum_16 : decode cX3_becomeSum 16 = .ok (.istore 5, 2) := by decide +kernel
theorem dX3_becomeSum_18 : decode cX3_becomeSum 18 = .ok (.iload 5, 2) := by decide +kernel
theorem dX3_becomeSum_20 : decode cX3_becomeSum 20 = .ok (.iload_n 3, 1) := by decide +kernel
theorem dX3_becomeSum_21 : decode cX3_becomeSum 21 = .ok (.if_icmp .ge 46, 3) := by decide +kernel
theorem dX3_becomeSum_24 : decode cX3_becomeSum 24 = .ok (.aload_n 1, 1) := by decide +kernel
theorem dX3_becomeSum_25 : decode cX3_becomeSum 25 = .ok (.iload 5, 2) := by decide +kernel
theorem dX3_becomeSum_27 : decode cX3_becomeSum 27 = .ok (.invokevirtual 25, 3) := by decide +kernel
theorem dX3_becomeSum_30 : decode cX3_becomeSum 30 = .ok (.aload_n 2, 1) := by decide +kernel
theorem dX3_becomeSum_31 : decode cX3_becomeSum 31 = .ok (.iload 5, 2) := by decide +kernel
theorem dX3_becomeSum_33 : decode cX3_becomeSum 33 = .ok (.invokevirtual 25, 3) := by decide +kernel
theorem dX3_becomeSum_36 : decode cX3_becomeSum 36 = .ok (.iadd, 1) := by decide +kernel
theorem dX3_becomeSum_37 : decode cX3_becomeSum 37 = .ok (.iload 4, 2) := by decide +kernel
theorem dX3_becomeSum_39 : decode cX3_becomeSum 39 = .ok (.iadd, 1) := by decide +kernel
theorem dX3_becomeSum_40 : decode cX3_becomeSum 40 = .ok (.istore 6, 2) := by decide +kernel
theorem dX3_becomeSum_42 : decode cX3_becomeSum 42 = .ok (.aload_n 0, 1) := by decide +kernel
theorem dX3_becomeSum_43 : decode cX3_becomeSum 43 = .ok (.getfield 15, 3) := by decide +kernel
theorem dX3_becomeSum_46 : decode cX3_becomeSum 46 = .ok (.iload 5, 2) := by decide +kernel
theorem dX3_becomeSum_48 : decode cX3_becomeSum 48 = .ok (.iload 6, 2) := by decide +kernel
theorem dX3_becomeSum_50 : decode cX3_becomeSum 50 = .ok (.ldc 45, 2) := by decide +kernel
theorem dX3_becomeSum_52 : decode cX3_becomeSum 52 = .ok (.iand, 1) := by decide +kernel
theorem dX3_becomeSum_53 : decode cX3_becomeSum 53 = .ok (.iastore, 1) := by decide +kernel
theorem dX3_becomeSum_54 : decode cX3_becomeSum 54 = .ok (.iload 6, 2) := by decide +kernel
theorem dX3_becomeSum_56 : decode cX3_becomeSum 56 = .ok (.bipush 31, 2) := by decide +kernel
theorem dX3_becomeSum_58 : decode cX3_becomeSum 58 = .ok (.iushr, 1) := by decide +kernel
theorem dX3_becomeSum_59 : decode cX3_becomeSum 59 = .ok (.istore 4, 2) := by decide +kernel
theorem dX3_becomeSum_61 : decode cX3_becomeSum 61 = .ok (.iinc 5 1, 3) := by decide +kernel
theorem dX3_becomeSum_64 : decode cX3_becomeSum 64 = .ok (.goto (-46), 3) := by decide +kernel
theorem dX3_becomeSum_67 : decode cX3_becomeSum 67 = .ok (.aload_n 0, 1) := by decide +kernel
theorem dX3_becomeSum_68 : decode cX3_becomeSum 68 = .ok (.getfield 15, 3) := by decide +kernel
theorem dX3_becomeSum_71 : decode cX3_becomeSum 71 = .ok (.iload_n 3, 1) := by decide +kernel
theorem dX3_becomeSum_72 : decode cX3_becomeSum 72 = .ok (.iload 4, 2) := by decide +kernel
theorem dX3_becomeSum_74 : decode cX3_becomeSum 74 = .ok (.iastore, 1) := by decide +kernel
theorem dX3_becomeSum_75 : decode cX3_becomeSum 75 = .ok (.aload_n 0, 1) := by decide +kernel
theorem dX3_becomeSum_76 : decode cX3_becomeSum 76 = .ok (.iload_n 3, 1) := by decide +kernel
theorem dX3_becomeSum_77 : decode cX3_becomeSum 77 = .ok (.iconst 1, 1) := by decide +kernel
theorem dX3_becomeSum_78 : decode cX3_becomeSum 78 = .ok (.iadd, 1) := by decide +kernel
theorem dX3_becomeSum_79 : decode cX3_becomeSum 79 = .ok (.invokevirtual 41, 3) := by decide +kernel
theorem dX3_becomeSum_82 : decode cX3_becomeSum 82 = .ok (.return_, 1) := by decide +kernel
theorem dX3_becomeDifference_0 : decode cX3_becomeDifference 0 = .ok (.iconst 0, 1) := by decide +kernel
theorem dX3_becomeDifference_1 : decode cX3_becomeDifference 1 = .ok (.istore_n 3, 1) := by decide +kernel
theorem dX3_becomeDifference_2 : decode cX3_becomeDifference 2 = .ok (.iconst 0, 1) := by decide +kernel
theorem dX3_becomeDifference_3 : decode cX3_becomeDifference 3 = .ok (.istore 4, 2) := by decide +kernel
theorem dX3_becomeDifference_5 : decode cX3_becomeDifference 5 = .ok (.iload 4, 2) := by decide +kernel
theorem dX3_becomeDifference_7 : decode cX3_becomeDifference 7 = .ok (.aload_n 1, 1) := by decide +kernel
theorem dX3_becomeDifference_8 : decode cX3_becomeDifference 8 = .ok (.getfield 21, 3) := by decide +kernel
theorem dX3_becomeDifference_11 : decode cX3_becomeDifference 11 = .ok (.if_icmp .ge 45, 3) := by decide +kernel
theorem dX3_becomeDifference_14 : decode cX3_becomeDifference 14 = .ok (.aload_n 1, 1) := by decide +kernel
theorem dX3_becomeDifference_15 : decode cX3_becomeDifference 15 = .ok (.getfield 15, 3) := by decide +kernel
theorem dX3_becomeDifference_18 : decode cX3_becomeDifference 18 = .ok (.iload 4, 2) := by decide +kernel
theorem dX3_becomeDifference_20 : decode cX3_becomeDifference 20 = .ok (.iaload, 1) := by decide +kernel
theorem dX3_becomeDifference_21 : decode cX3_becomeDifference 21 = .ok (.aload_n 2, 1) := by decide +kernel
theorem dX3_becomeDifference_22 : decode cX3_becomeDifference 22 = .ok (.iload 4, 2) := by decide +kernel
theorem dX3_becomeDifference_24 : decode cX3_becomeDifference 24 = .ok (.invokevirtual 25, 3) := by decide +kernel
theorem dX3_becomeDifference_27 : decode cX3_becomeDifference 27 = .ok (.isub, 1) := by decide +kernel
theorem dX3_becomeDifference_28 : decode cX3_becomeDifference 28 = .ok (.iload_n 3, 1) := by decide +kernel
theorem dX3_becomeDifference_29 : decode cX3_becomeDifference 29 = .ok (.isub, 1) := by decide +kernel
theorem dX3_becomeDifference_30 : decode cX3_becomeDifference 30 = .ok (.istore 5, 2) := by decide +kernel
theorem dX3_becomeDifference_32 : decode cX3_becomeDifference 32 = .ok (.aload_n 0, 1) := by decide +kernel
theorem dX3_becomeDifference_33 : decode cX3_becomeDifference 33 = .ok (.getfield 15, 3) := by decide +kernel
theorem dX3_becomeDifference_36 : decode cX3_becomeDifference 36 = .ok (.iload 4, 2) := by decide +kernel
theorem dX3_becomeDifference_38 : decode cX3_becomeDifference 38 = .ok (.iload 5, 2) := by decide +kernel
theorem dX3_becomeDifference_40 : decode cX3_becomeDifference 40 = .ok (.ldc 45, 2) := by decide +kernel
theorem dX3_becomeDifference_42 : decode cX3_becomeDifference 42 = .ok (.iand, 1) := by decide +kernel
theorem dX3_becomeDifference_43 : decode cX3_becomeDifference 43 = .ok (.iastore, 1) := by decide +kernel
theorem dX3_becomeDifference_44 : decode cX3_becomeDifference 44 = .ok (.iload 5, 2) := by decide +kernel
theorem dX3_becomeDifference_46 : decode cX3_becomeDifference 46 = .ok (.bipush 31, 2) := by decide +kernel
theorem dX3_becomeDifference_48 : decode cX3_becomeDifference 48 = .ok (.iushr, 1) := by decide +kernel
theorem dX3_becomeDifference_49 : decode cX3_becomeDifference 49 = .ok (.istore_n 3, 1) := by decide +kernel
theorem dX3_becomeDifference_50 : decode cX3_becomeDifference 50 = .ok (.iinc 4 1, 3) := by decide +kernel
theorem dX3_becomeDifference_53 : decode cX3_becomeDifference 53 = .ok (.goto (-48), 3) := by decide +kernel
theorem dX3_becomeDifference_56 : decode cX3_becomeDifference 56 = .ok (.aload_n 0, 1) := by decide +kernel
theorem dX3_becomeDifference_57 : decode cX3_becomeDifference 57 = .ok (.aload_n 1, 1) := by decide +kernel
theorem dX3_becomeDifference_58 : decode cX3_becomeDifference 58 = .ok (.getfield 21, 3) := by decide +kernel
theorem dX3_becomeDifference_61 : decode cX3_becomeDifference 61 = .ok (.invokevirtual 41, 3) := by decide +kernel
theorem dX3_becomeDifference_64 : decode cX3_becomeDifference 64 = .ok (.return_, 1) := by decide +kernel
theorem dX3_becomeProduct_0 : decode cX3_becomeProduct 0 = .ok (.iconst 0, 1) := by decide +kernel
theorem dX3_becomeProduct_1 : decode cX3_becomeProduct 1 = .ok (.istore_n 3, 1) := by decide +kernel
theorem dX3_becomeProduct_2 : decode cX3_becomeProduct 2 = .ok (.iload_n 3, 1) := by decide +kernel
theorem dX3_becomeProduct_3 : decode cX3_becomeProduct 3 = .ok (.aload_n 2, 1) := by decide +kernel
theorem dX3_becomeProduct_4 : decode cX3_becomeProduct 4 = .ok (.getfield 21, 3) := by decide +kernel
theorem dX3_becomeProduct_7 : decode cX3_becomeProduct 7 = .ok (.if_icmp .ge 16, 3) := by decide +kernel
theorem dX3_becomeProduct_10 : decode cX3_becomeProduct 10 = .ok (.aload_n 0, 1) := by decide +kernel
theorem dX3_becomeProduct_11 : decode cX3_becomeProduct 11 = .ok (.getfield 15, 3) := by decide +kernel
theorem dX3_becomeProduct_14 : decode cX3_becomeProduct 14 = .ok (.iload_n 3, 1) := by decide +kernel
theorem dX3_becomeProduct_15 : decode cX3_becomeProduct 15 = .ok (.iconst 0, 1) := by decide +kernel
theorem dX3_becomeProduct_16 : decode cX3_becomeProduct 16 = .ok (.iastore, 1) := by decide +kernel
theorem dX3_becomeProduct_17 : decode cX3_becomeProduct 17 = .ok (.iinc 3 1, 3) := by decide +kernel
theorem dX3_becomeProduct_20 : decode cX3_becomeProduct 20 = .ok (.goto (-18), 3) := by decide +kernel
theorem dX3_becomeProduct_23 : decode cX3_becomeProduct 23 = .ok (.iconst 0, 1) := by decide +kernel
theorem dX3_becomeProduct_24 : decode cX3_becomeProduct 24 = .ok (.istore_n 3, 1) := by decide +kernel
theorem dX3_becomeProduct_25 : decode cX3_becomeProduct 25 = .ok (.iload_n 3, 1) := by decide +kernel
theorem dX3_becomeProduct_26 : decode cX3_becomeProduct 26 = .ok (.aload_n 1, 1) := by decide +kernel
theorem dX3_becomeProduct_27 : decode cX3_becomeProduct 27 = .ok (.getfield 21, 3) := by decide +kernel
theorem dX3_becomeProduct_30 : decode cX3_becomeProduct 30 = .ok (.if_icmp .ge 33, 3) := by decide +kernel
theorem dX3_becomeProduct_33 : decode cX3_becomeProduct 33 = .ok (.aload_n 0, 1) := by decide +kernel
theorem dX3_becomeProduct_34 : decode cX3_becomeProduct 34 = .ok (.getfield 15, 3) := by decide +kernel
theorem dX3_becomeProduct_37 : decode cX3_becomeProduct 37 = .ok (.iload_n 3, 1) := by decide +kernel
theorem dX3_becomeProduct_38 : decode cX3_becomeProduct 38 = .ok (.aload_n 2, 1) := by decide +kernel
theorem dX3_becomeProduct_39 : decode cX3_becomeProduct 39 = .ok (.getfield 21, 3) := by decide +kernel
theorem dX3_becomeProduct_42 : decode cX3_becomeProduct 42 = .ok (.iadd, 1) := by decide +kernel
theorem dX3_becomeProduct_43 : decode cX3_becomeProduct 43 = .ok (.aload_n 0, 1) := by decide +kernel
theorem dX3_becomeProduct_44 : decode cX3_becomeProduct 44 = .ok (.aload_n 2, 1) := by decide +kernel
theorem dX3_becomeProduct_45 : decode cX3_becomeProduct 45 = .ok (.aload_n 1, 1) := by decide +kernel
theorem dX3_becomeProduct_46 : decode cX3_becomeProduct 46 = .ok (.getfield 15, 3) := by decide +kernel
theorem dX3_becomeProduct_49 : decode cX3_becomeProduct 49 = .ok (.iload_n 3, 1) := by decide +kernel
theorem dX3_becomeProduct_50 : decode cX3_becomeProduct 50 = .ok (.iaload, 1) := by decide +kernel
theorem dX3_becomeProduct_51 : decode cX3_becomeProduct 51 = .ok (.i2l, 1) := by decide +kernel
theorem dX3_becomeProduct_52 : decode cX3_becomeProduct 52 = .ok (.iload_n 3, 1) := by decide +kernel
theorem dX3_becomeProduct_53 : decode cX3_becomeProduct 53 = .ok (.invokevirtual 46, 3) := by decide +kernel
theorem dX3_becomeProduct_56 : decode cX3_becomeProduct 56 = .ok (.iastore, 1) := by decide +kernel
theorem dX3_becomeProduct_57 : decode cX3_becomeProduct 57 = .ok (.iinc 3 1, 3) := by decide +kernel
theorem dX3_becomeProduct_60 : decode cX3_becomeProduct 60 = .ok (.goto (-35), 3) := by decide +kernel
theorem dX3_becomeProduct_63 : decode cX3_becomeProduct 63 = .ok (.aload_n 0, 1) := by decide +kernel
theorem dX3_becomeProduct_64 : decode cX3_becomeProduct 64 = .ok (.aload_n 1, 1) := by decide +kernel
theorem dX3_becomeProduct_65 : decode cX3_becomeProduct 65 = .ok (.getfield 21, 3) := by decide +kernel
theorem dX3_becomeProduct_68 : decode cX3_becomeProduct 68 = .ok (.aload_n 2, 1) := by decide +kernel
theorem dX3_becomeProduct_69 : decode cX3_becomeProduct 69 = .ok (.getfield 21, 3) := by decide +kernel
theorem dX3_becomeProduct_72 : decode cX3_becomeProduct 72 = .ok (.iadd, 1) := by decide +kernel
theorem dX3_becomeProduct_73 : decode cX3_becomeProduct 73 = .ok (.invokevirtual 41, 3) := by decide +kernel
theorem dX3_becomeProduct_76 : decode cX3_becomeProduct 76 = .ok (.return_, 1) := by decide +kernel
theorem dX3_addMultiple_0 : decode cX3_addMultiple 0 = .ok (.aload_n 1, 1) := by decide +kernel
theorem dX3_addMultiple_1 : decode cX3_addMultiple 1 = .ok (.getfield 21, 3) := by decide +kernel
theorem dX3_addMultiple_4 : decode cX3_addMultiple 4 = .ok (.istore 5, 2) := by decide +kernel
theorem dX3_addMultiple_6 : decode cX3_addMultiple 6 = .ok (.lconst 0, 1) := by decide +kernel
theorem dX3_addMultiple_7 : decode cX3_addMultiple 7 = .ok (.lstore 6, 2) := by decide +kernel
theorem dX3_addMultiple_9 : decode cX3_addMultiple 9 = .ok (.iconst 0, 1) := by decide +kernel
theorem dX3_addMultiple_10 : decode cX3_addMultiple 10 = .ok (.istore 8, 2) := by decide +kernel
theorem dX3_addMultiple_12 : decode cX3_addMultiple 12 = .ok (.iload 8, 2) := by decide +kernel
theorem dX3_addMultiple_14 : decode cX3_addMultiple 14 = .ok (.iload 5, 2) := by decide +kernel
theorem dX3_addMultiple_16 : decode cX3_addMultiple 16 = .ok (.if_icmp .ge 60, 3) := by decide +kernel
theorem dX3_addMultiple_19 : decode cX3_addMultiple 19 = .ok (.lload 6, 2) := by decide +kernel
theorem dX3_addMultiple_21 : decode cX3_addMultiple 21 = .ok (.lload_n 2, 1) := by decide +kernel
theorem dX3_addMultiple_22 : decode cX3_addMultiple 22 = .ok (.aload_n 1, 1) := by decide +kernel
theorem dX3_addMultiple_23 : decode cX3_addMultiple 23 = .ok (.getfield 15, 3) := by decide +kernel
theorem dX3_addMultiple_26 : decode cX3_addMultiple 26 = .ok (.iload 8, 2) := by decide +kernel
theorem dX3_addMultiple_28 : decode cX3_addMultiple 28 = .ok (.iaload, 1) := by decide +kernel
theorem dX3_addMultiple_29 : decode cX3_addMultiple 29 = .ok (.i2l, 1) := by decide +kernel
theorem dX3_addMultiple_30 : decode cX3_addMultiple 30 = .ok (.lmul, 1) := by decide +kernel
theorem dX3_addMultiple_31 : decode cX3_addMultiple 31 = .ok (.aload_n 0, 1) := by decide +kernel
theorem dX3_addMultiple_32 : decode cX3_addMultiple 32 = .ok (.getfield 15, 3) := by decide +kernel
theorem dX3_addMultiple_35 : decode cX3_addMultiple 35 = .ok (.iload 4, 2) := by decide +kernel
theorem dX3_addMultiple_37 : decode cX3_addMultiple 37 = .ok (.iload 8, 2) := by decide +kernel
theorem dX3_addMultiple_39 : decode cX3_addMultiple 39 = .ok (.iadd, 1) := by decide +kernel
theorem dX3_addMultiple_40 : decode cX3_addMultiple 40 = .ok (.iaload, 1) := by decide +kernel
theorem dX3_addMultiple_41 : decode cX3_addMultiple 41 = .ok (.i2l, 1) := by decide +kernel
theorem dX3_addMultiple_42 : decode cX3_addMultiple 42 = .ok (.ladd, 1) := by decide +kernel
theorem dX3_addMultiple_43 : decode cX3_addMultiple 43 = .ok (.ladd, 1) := by decide +kernel
theorem dX3_addMultiple_44 : decode cX3_addMultiple 44 = .ok (.lstore 6, 2) := by decide +kernel
theorem dX3_addMultiple_46 : decode cX3_addMultiple 46 = .ok (.aload_n 0, 1) := by decide +kernel
theorem dX3_addMultiple_47 : decode cX3_addMultiple 47 = .ok (.getfield 15, 3) := by decide +kernel
theorem dX3_addMultiple_50 : decode cX3_addMultiple 50 = .ok (.iload 4, 2) := by decide +kernel
theorem dX3_addMultiple_52 : decode cX3_addMultiple 52 = .ok (.iload 8, 2) := by decide +kernel
theorem dX3_addMultiple_54 : decode cX3_addMultiple 54 = .ok (.iadd, 1) := by decide +kernel
theorem dX3_addMultiple_55 : decode cX3_addMultiple 55 = .ok (.lload 6, 2) := by decide +kernel
theorem dX3_addMultiple_57 : decode cX3_addMultiple 57 = .ok (.ldc2_w 39, 3) := by decide +kernel
theorem dX3_addMultiple_60 : decode cX3_addMultiple 60 = .ok (.land, 1) := by decide +kernel
theorem dX3_addMultiple_61 : decode cX3_addMultiple 61 = .ok (.l2i, 1) := by decide +kernel
theorem dX3_addMultiple_62 : decode cX3_addMultiple 62 = .ok (.iastore, 1) := by decide +kernel
theorem dX3_addMultiple_63 : decode cX3_addMultiple 63 = .ok (.lload 6, 2) := by decide +kernel
theorem dX3_addMultiple_65 : decode cX3_addMultiple 65 = .ok (.bipush 31, 2) := by decide +kernel
theorem dX3_addMultiple_67 : decode cX3_addMultiple 67 = .ok (.lushr, 1) := by decide +kernel
theorem dX3_addMultiple_68 : decode cX3_addMultiple 68 = .ok (.lstore 6, 2) := by decide +kernel
theorem dX3_addMultiple_70 : decode cX3_addMultiple 70 = .ok (.iinc 8 1, 3) := by decide +kernel
theorem dX3_addMultiple_73 : decode cX3_addMultiple 73 = .ok (.goto (-61), 3) := by decide +kernel
theorem dX3_addMultiple_76 : decode cX3_addMultiple 76 = .ok (.lload 6, 2) := by decide +kernel
theorem dX3_addMultiple_78 : decode cX3_addMultiple 78 = .ok (.l2i, 1) := by decide +kernel
theorem dX3_addMultiple_79 : decode cX3_addMultiple 79 = .ok (.ireturn, 1) := by decide +kernel
theorem dX3_multiplyAndAdd_0 : decode cX3_multiplyAndAdd 0 = .ok (.iload_n 2, 1) := by decide +kernel
theorem dX3_multiplyAndAdd_1 : decode cX3_multiplyAndAdd 1 = .ok (.i2l, 1) := by decide +kernel
theorem dX3_multiplyAndAdd_2 : decode cX3_multiplyAndAdd 2 = .ok (.lstore_n 3, 1) := by decide +kernel
theorem dX3_multiplyAndAdd_3 : decode cX3_multiplyAndAdd 3 = .ok (.iconst 0, 1) := by decide +kernel
theorem dX3_multiplyAndAdd_4 : decode cX3_multiplyAndAdd 4 = .ok (.istore 5, 2) := by decide +kernel
theorem dX3_multiplyAndAdd_6 : decode cX3_multiplyAndAdd 6 = .ok (.iload 5, 2) := by decide +kernel
theorem dX3_multiplyAndAdd_8 : decode cX3_multiplyAndAdd 8 = .ok (.aload_n 0, 1) := by decide +kernel
theorem dX3_multiplyAndAdd_9 : decode cX3_multiplyAndAdd 9 = .ok (.getfield 21, 3) := by decide +kernel
theorem dX3_multiplyAndAdd_12 : decode cX3_multiplyAndAdd 12 = .ok (.if_icmp .ge 41, 3) := by decide +kernel
theorem dX3_multiplyAndAdd_15 : decode cX3_multiplyAndAdd 15 = .ok (.lload_n 3, 1) := by decide +kernel
theorem dX3_multiplyAndAdd_16 : decode cX3_multiplyAndAdd 16 = .ok (.iload_n 1, 1) := by decide +kernel
theorem dX3_multiplyAndAdd_17 : decode cX3_multiplyAndAdd 17 = .ok (.i2l, 1) := by decide +kernel
theorem dX3_multiplyAndAdd_18 : decode cX3_multiplyAndAdd 18 = .ok (.aload_n 0, 1) := by decide +kernel
theorem dX3_multiplyAndAdd_19 : decode cX3_multiplyAndAdd 19 = .ok (.getfield 15, 3) := by decide +kernel
theorem dX3_multiplyAndAdd_22 : decode cX3_multiplyAndAdd 22 = .ok (.iload 5, 2) := by decide +kernel
theorem dX3_multiplyAndAdd_24 : decode cX3_multiplyAndAdd 24 = .ok (.iaload, 1) := by decide +kernel
theorem dX3_multiplyAndAdd_25 : decode cX3_multiplyAndAdd 25 = .ok (.i2l, 1) := by decide +kernel
theorem dX3_multiplyAndAdd_26 : decode cX3_multiplyAndAdd 26 = .ok (.lmul, 1) := by decide +kernel
theorem dX3_multiplyAndAdd_27 : decode cX3_multiplyAndAdd 27 = .ok (.ladd, 1) := by decide +kernel
theorem dX3_multiplyAndAdd_28 : decode cX3_multiplyAndAdd 28 = .ok (.lstore_n 3, 1) := by decide +kernel
theorem dX3_multiplyAndAdd_29 : decode cX3_multiplyAndAdd 29 = .ok (.aload_n 0, 1) := by decide +kernel
theorem dX3_multiplyAndAdd_30 : decode cX3_multiplyAndAdd 30 = .ok (.getfield 15, 3) := by decide +kernel
theorem dX3_multiplyAndAdd_33 : decode cX3_multiplyAndAdd 33 = .ok (.iload 5, 2) := by decide +kernel
theorem dX3_multiplyAndAdd_35 : decode cX3_multiplyAndAdd 35 = .ok (.lload_n 3, 1) := by decide +kernel
theorem dX3_multiplyAndAdd_36 : decode cX3_multiplyAndAdd 36 = .ok (.ldc2_w 39, 3) := by decide +kernel
theorem dX3_multiplyAndAdd_39 : decode cX3_multiplyAndAdd 39 = .ok (.land, 1) := by decide +kernel
theorem dX3_multiplyAndAdd_40 : decode cX3_multiplyAndAdd 40 = .ok (.l2i, 1) := by decide +kernel
theorem dX3_multiplyAndAdd_41 : decode cX3_multiplyAndAdd 41 = .ok (.iastore, 1) := by decide +kernel
theorem dX3_multiplyAndAdd_42 : decode cX3_multiplyAndAdd 42 = .ok (.lload_n 3, 1) := by decide +kernel
theorem dX3_multiplyAndAdd_43 : decode cX3_multiplyAndAdd 43 = .ok (.bipush 31, 2) := by decide +kernel
theorem dX3_multiplyAndAdd_45 : decode cX3_multiplyAndAdd 45 = .ok (.lushr, 1) := by decide +kernel
theorem dX3_multiplyAndAdd_46 : decode cX3_multiplyAndAdd 46 = .ok (.lstore_n 3, 1) := by decide +kernel
theorem dX3_multiplyAndAdd_47 : decode cX3_multiplyAndAdd 47 = .ok (.iinc 5 1, 3) := by decide +kernel
theorem dX3_multiplyAndAdd_50 : decode cX3_multiplyAndAdd 50 = .ok (.goto (-44), 3) := by decide +kernel
theorem dX3_multiplyAndAdd_53 : decode cX3_multiplyAndAdd 53 = .ok (.aload_n 0, 1) := by decide +kernel
theorem dX3_multiplyAndAdd_54 : decode cX3_multiplyAndAdd 54 = .ok (.getfield 15, 3) := by decide +kernel
theorem dX3_multiplyAndAdd_57 : decode cX3_multiplyAndAdd 57 = .ok (.aload_n 0, 1) := by decide +kernel
theorem dX3_multiplyAndAdd_58 : decode cX3_multiplyAndAdd 58 = .ok (.getfield 21, 3) := by decide +kernel
theorem dX3_multiplyAndAdd_61 : decode cX3_multiplyAndAdd 61 = .ok (.lload_n 3, 1) := by decide +kernel
theorem dX3_multiplyAndAdd_62 : decode cX3_multiplyAndAdd 62 = .ok (.l2i, 1) := by decide +kernel
theorem dX3_multiplyAndAdd_63 : decode cX3_multiplyAndAdd 63 = .ok (.iastore, 1) := by decide +kernel
theorem dX3_multiplyAndAdd_64 : decode cX3_multiplyAndAdd 64 = .ok (.aload_n 0, 1) := by decide +kernel
theorem dX3_multiplyAndAdd_65 : decode cX3_multiplyAndAdd 65 = .ok (.aload_n 0, 1) := by decide +kernel
theorem dX3_multiplyAndAdd_66 : decode cX3_multiplyAndAdd 66 = .ok (.getfield 21, 3) := by decide +kernel
theorem dX3_multiplyAndAdd_69 : decode cX3_multiplyAndAdd 69 = .ok (.iconst 1, 1) := by decide +kernel
theorem dX3_multiplyAndAdd_70 : decode cX3_multiplyAndAdd 70 = .ok (.iadd, 1) := by decide +kernel
theorem dX3_multiplyAndAdd_71 : decode cX3_multiplyAndAdd 71 = .ok (.invokevirtual 41, 3) := by decide +kernel
theorem dX3_multiplyAndAdd_74 : decode cX3_multiplyAndAdd 74 = .ok (.return_, 1) := by decide +kernel
theorem dX3_divideBy_0 : decode cX3_divideBy 0 = .ok (.iload_n 1, 1) := by decide +kernel
theorem dX3_divideBy_1 : decode cX3_divideBy 1 = .ok (.ifCond .gt 5, 3) := by decide +kernel
theorem dX3_divideBy_4 : decode cX3_divideBy 4 = .ok (.iconst 0, 1) := by decide +kernel
theorem dX3_divideBy_5 : decode cX3_divideBy 5 = .ok (.ireturn, 1) := by decide +kernel
theorem dX3_divideBy_6 : decode cX3_divideBy 6 = .ok (.lconst 0, 1) := by decide +kernel
theorem dX3_divideBy_7 : decode cX3_divideBy 7 = .ok (.lstore_n 2, 1) := by decide +kernel
theorem dX3_divideBy_8 : decode cX3_divideBy 8 = .ok (.aload_n 0, 1) := by decide +kernel
theorem dX3_divideBy_9 : decode cX3_divideBy 9 = .ok (.getfield 21, 3) := by decide +kernel
theorem dX3_divideBy_12 : decode cX3_divideBy 12 = .ok (.iconst 1, 1) := by decide +kernel
theorem dX3_divideBy_13 : decode cX3_divideBy 13 = .ok (.isub, 1) := by decide +kernel
theorem dX3_divideBy_14 : decode cX3_divideBy 14 = .ok (.istore 4, 2) := by decide +kernel
theorem dX3_divideBy_16 : decode cX3_divideBy 16 = .ok (.iload 4, 2) := by decide +kernel
theorem dX3_divideBy_18 : decode cX3_divideBy 18 = .ok (.ifCond .lt 50, 3) := by decide +kernel
theorem dX3_divideBy_21 : decode cX3_divideBy 21 = .ok (.lload_n 2, 1) := by decide +kernel
theorem dX3_divideBy_22 : decode cX3_divideBy 22 = .ok (.bipush 31, 2) := by decide +kernel
theorem dX3_divideBy_24 : decode cX3_divideBy 24 = .ok (.lshl, 1) := by decide +kernel
theorem dX3_divideBy_25 : decode cX3_divideBy 25 = .ok (.aload_n 0, 1) := by decide +kernel
theorem dX3_divideBy_26 : decode cX3_divideBy 26 = .ok (.getfield 15, 3) := by decide +kernel
theorem dX3_divideBy_29 : decode cX3_divideBy 29 = .ok (.iload 4, 2) := by decide +kernel
theorem dX3_divideBy_31 : decode cX3_divideBy 31 = .ok (.iaload, 1) := by decide +kernel
theorem dX3_divideBy_32 : decode cX3_divideBy 32 = .ok (.i2l, 1) := by decide +kernel
theorem dX3_divideBy_33 : decode cX3_divideBy 33 = .ok (.lor, 1) := by decide +kernel
theorem dX3_divideBy_34 : decode cX3_divideBy 34 = .ok (.lstore 5, 2) := by decide +kernel
theorem dX3_divideBy_36 : decode cX3_divideBy 36 = .ok (.lload 5, 2) := by decide +kernel
theorem dX3_divideBy_38 : decode cX3_divideBy 38 = .ok (.iload_n 1, 1) := by decide +kernel
theorem dX3_divideBy_39 : decode cX3_divideBy 39 = .ok (.i2l, 1) := by decide +kernel
theorem dX3_divideBy_40 : decode cX3_divideBy 40 = .ok (.ldiv, 1) := by decide +kernel
theorem dX3_divideBy_41 : decode cX3_divideBy 41 = .ok (.lstore 7, 2) := by decide +kernel
theorem dX3_divideBy_43 : decode cX3_divideBy 43 = .ok (.aload_n 0, 1) := by decide +kernel
theorem dX3_divideBy_44 : decode cX3_divideBy 44 = .ok (.getfield 15, 3) := by decide +kernel
theorem dX3_divideBy_47 : decode cX3_divideBy 47 = .ok (.iload 4, 2) := by decide +kernel
theorem dX3_divideBy_49 : decode cX3_divideBy 49 = .ok (.lload 7, 2) := by decide +kernel
theorem dX3_divideBy_51 : decode cX3_divideBy 51 = .ok (.l2i, 1) := by decide +kernel
theorem dX3_divideBy_52 : decode cX3_divideBy 52 = .ok (.iastore, 1) := by decide +kernel
theorem dX3_divideBy_53 : decode cX3_divideBy 53 = .ok (.lload 5, 2) := by decide +kernel
theorem dX3_divideBy_55 : decode cX3_divideBy 55 = .ok (.lload 7, 2) := by decide +kernel
theorem dX3_divideBy_57 : decode cX3_divideBy 57 = .ok (.iload_n 1, 1) := by decide +kernel
theorem dX3_divideBy_58 : decode cX3_divideBy 58 = .ok (.i2l, 1) := by decide +kernel
theorem dX3_divideBy_59 : decode cX3_divideBy 59 = .ok (.lmul, 1) := by decide +kernel
theorem dX3_divideBy_60 : decode cX3_divideBy 60 = .ok (.lsub, 1) := by decide +kernel
theorem dX3_divideBy_61 : decode cX3_divideBy 61 = .ok (.lstore_n 2, 1) := by decide +kernel
theorem dX3_divideBy_62 : decode cX3_divideBy 62 = .ok (.iinc 4 (-1), 3) := by decide +kernel
theorem dX3_divideBy_65 : decode cX3_divideBy 65 = .ok (.goto (-49), 3) := by decide +kernel
theorem dX3_divideBy_68 : decode cX3_divideBy 68 = .ok (.aload_n 0, 1) := by decide +kernel
theorem dX3_divideBy_69 : decode cX3_divideBy 69 = .ok (.aload_n 0, 1) := by decide +kernel
theorem dX3_divideBy_70 : decode cX3_divideBy 70 = .ok (.getfield 21, 3) := by decide +kernel
theorem dX3_divideBy_73 : decode cX3_divideBy 73 = .ok (.invokevirtual 41, 3) := by decide +kernel
theorem dX3_divideBy_76 : decode cX3_divideBy 76 = .ok (.lload_n 2, 1) := by decide +kernel
theorem dX3_divideBy_77 : decode cX3_divideBy 77 = .ok (.l2i, 1) := by decide +kernel
theorem dX3_divideBy_78 : decode cX3_divideBy 78 = .ok (.ireturn, 1) := by decide +kernel
theorem dX3_becomeMovedUp_0 : decode cX3_becomeMovedUp 0 = .ok (.iconst 0, 1) := by decide +kernel
theorem dX3_becomeMovedUp_1 : decode cX3_becomeMovedUp 1 = .ok (.istore_n 3, 1) := by decide +kernel
theorem dX3_becomeMovedUp_2 : decode cX3_becomeMovedUp 2 = .ok (.iconst 0, 1) := by decide +kernel
theorem dX3_becomeMovedUp_3 : decode cX3_becomeMovedUp 3 = .ok (.istore 4, 2) := by decide +kernel
theorem dX3_becomeMovedUp_5 : decode cX3_becomeMovedUp 5 = .ok (.iload 4, 2) := by decide +kernel
theorem dX3_becomeMovedUp_7 : decode cX3_becomeMovedUp 7 = .ok (.aload_n 1, 1) := by decide +kernel
theorem dX3_becomeMovedUp_8 : decode cX3_becomeMovedUp 8 = .ok (.getfield 21, 3) := by decide +kernel
theorem dX3_becomeMovedUp_11 : decode cX3_becomeMovedUp 11 = .ok (.if_icmp .ge 45, 3) := by decide +kernel
theorem dX3_becomeMovedUp_14 : decode cX3_becomeMovedUp 14 = .ok (.aload_n 1, 1) := by decide +kernel
theorem dX3_becomeMovedUp_15 : decode cX3_becomeMovedUp 15 = .ok (.getfield 15, 3) := by decide +kernel
theorem dX3_becomeMovedUp_18 : decode cX3_becomeMovedUp 18 = .ok (.iload 4, 2) := by decide +kernel
theorem dX3_becomeMovedUp_20 : decode cX3_becomeMovedUp 20 = .ok (.iaload, 1) := by decide +kernel
theorem dX3_becomeMovedUp_21 : decode cX3_becomeMovedUp 21 = .ok (.i2l, 1) := by decide +kernel
theorem dX3_becomeMovedUp_22 : decode cX3_becomeMovedUp 22 = .ok (.iload_n 2, 1) := by decide +kernel
theorem dX3_becomeMovedUp_23 : decode cX3_becomeMovedUp 23 = .ok (.lshl, 1) := by decide +kernel
theorem dX3_becomeMovedUp_24 : decode cX3_becomeMovedUp 24 = .ok (.iload_n 3, 1) := by decide +kernel
theorem dX3_becomeMovedUp_25 : decode cX3_becomeMovedUp 25 = .ok (.i2l, 1) := by decide +kernel
theorem dX3_becomeMovedUp_26 : decode cX3_becomeMovedUp 26 = .ok (.lor, 1) := by decide +kernel
theorem dX3_becomeMovedUp_27 : decode cX3_becomeMovedUp 27 = .ok (.lstore 5, 2) := by decide +kernel
theorem dX3_becomeMovedUp_29 : decode cX3_becomeMovedUp 29 = .ok (.aload_n 0, 1) := by decide +kernel
theorem dX3_becomeMovedUp_30 : decode cX3_becomeMovedUp 30 = .ok (.getfield 15, 3) := by decide +kernel
theorem dX3_becomeMovedUp_33 : decode cX3_becomeMovedUp 33 = .ok (.iload 4, 2) := by decide +kernel
theorem dX3_becomeMovedUp_35 : decode cX3_becomeMovedUp 35 = .ok (.lload 5, 2) := by decide +kernel
theorem dX3_becomeMovedUp_37 : decode cX3_becomeMovedUp 37 = .ok (.ldc2_w 39, 3) := by decide +kernel
theorem dX3_becomeMovedUp_40 : decode cX3_becomeMovedUp 40 = .ok (.land, 1) := by decide +kernel
theorem dX3_becomeMovedUp_41 : decode cX3_becomeMovedUp 41 = .ok (.l2i, 1) := by decide +kernel
theorem dX3_becomeMovedUp_42 : decode cX3_becomeMovedUp 42 = .ok (.iastore, 1) := by decide +kernel
theorem dX3_becomeMovedUp_43 : decode cX3_becomeMovedUp 43 = .ok (.lload 5, 2) := by decide +kernel
theorem dX3_becomeMovedUp_45 : decode cX3_becomeMovedUp 45 = .ok (.bipush 31, 2) := by decide +kernel
theorem dX3_becomeMovedUp_47 : decode cX3_becomeMovedUp 47 = .ok (.lushr, 1) := by decide +kernel
theorem dX3_becomeMovedUp_48 : decode cX3_becomeMovedUp 48 = .ok (.l2i, 1) := by decide +kernel
theorem dX3_becomeMovedUp_49 : decode cX3_becomeMovedUp 49 = .ok (.istore_n 3, 1) := by decide +kernel
theorem dX3_becomeMovedUp_50 : decode cX3_becomeMovedUp 50 = .ok (.iinc 4 1, 3) := by decide +kernel
theorem dX3_becomeMovedUp_53 : decode cX3_becomeMovedUp 53 = .ok (.goto (-48), 3) := by decide +kernel
theorem dX3_becomeMovedUp_56 : decode cX3_becomeMovedUp 56 = .ok (.aload_n 0, 1) := by decide +kernel
theorem dX3_becomeMovedUp_57 : decode cX3_becomeMovedUp 57 = .ok (.getfield 15, 3) := by decide +kernel
theorem dX3_becomeMovedUp_60 : decode cX3_becomeMovedUp 60 = .ok (.aload_n 1, 1) := by decide +kernel
theorem dX3_becomeMovedUp_61 : decode cX3_becomeMovedUp 61 = .ok (.getfield 21, 3) := by decide +kernel
theorem dX3_becomeMovedUp_64 : decode cX3_becomeMovedUp 64 = .ok (.iload_n 3, 1) := by decide +kernel
theorem dX3_becomeMovedUp_65 : decode cX3_becomeMovedUp 65 = .ok (.iastore, 1) := by decide +kernel
theorem dX3_becomeMovedUp_66 : decode cX3_becomeMovedUp 66 = .ok (.aload_n 0, 1) := by decide +kernel
theorem dX3_becomeMovedUp_67 : decode cX3_becomeMovedUp 67 = .ok (.aload_n 1, 1) := by decide +kernel
theorem dX3_becomeMovedUp_68 : decode cX3_becomeMovedUp 68 = .ok (.getfield 21, 3) := by decide +kernel
theorem dX3_becomeMovedUp_71 : decode cX3_becomeMovedUp 71 = .ok (.iconst 1, 1) := by decide +kernel
theorem dX3_becomeMovedUp_72 : decode cX3_becomeMovedUp 72 = .ok (.iadd, 1) := by decide +kernel
theorem dX3_becomeMovedUp_73 : decode cX3_becomeMovedUp 73 = .ok (.invokevirtual 41, 3) := by decide +kernel
theorem dX3_becomeMovedUp_76 : decode cX3_becomeMovedUp 76 = .ok (.return_, 1) := by decide +kernel
theorem dX3_moveDown_0 : decode cX3_moveDown 0 = .ok (.iconst 0, 1) := by decide +kernel
theorem dX3_moveDown_1 : decode cX3_moveDown 1 = .ok (.istore_n 2, 1) := by decide +kernel
theorem dX3_moveDown_2 : decode cX3_moveDown 2 = .ok (.iload_n 2, 1) := by decide +kernel
theorem dX3_moveDown_3 : decode cX3_moveDown 3 = .ok (.aload_n 0, 1) := by decide +kernel
theorem dX3_moveDown_4 : decode cX3_moveDown 4 = .ok (.getfield 21, 3) := by decide +kernel
theorem dX3_moveDown_7 : decode cX3_moveDown 7 = .ok (.if_icmp .ge 41, 3) := by decide +kernel
theorem dX3_moveDown_10 : decode cX3_moveDown 10 = .ok (.aload_n 0, 1) := by decide +kernel
theorem dX3_moveDown_11 : decode cX3_moveDown 11 = .ok (.iload_n 2, 1) := by decide +kernel
theorem dX3_moveDown_12 : decode cX3_moveDown 12 = .ok (.iconst 1, 1) := by decide +kernel
theorem dX3_moveDown_13 : decode cX3_moveDown 13 = .ok (.iadd, 1) := by decide +kernel
theorem dX3_moveDown_14 : decode cX3_moveDown 14 = .ok (.invokevirtual 25, 3) := by decide +kernel
theorem dX3_moveDown_17 : decode cX3_moveDown 17 = .ok (.bipush 31, 2) := by decide +kernel
theorem dX3_moveDown_19 : decode cX3_moveDown 19 = .ok (.iload_n 1, 1) := by decide +kernel
theorem dX3_moveDown_20 : decode cX3_moveDown 20 = .ok (.isub, 1) := by decide +kernel
theorem dX3_moveDown_21 : decode cX3_moveDown 21 = .ok (.ishl, 1) := by decide +kernel
theorem dX3_moveDown_22 : decode cX3_moveDown 22 = .ok (.istore_n 3, 1) := by decide +kernel
theorem dX3_moveDown_23 : decode cX3_moveDown 23 = .ok (.aload_n 0, 1) := by decide +kernel
theorem dX3_moveDown_24 : decode cX3_moveDown 24 = .ok (.getfield 15, 3) := by decide +kernel
theorem dX3_moveDown_27 : decode cX3_moveDown 27 = .ok (.iload_n 2, 1) := by decide +kernel
theorem dX3_moveDown_28 : decode cX3_moveDown 28 = .ok (.aload_n 0, 1) := by decide +kernel
theorem dX3_moveDown_29 : decode cX3_moveDown 29 = .ok (.getfield 15, 3) := by decide +kernel
theorem dX3_moveDown_32 : decode cX3_moveDown 32 = .ok (.iload_n 2, 1) := by decide +kernel
theorem dX3_moveDown_33 : decode cX3_moveDown 33 = .ok (.iaload, 1) := by decide +kernel
theorem dX3_moveDown_34 : decode cX3_moveDown 34 = .ok (.iload_n 1, 1) := by decide +kernel
theorem dX3_moveDown_35 : decode cX3_moveDown 35 = .ok (.iushr, 1) := by decide +kernel
theorem dX3_moveDown_36 : decode cX3_moveDown 36 = .ok (.iload_n 3, 1) := by decide +kernel
theorem dX3_moveDown_37 : decode cX3_moveDown 37 = .ok (.ior, 1) := by decide +kernel
theorem dX3_moveDown_38 : decode cX3_moveDown 38 = .ok (.ldc 45, 2) := by decide +kernel
theorem dX3_moveDown_40 : decode cX3_moveDown 40 = .ok (.iand, 1) := by decide +kernel
theorem dX3_moveDown_41 : decode cX3_moveDown 41 = .ok (.iastore, 1) := by decide +kernel
theorem dX3_moveDown_42 : decode cX3_moveDown 42 = .ok (.iinc 2 1, 3) := by decide +kernel
theorem dX3_moveDown_45 : decode cX3_moveDown 45 = .ok (.goto (-43), 3) := by decide +kernel
theorem dX3_moveDown_48 : decode cX3_moveDown 48 = .ok (.aload_n 0, 1) := by decide +kernel
theorem dX3_moveDown_49 : decode cX3_moveDown 49 = .ok (.aload_n 0, 1) := by decide +kernel
theorem dX3_moveDown_50 : decode cX3_moveDown 50 = .ok (.getfield 21, 3) := by decide +kernel
theorem dX3_moveDown_53 : decode cX3_moveDown 53 = .ok (.invokevirtual 41, 3) := by decide +kernel
theorem dX3_moveDown_56 : decode cX3_moveDown 56 = .ok (.return_, 1) := by decide +kernel
theorem dX3_withoutLowest_0 : decode cX3_withoutLowest 0 = .ok (.iload_n 1, 1) := by decide +kernel
theorem dX3_withoutLowest_1 : decode cX3_withoutLowest 1 = .ok (.bipush 31, 2) := by decide +kernel
theorem dX3_withoutLowest_3 : decode cX3_withoutLowest 3 = .ok (.idiv, 1) := by decide +kernel
theorem dX3_withoutLowest_4 : decode cX3_withoutLowest 4 = .ok (.istore_n 2, 1) := by decide +kernel
theorem dX3_withoutLowest_5 : decode cX3_withoutLowest 5 = .ok (.iload_n 1, 1) := by decide +kernel
theorem dX3_withoutLowest_6 : decode cX3_withoutLowest 6 = .ok (.bipush 31, 2) := by decide +kernel
theorem dX3_withoutLowest_8 : decode cX3_withoutLowest 8 = .ok (.irem, 1) := by decide +kernel
theorem dX3_withoutLowest_9 : decode cX3_withoutLowest 9 = .ok (.istore_n 3, 1) := by decide +kernel
theorem dX3_withoutLowest_10 : decode cX3_withoutLowest 10 = .ok (.aload_n 0, 1) := by decide +kernel
theorem dX3_withoutLowest_11 : decode cX3_withoutLowest 11 = .ok (.iload_n 2, 1) := by decide +kernel
theorem dX3_withoutLowest_12 : decode cX3_withoutLowest 12 = .ok (.iconst 2, 1) := by decide +kernel
theorem dX3_withoutLowest_13 : decode cX3_withoutLowest 13 = .ok (.iadd, 1) := by decide +kernel
theorem dX3_withoutLowest_14 : decode cX3_withoutLowest 14 = .ok (.invokevirtual 25, 3) := by decide +kernel
theorem dX3_withoutLowest_17 : decode cX3_withoutLowest 17 = .ok (.i2l, 1) := by decide +kernel
theorem dX3_withoutLowest_18 : decode cX3_withoutLowest 18 = .ok (.bipush 62, 2) := by decide +kernel
theorem dX3_withoutLowest_20 : decode cX3_withoutLowest 20 = .ok (.iload_n 3, 1) := by decide +kernel
theorem dX3_withoutLowest_21 : decode cX3_withoutLowest 21 = .ok (.isub, 1) := by decide +kernel
theorem dX3_withoutLowest_22 : decode cX3_withoutLowest 22 = .ok (.lshl, 1) := by decide +kernel
theorem dX3_withoutLowest_23 : decode cX3_withoutLowest 23 = .ok (.lstore 4, 2) := by decide +kernel
theorem dX3_withoutLowest_25 : decode cX3_withoutLowest 25 = .ok (.aload_n 0, 1) := by decide +kernel
theorem dX3_withoutLowest_26 : decode cX3_withoutLowest 26 = .ok (.iload_n 2, 1) := by decide +kernel
theorem dX3_withoutLowest_27 : decode cX3_withoutLowest 27 = .ok (.iconst 1, 1) := by decide +kernel
theorem dX3_withoutLowest_28 : decode cX3_withoutLowest 28 = .ok (.iadd, 1) := by decide +kernel
theorem dX3_withoutLowest_29 : decode cX3_withoutLowest 29 = .ok (.invokevirtual 25, 3) := by decide +kernel
theorem dX3_withoutLowest_32 : decode cX3_withoutLowest 32 = .ok (.i2l, 1) := by decide +kernel
theorem dX3_withoutLowest_33 : decode cX3_withoutLowest 33 = .ok (.bipush 31, 2) := by decide +kernel
theorem dX3_withoutLowest_35 : decode cX3_withoutLowest 35 = .ok (.iload_n 3, 1) := by decide +kernel
theorem dX3_withoutLowest_36 : decode cX3_withoutLowest 36 = .ok (.isub, 1) := by decide +kernel
theorem dX3_withoutLowest_37 : decode cX3_withoutLowest 37 = .ok (.lshl, 1) := by decide +kernel
theorem dX3_withoutLowest_38 : decode cX3_withoutLowest 38 = .ok (.lstore 6, 2) := by decide +kernel
theorem dX3_withoutLowest_40 : decode cX3_withoutLowest 40 = .ok (.lload 4, 2) := by decide +kernel
theorem dX3_withoutLowest_42 : decode cX3_withoutLowest 42 = .ok (.lload 6, 2) := by decide +kernel
theorem dX3_withoutLowest_44 : decode cX3_withoutLowest 44 = .ok (.lor, 1) := by decide +kernel
theorem dX3_withoutLowest_45 : decode cX3_withoutLowest 45 = .ok (.aload_n 0, 1) := by decide +kernel
theorem dX3_withoutLowest_46 : decode cX3_withoutLowest 46 = .ok (.iload_n 2, 1) := by decide +kernel
theorem dX3_withoutLowest_47 : decode cX3_withoutLowest 47 = .ok (.invokevirtual 25, 3) := by decide +kernel
theorem dX3_withoutLowest_50 : decode cX3_withoutLowest 50 = .ok (.iload_n 3, 1) := by decide +kernel
theorem dX3_withoutLowest_51 : decode cX3_withoutLowest 51 = .ok (.iushr, 1) := by decide +kernel
theorem dX3_withoutLowest_52 : decode cX3_withoutLowest 52 = .ok (.i2l, 1) := by decide +kernel
theorem dX3_withoutLowest_53 : decode cX3_withoutLowest 53 = .ok (.lor, 1) := by decide +kernel
theorem dX3_withoutLowest_54 : decode cX3_withoutLowest 54 = .ok (.lreturn, 1) := by decide +kernel
