theorem dX4_init_0 : decode cX4_init 0 = .ok (.aload_n 0, 1) := by decide +kernel
theorem dX4_init_1 : decode cX4_init 1 = .ok (.invokespecial 3, 3) := by decide +kernel
theorem dX4_init_4 : decode cX4_init 4 = .ok (.aload_n 0, 1) := by decide +kernel
theorem dX4_init_5 : decode cX4_init 5 = .ok (.new 9, 3) := by decide +kernel
theorem dX4_init_8 : decode cX4_init 8 = .ok (.dup, 1) := by decide +kernel
theorem dX4_init_9 : decode cX4_init 9 = .ok (.sipush 136, 3) := by decide +kernel
theorem dX4_init_12 : decode cX4_init 12 = .ok (.invokespecial 11, 3) := by decide +kernel
theorem dX4_init_15 : decode cX4_init 15 = .ok (.putfield 14, 3) := by decide +kernel
theorem dX4_init_18 : decode cX4_init 18 = .ok (.aload_n 0, 1) := by decide +kernel
theorem dX4_init_19 : decode cX4_init 19 = .ok (.new 20, 3) := by decide +kernel
theorem dX4_init_22 : decode cX4_init 22 = .ok (.dup, 1) := by decide +kernel
theorem dX4_init_23 : decode cX4_init 23 = .ok (.invokespecial 22, 3) := by decide +kernel
theorem dX4_init_26 : decode cX4_init 26 = .ok (.putfield 23, 3) := by decide +kernel
theorem dX4_init_29 : decode cX4_init 29 = .ok (.aload_n 0, 1) := by decide +kernel
theorem dX4_init_30 : decode cX4_init 30 = .ok (.aload_n 0, 1) := by decide +kernel
theorem dX4_init_31 : decode cX4_init 31 = .ok (.getfield 23, 3) := by decide +kernel
theorem dX4_init_34 : decode cX4_init 34 = .ok (.getfield 27, 3) := by decide +kernel
theorem dX4_init_37 : decode cX4_init 37 = .ok (.putfield 31, 3) := by decide +kernel
theorem dX4_init_40 : decode cX4_init 40 = .ok (.aload_n 0, 1) := by decide +kernel
theorem dX4_init_41 : decode cX4_init 41 = .ok (.new 32, 3) := by decide +kernel
theorem dX4_init_44 : decode cX4_init 44 = .ok (.dup, 1) := by decide +kernel
theorem dX4_init_45 : decode cX4_init 45 = .ok (.bipush 67, 2) := by decide +kernel
theorem dX4_init_47 : decode cX4_init 47 = .ok (.invokespecial 34, 3) := by decide +kernel
theorem dX4_init_50 : decode cX4_init 50 = .ok (.putfield 35, 3) := by decide +kernel
theorem dX4_init_53 : decode cX4_init 53 = .ok (.aload_n 0, 1) := by decide +kernel
theorem dX4_init_54 : decode cX4_init 54 = .ok (.new 32, 3) := by decide +kernel
theorem dX4_init_57 : decode cX4_init 57 = .ok (.dup, 1) := by decide +kernel
theorem dX4_init_58 : decode cX4_init 58 = .ok (.bipush 67, 2) := by decide +kernel
theorem dX4_init_60 : decode cX4_init 60 = .ok (.invokespecial 34, 3) := by decide +kernel
theorem dX4_init_63 : decode cX4_init 63 = .ok (.putfield 39, 3) := by decide +kernel
theorem dX4_init_66 : decode cX4_init 66 = .ok (.aload_n 0, 1) := by decide +kernel
theorem dX4_init_67 : decode cX4_init 67 = .ok (.new 32, 3) := by decide +kernel
theorem dX4_init_70 : decode cX4_init 70 = .ok (.dup, 1) := by decide +kernel
theorem dX4_init_71 : decode cX4_init 71 = .ok (.bipush 67, 2) := by decide +kernel
theorem dX4_init_73 : decode cX4_init 73 = .ok (.invokespecial 34, 3) := by decide +kernel
theorem dX4_init_76 : decode cX4_init 76 = .ok (.putfield 42, 3) := by decide +kernel
theorem dX4_init_79 : decode cX4_init 79 = .ok (.aload_n 0, 1) := by decide +kernel
theorem dX4_init_80 : decode cX4_init 80 = .ok (.new 32, 3) := by decide +kernel
theorem dX4_init_83 : decode cX4_init 83 = .ok (.dup, 1) := by decide +kernel
theorem dX4_init_84 : decode cX4_init 84 = .ok (.sipush 136, 3) := by decide +kernel
theorem dX4_init_87 : decode cX4_init 87 = .ok (.invokespecial 34, 3) := by decide +kernel
theorem dX4_init_90 : decode cX4_init 90 = .ok (.putfield 45, 3) := by decide +kernel
theorem dX4_init_93 : decode cX4_init 93 = .ok (.aload_n 0, 1) := by decide +kernel
theorem dX4_init_94 : decode cX4_init 94 = .ok (.new 32, 3) := by decide +kernel
theorem dX4_init_97 : decode cX4_init 97 = .ok (.dup, 1) := by decide +kernel
theorem dX4_init_98 : decode cX4_init 98 = .ok (.sipush 136, 3) := by decide +kernel
theorem dX4_init_101 : decode cX4_init 101 = .ok (.invokespecial 34, 3) := by decide +kernel
theorem dX4_init_104 : decode cX4_init 104 = .ok (.putfield 48, 3) := by decide +kernel
theorem dX4_init_107 : decode cX4_init 107 = .ok (.return_, 1) := by decide +kernel
theorem dX4_combine_0 : decode cX4_combine 0 = .ok (.iload_n 3, 1) := by decide +kernel
theorem dX4_combine_1 : decode cX4_combine 1 = .ok (.tableswitch 189 0 9 #[55, 66, 85, 103, 136, 136, 136, 144, 151, 170], 55) := by decide +kernel
theorem dX4_combine_56 : decode cX4_combine 56 = .ok (.aload_n 0, 1) := by decide +kernel
theorem dX4_combine_57 : decode cX4_combine 57 = .ok (.aload_n 1, 1) := by decide +kernel
theorem dX4_combine_58 : decode cX4_combine 58 = .ok (.aload_n 2, 1) := by decide +kernel
theorem dX4_combine_59 : decode cX4_combine 59 = .ok (.aload_n 2, 1) := by decide +kernel
theorem dX4_combine_60 : decode cX4_combine 60 = .ok (.getfield 51, 3) := by decide +kernel
theorem dX4_combine_63 : decode cX4_combine 63 = .ok (.invokevirtual 55, 3) := by decide +kernel
theorem dX4_combine_66 : decode cX4_combine 66 = .ok (.ireturn, 1) := by decide +kernel
theorem dX4_combine_67 : decode cX4_combine 67 = .ok (.aload_n 0, 1) := by decide +kernel
theorem dX4_combine_68 : decode cX4_combine 68 = .ok (.aload_n 1, 1) := by decide +kernel
theorem dX4_combine_69 : decode cX4_combine 69 = .ok (.aload_n 2, 1) := by decide +kernel
theorem dX4_combine_70 : decode cX4_combine 70 = .ok (.aload_n 2, 1) := by decide +kernel
theorem dX4_combine_71 : decode cX4_combine 71 = .ok (.getfield 51, 3) := by decide +kernel
theorem dX4_combine_74 : decode cX4_combine 74 = .ok (.ifCond .ne 7, 3) := by decide +kernel
theorem dX4_combine_77 : decode cX4_combine 77 = .ok (.iconst 1, 1) := by decide +kernel
theorem dX4_combine_78 : decode cX4_combine 78 = .ok (.goto 4, 3) := by decide +kernel
theorem dX4_combine_81 : decode cX4_combine 81 = .ok (.iconst 0, 1) := by decide +kernel
theorem dX4_combine_82 : decode cX4_combine 82 = .ok (.invokevirtual 55, 3) := by decide +kernel
theorem dX4_combine_85 : decode cX4_combine 85 = .ok (.ireturn, 1) := by decide +kernel
theorem dX4_combine_86 : decode cX4_combine 86 = .ok (.aload_n 0, 1) := by decide +kernel
theorem dX4_combine_87 : decode cX4_combine 87 = .ok (.aload_n 1, 1) := by decide +kernel
theorem dX4_combine_88 : decode cX4_combine 88 = .ok (.aload_n 2, 1) := by decide +kernel
theorem dX4_combine_89 : decode cX4_combine 89 = .ok (.getfield 59, 3) := by decide +kernel
theorem dX4_combine_92 : decode cX4_combine 92 = .ok (.aload_n 2, 1) := by decide +kernel
theorem dX4_combine_93 : decode cX4_combine 93 = .ok (.getfield 62, 3) := by decide +kernel
theorem dX4_combine_96 : decode cX4_combine 96 = .ok (.aload_n 2, 1) := by decide +kernel
theorem dX4_combine_97 : decode cX4_combine 97 = .ok (.getfield 51, 3) := by decide +kernel
theorem dX4_combine_100 : decode cX4_combine 100 = .ok (.invokevirtual 65, 3) := by decide +kernel
theorem dX4_combine_103 : decode cX4_combine 103 = .ok (.ireturn, 1) := by decide +kernel
theorem dX4_combine_104 : decode cX4_combine 104 = .ok (.aload_n 2, 1) := by decide +kernel
theorem dX4_combine_105 : decode cX4_combine 105 = .ok (.getfield 59, 3) := by decide +kernel
theorem dX4_combine_108 : decode cX4_combine 108 = .ok (.invokevirtual 69, 3) := by decide +kernel
theorem dX4_combine_111 : decode cX4_combine 111 = .ok (.ifCond .eq 8, 3) := by decide +kernel
theorem dX4_combine_114 : decode cX4_combine 114 = .ok (.bipush (-2), 2) := by decide +kernel
theorem dX4_combine_116 : decode cX4_combine 116 = .ok (.goto 20, 3) := by decide +kernel
theorem dX4_combine_119 : decode cX4_combine 119 = .ok (.aload_n 0, 1) := by decide +kernel
theorem dX4_combine_120 : decode cX4_combine 120 = .ok (.aload_n 1, 1) := by decide +kernel
theorem dX4_combine_121 : decode cX4_combine 121 = .ok (.aload_n 2, 1) := by decide +kernel
theorem dX4_combine_122 : decode cX4_combine 122 = .ok (.getfield 62, 3) := by decide +kernel
theorem dX4_combine_125 : decode cX4_combine 125 = .ok (.aload_n 2, 1) := by decide +kernel
theorem dX4_combine_126 : decode cX4_combine 126 = .ok (.getfield 59, 3) := by decide +kernel
theorem dX4_combine_129 : decode cX4_combine 129 = .ok (.aload_n 2, 1) := by decide +kernel
theorem dX4_combine_130 : decode cX4_combine 130 = .ok (.getfield 51, 3) := by decide +kernel
theorem dX4_combine_133 : decode cX4_combine 133 = .ok (.invokevirtual 65, 3) := by decide +kernel
theorem dX4_combine_136 : decode cX4_combine 136 = .ok (.ireturn, 1) := by decide +kernel
theorem dX4_combine_137 : decode cX4_combine 137 = .ok (.aload_n 0, 1) := by decide +kernel
theorem dX4_combine_138 : decode cX4_combine 138 = .ok (.aload_n 1, 1) := by decide +kernel
theorem dX4_combine_139 : decode cX4_combine 139 = .ok (.aload_n 2, 1) := by decide +kernel
theorem dX4_combine_140 : decode cX4_combine 140 = .ok (.iload_n 3, 1) := by decide +kernel
theorem dX4_combine_141 : decode cX4_combine 141 = .ok (.invokevirtual 73, 3) := by decide +kernel
theorem dX4_combine_144 : decode cX4_combine 144 = .ok (.ireturn, 1) := by decide +kernel
theorem dX4_combine_145 : decode cX4_combine 145 = .ok (.aload_n 0, 1) := by decide +kernel
theorem dX4_combine_146 : decode cX4_combine 146 = .ok (.aload_n 1, 1) := by decide +kernel
theorem dX4_combine_147 : decode cX4_combine 147 = .ok (.aload_n 2, 1) := by decide +kernel
theorem dX4_combine_148 : decode cX4_combine 148 = .ok (.invokevirtual 77, 3) := by decide +kernel
theorem dX4_combine_151 : decode cX4_combine 151 = .ok (.ireturn, 1) := by decide +kernel
theorem dX4_combine_152 : decode cX4_combine 152 = .ok (.aload_n 0, 1) := by decide +kernel
theorem dX4_combine_153 : decode cX4_combine 153 = .ok (.aload_n 0, 1) := by decide +kernel
theorem dX4_combine_154 : decode cX4_combine 154 = .ok (.aload_n 1, 1) := by decide +kernel
theorem dX4_combine_155 : decode cX4_combine 155 = .ok (.aload_n 2, 1) := by decide +kernel
theorem dX4_combine_156 : decode cX4_combine 156 = .ok (.invokevirtual 81, 3) := by decide +kernel
theorem dX4_combine_159 : decode cX4_combine 159 = .ok (.ifCond .gt 7, 3) := by decide +kernel
theorem dX4_combine_162 : decode cX4_combine 162 = .ok (.aload_n 1, 1) := by decide +kernel
theorem dX4_combine_163 : decode cX4_combine 163 = .ok (.goto 4, 3) := by decide +kernel
theorem dX4_combine_166 : decode cX4_combine 166 = .ok (.aload_n 2, 1) := by decide +kernel
theorem dX4_combine_167 : decode cX4_combine 167 = .ok (.invokevirtual 84, 3) := by decide +kernel
theorem dX4_combine_170 : decode cX4_combine 170 = .ok (.ireturn, 1) := by decide +kernel
theorem dX4_combine_171 : decode cX4_combine 171 = .ok (.aload_n 0, 1) := by decide +kernel
theorem dX4_combine_172 : decode cX4_combine 172 = .ok (.aload_n 0, 1) := by decide +kernel
theorem dX4_combine_173 : decode cX4_combine 173 = .ok (.aload_n 1, 1) := by decide +kernel
theorem dX4_combine_174 : decode cX4_combine 174 = .ok (.aload_n 2, 1) := by decide +kernel
theorem dX4_combine_175 : decode cX4_combine 175 = .ok (.invokevirtual 81, 3) := by decide +kernel
theorem dX4_combine_178 : decode cX4_combine 178 = .ok (.ifCond .lt 7, 3) := by decide +kernel
theorem dX4_combine_181 : decode cX4_combine 181 = .ok (.aload_n 1, 1) := by decide +kernel
theorem dX4_combine_182 : decode cX4_combine 182 = .ok (.goto 4, 3) := by decide +kernel
theorem dX4_combine_185 : decode cX4_combine 185 = .ok (.aload_n 2, 1) := by decide +kernel
theorem dX4_combine_186 : decode cX4_combine 186 = .ok (.invokevirtual 84, 3) := by decide +kernel
theorem dX4_combine_189 : decode cX4_combine 189 = .ok (.ireturn, 1) := by decide +kernel
theorem dX4_combine_190 : decode cX4_combine 190 = .ok (.iconst (-1), 1) := by decide +kernel
theorem dX4_combine_191 : decode cX4_combine 191 = .ok (.ireturn, 1) := by decide +kernel
theorem dX4_change_0 : decode cX4_change 0 = .ok (.iload_n 2, 1) := by decide +kernel
theorem dX4_change_1 : decode cX4_change 1 = .ok (.tableswitch 132 0 7 #[47, 64, 78, 96, 96, 96, 96, 103], 47) := by decide +kernel
theorem dX4_change_48 : decode cX4_change 48 = .ok (.aload_n 0, 1) := by decide +kernel
theorem dX4_change_49 : decode cX4_change 49 = .ok (.getfield 14, 3) := by decide +kernel
theorem dX4_change_52 : decode cX4_change 52 = .ok (.aload_n 1, 1) := by decide +kernel
theorem dX4_change_53 : decode cX4_change 53 = .ok (.getfield 59, 3) := by decide +kernel
theorem dX4_change_56 : decode cX4_change 56 = .ok (.aload_n 1, 1) := by decide +kernel
theorem dX4_change_57 : decode cX4_change 57 = .ok (.getfield 51, 3) := by decide +kernel
theorem dX4_change_60 : decode cX4_change 60 = .ok (.invokevirtual 88, 3) := by decide +kernel
theorem dX4_change_63 : decode cX4_change 63 = .ok (.iconst 0, 1) := by decide +kernel
theorem dX4_change_64 : decode cX4_change 64 = .ok (.ireturn, 1) := by decide +kernel
theorem dX4_change_65 : decode cX4_change 65 = .ok (.aload_n 0, 1) := by decide +kernel
theorem dX4_change_66 : decode cX4_change 66 = .ok (.getfield 14, 3) := by decide +kernel
theorem dX4_change_69 : decode cX4_change 69 = .ok (.aload_n 1, 1) := by decide +kernel
theorem dX4_change_70 : decode cX4_change 70 = .ok (.getfield 62, 3) := by decide +kernel
theorem dX4_change_73 : decode cX4_change 73 = .ok (.iconst 0, 1) := by decide +kernel
theorem dX4_change_74 : decode cX4_change 74 = .ok (.invokevirtual 88, 3) := by decide +kernel
theorem dX4_change_77 : decode cX4_change 77 = .ok (.iconst 0, 1) := by decide +kernel
theorem dX4_change_78 : decode cX4_change 78 = .ok (.ireturn, 1) := by decide +kernel
theorem dX4_change_79 : decode cX4_change 79 = .ok (.aload_n 0, 1) := by decide +kernel
theorem dX4_change_80 : decode cX4_change 80 = .ok (.getfield 14, 3) := by decide +kernel
theorem dX4_change_83 : decode cX4_change 83 = .ok (.aload_n 1, 1) := by decide +kernel
theorem dX4_change_84 : decode cX4_change 84 = .ok (.invokevirtual 92, 3) := by decide +kernel
theorem dX4_change_87 : decode cX4_change 87 = .ok (.aload_n 0, 1) := by decide +kernel
theorem dX4_change_88 : decode cX4_change 88 = .ok (.getfield 14, 3) := by decide +kernel
theorem dX4_change_91 : decode cX4_change 91 = .ok (.iconst 0, 1) := by decide +kernel
theorem dX4_change_92 : decode cX4_change 92 = .ok (.invokevirtual 96, 3) := by decide +kernel
theorem dX4_change_95 : decode cX4_change 95 = .ok (.iconst 0, 1) := by decide +kernel
theorem dX4_change_96 : decode cX4_change 96 = .ok (.ireturn, 1) := by decide +kernel
theorem dX4_change_97 : decode cX4_change 97 = .ok (.aload_n 0, 1) := by decide +kernel
theorem dX4_change_98 : decode cX4_change 98 = .ok (.aload_n 1, 1) := by decide +kernel
theorem dX4_change_99 : decode cX4_change 99 = .ok (.iload_n 2, 1) := by decide +kernel
theorem dX4_change_100 : decode cX4_change 100 = .ok (.invokevirtual 100, 3) := by decide +kernel
theorem dX4_change_103 : decode cX4_change 103 = .ok (.ireturn, 1) := by decide +kernel
theorem dX4_change_104 : decode cX4_change 104 = .ok (.aload_n 0, 1) := by decide +kernel
theorem dX4_change_105 : decode cX4_change 105 = .ok (.getfield 14, 3) := by decide +kernel
theorem dX4_change_108 : decode cX4_change 108 = .ok (.aload_n 1, 1) := by decide +kernel
theorem dX4_change_109 : decode cX4_change 109 = .ok (.invokevirtual 92, 3) := by decide +kernel
theorem dX4_change_112 : decode cX4_change 112 = .ok (.aload_n 0, 1) := by decide +kernel
theorem dX4_change_113 : decode cX4_change 113 = .ok (.getfield 14, 3) := by decide +kernel
theorem dX4_change_116 : decode cX4_change 116 = .ok (.aload_n 1, 1) := by decide +kernel
theorem dX4_change_117 : decode cX4_change 117 = .ok (.getfield 51, 3) := by decide +kernel
theorem dX4_change_120 : decode cX4_change 120 = .ok (.ifCond .ne 7, 3) := by decide +kernel
theorem dX4_change_123 : decode cX4_change 123 = .ok (.iconst 1, 1) := by decide +kernel
theorem dX4_change_124 : decode cX4_change 124 = .ok (.goto 4, 3) := by decide +kernel
theorem dX4_change_127 : decode cX4_change 127 = .ok (.iconst 0, 1) := by decide +kernel
theorem dX4_change_128 : decode cX4_change 128 = .ok (.invokevirtual 96, 3) := by decide +kernel
theorem dX4_change_131 : decode cX4_change 131 = .ok (.iconst 0, 1) := by decide +kernel
theorem dX4_change_132 : decode cX4_change 132 = .ok (.ireturn, 1) := by decide +kernel
theorem dX4_change_133 : decode cX4_change 133 = .ok (.iconst (-1), 1) := by decide +kernel
theorem dX4_change_134 : decode cX4_change 134 = .ok (.ireturn, 1) := by decide +kernel
theorem dX4_order_0 : decode cX4_order 0 = .ok (.aload_n 1, 1) := by decide +kernel
theorem dX4_order_1 : decode cX4_order 1 = .ok (.getfield 51, 3) := by decide +kernel
theorem dX4_order_4 : decode cX4_order 4 = .ok (.aload_n 2, 1) := by decide +kernel
theorem dX4_order_5 : decode cX4_order 5 = .ok (.getfield 51, 3) := by decide +kernel
theorem dX4_order_8 : decode cX4_order 8 = .ok (.if_icmp .eq 16, 3) := by decide +kernel
theorem dX4_order_11 : decode cX4_order 11 = .ok (.aload_n 1, 1) := by decide +kernel
theorem dX4_order_12 : decode cX4_order 12 = .ok (.getfield 51, 3) := by decide +kernel
theorem dX4_order_15 : decode cX4_order 15 = .ok (.ifCond .eq 7, 3) := by decide +kernel
theorem dX4_order_18 : decode cX4_order 18 = .ok (.iconst (-1), 1) := by decide +kernel
theorem dX4_order_19 : decode cX4_order 19 = .ok (.goto 4, 3) := by decide +kernel
theorem dX4_order_22 : decode cX4_order 22 = .ok (.iconst 1, 1) := by decide +kernel
theorem dX4_order_23 : decode cX4_order 23 = .ok (.ireturn, 1) := by decide +kernel
theorem dX4_order_24 : decode cX4_order 24 = .ok (.aload_n 0, 1) := by decide +kernel
theorem dX4_order_25 : decode cX4_order 25 = .ok (.getfield 45, 3) := by decide +kernel
theorem dX4_order_28 : decode cX4_order 28 = .ok (.aload_n 1, 1) := by decide +kernel
theorem dX4_order_29 : decode cX4_order 29 = .ok (.getfield 59, 3) := by decide +kernel
theorem dX4_order_32 : decode cX4_order 32 = .ok (.aload_n 2, 1) := by decide +kernel
theorem dX4_order_33 : decode cX4_order 33 = .ok (.getfield 62, 3) := by decide +kernel
theorem dX4_order_36 : decode cX4_order 36 = .ok (.invokevirtual 104, 3) := by decide +kernel
theorem dX4_order_39 : decode cX4_order 39 = .ok (.aload_n 0, 1) := by decide +kernel
theorem dX4_order_40 : decode cX4_order 40 = .ok (.getfield 48, 3) := by decide +kernel
theorem dX4_order_43 : decode cX4_order 43 = .ok (.aload_n 2, 1) := by decide +kernel
theorem dX4_order_44 : decode cX4_order 44 = .ok (.getfield 59, 3) := by decide +kernel
theorem dX4_order_47 : decode cX4_order 47 = .ok (.aload_n 1, 1) := by decide +kernel
theorem dX4_order_48 : decode cX4_order 48 = .ok (.getfield 62, 3) := by decide +kernel
theorem dX4_order_51 : decode cX4_order 51 = .ok (.invokevirtual 104, 3) := by decide +kernel
theorem dX4_order_54 : decode cX4_order 54 = .ok (.aload_n 1, 1) := by decide +kernel
theorem dX4_order_55 : decode cX4_order 55 = .ok (.getfield 51, 3) := by decide +kernel
theorem dX4_order_58 : decode cX4_order 58 = .ok (.ifCond .eq 17, 3) := by decide +kernel
theorem dX4_order_61 : decode cX4_order 61 = .ok (.aload_n 0, 1) := by decide +kernel
theorem dX4_order_62 : decode cX4_order 62 = .ok (.getfield 48, 3) := by decide +kernel
theorem dX4_order_65 : decode cX4_order 65 = .ok (.aload_n 0, 1) := by decide +kernel
theorem dX4_order_66 : decode cX4_order 66 = .ok (.getfield 45, 3) := by decide +kernel
theorem dX4_order_69 : decode cX4_order 69 = .ok (.invokevirtual 108, 3) := by decide +kernel
theorem dX4_order_72 : decode cX4_order 72 = .ok (.goto 14, 3) := by decide +kernel
theorem dX4_order_75 : decode cX4_order 75 = .ok (.aload_n 0, 1) := by decide +kernel
theorem dX4_order_76 : decode cX4_order 76 = .ok (.getfield 45, 3) := by decide +kernel
theorem dX4_order_79 : decode cX4_order 79 = .ok (.aload_n 0, 1) := by decide +kernel
theorem dX4_order_80 : decode cX4_order 80 = .ok (.getfield 48, 3) := by decide +kernel
theorem dX4_order_83 : decode cX4_order 83 = .ok (.invokevirtual 108, 3) := by decide +kernel
theorem dX4_order_86 : decode cX4_order 86 = .ok (.ireturn, 1) := by decide +kernel
theorem dX4_reduce_0 : decode cX4_reduce 0 = .ok (.aload_n 0, 1) := by decide +kernel
theorem dX4_reduce_1 : decode cX4_reduce 1 = .ok (.getfield 23, 3) := by decide +kernel
theorem dX4_reduce_4 : decode cX4_reduce 4 = .ok (.aload_n 0, 1) := by decide +kernel
theorem dX4_reduce_5 : decode cX4_reduce 5 = .ok (.getfield 14, 3) := by decide +kernel
theorem dX4_reduce_8 : decode cX4_reduce 8 = .ok (.getfield 59, 3) := by decide +kernel
theorem dX4_reduce_11 : decode cX4_reduce 11 = .ok (.aload_n 0, 1) := by decide +kernel
theorem dX4_reduce_12 : decode cX4_reduce 12 = .ok (.getfield 14, 3) := by decide +kernel
theorem dX4_reduce_15 : decode cX4_reduce 15 = .ok (.getfield 62, 3) := by decide +kernel
theorem dX4_reduce_18 : decode cX4_reduce 18 = .ok (.invokevirtual 111, 3) := by decide +kernel
theorem dX4_reduce_21 : decode cX4_reduce 21 = .ok (.astore_n 1, 1) := by decide +kernel
theorem dX4_reduce_22 : decode cX4_reduce 22 = .ok (.aload_n 1, 1) := by decide +kernel
theorem dX4_reduce_23 : decode cX4_reduce 23 = .ok (.invokevirtual 115, 3) := by decide +kernel
theorem dX4_reduce_26 : decode cX4_reduce 26 = .ok (.ifCond .ne 47, 3) := by decide +kernel
theorem dX4_reduce_29 : decode cX4_reduce 29 = .ok (.aload_n 0, 1) := by decide +kernel
theorem dX4_reduce_30 : decode cX4_reduce 30 = .ok (.getfield 14, 3) := by decide +kernel
theorem dX4_reduce_33 : decode cX4_reduce 33 = .ok (.getfield 59, 3) := by decide +kernel
theorem dX4_reduce_36 : decode cX4_reduce 36 = .ok (.aload_n 0, 1) := by decide +kernel
theorem dX4_reduce_37 : decode cX4_reduce 37 = .ok (.aload_n 0, 1) := by decide +kernel
theorem dX4_reduce_38 : decode cX4_reduce 38 = .ok (.getfield 14, 3) := by decide +kernel
theorem dX4_reduce_41 : decode cX4_reduce 41 = .ok (.getfield 59, 3) := by decide +kernel
theorem dX4_reduce_44 : decode cX4_reduce 44 = .ok (.aload_n 1, 1) := by decide +kernel
theorem dX4_reduce_45 : decode cX4_reduce 45 = .ok (.invokevirtual 118, 3) := by decide +kernel
theorem dX4_reduce_48 : decode cX4_reduce 48 = .ok (.invokevirtual 121, 3) := by decide +kernel
theorem dX4_reduce_51 : decode cX4_reduce 51 = .ok (.aload_n 0, 1) := by decide +kernel
theorem dX4_reduce_52 : decode cX4_reduce 52 = .ok (.getfield 14, 3) := by decide +kernel
theorem dX4_reduce_55 : decode cX4_reduce 55 = .ok (.getfield 62, 3) := by decide +kernel
theorem dX4_reduce_58 : decode cX4_reduce 58 = .ok (.aload_n 0, 1) := by decide +kernel
theorem dX4_reduce_59 : decode cX4_reduce 59 = .ok (.aload_n 0, 1) := by decide +kernel
theorem dX4_reduce_60 : decode cX4_reduce 60 = .ok (.getfield 14, 3) := by decide +kernel
theorem dX4_reduce_63 : decode cX4_reduce 63 = .ok (.getfield 62, 3) := by decide +kernel
theorem dX4_reduce_66 : decode cX4_reduce 66 = .ok (.aload_n 1, 1) := by decide +kernel
theorem dX4_reduce_67 : decode cX4_reduce 67 = .ok (.invokevirtual 118, 3) := by decide +kernel
theorem dX4_reduce_70 : decode cX4_reduce 70 = .ok (.invokevirtual 121, 3) := by decide +kernel
theorem dX4_reduce_73 : decode cX4_reduce 73 = .ok (.return_, 1) := by decide +kernel
theorem dX4_over_0 : decode cX4_over 0 = .ok (.aload_n 0, 1) := by decide +kernel
theorem dX4_over_1 : decode cX4_over 1 = .ok (.getfield 31, 3) := by decide +kernel
theorem dX4_over_4 : decode cX4_over 4 = .ok (.aload_n 1, 1) := by decide +kernel
theorem dX4_over_5 : decode cX4_over 5 = .ok (.aload_n 2, 1) := by decide +kernel
theorem dX4_over_6 : decode cX4_over 6 = .ok (.invokevirtual 124, 3) := by decide +kernel
theorem dX4_over_9 : decode cX4_over 9 = .ok (.aload_n 0, 1) := by decide +kernel
theorem dX4_over_10 : decode cX4_over 10 = .ok (.getfield 31, 3) := by decide +kernel
theorem dX4_over_13 : decode cX4_over 13 = .ok (.getfield 129, 3) := by decide +kernel
theorem dX4_over_16 : decode cX4_over 16 = .ok (.areturn, 1) := by decide +kernel
theorem dX4_choose_0 : decode cX4_choose 0 = .ok (.aload_n 0, 1) := by decide +kernel
theorem dX4_choose_1 : decode cX4_choose 1 = .ok (.getfield 14, 3) := by decide +kernel
theorem dX4_choose_4 : decode cX4_choose 4 = .ok (.aload_n 1, 1) := by decide +kernel
theorem dX4_choose_5 : decode cX4_choose 5 = .ok (.invokevirtual 92, 3) := by decide +kernel
theorem dX4_choose_8 : decode cX4_choose 8 = .ok (.iconst 0, 1) := by decide +kernel
theorem dX4_choose_9 : decode cX4_choose 9 = .ok (.ireturn, 1) := by decide +kernel
theorem dX4_answer_0 : decode cX4_answer 0 = .ok (.aload_n 0, 1) := by decide +kernel
theorem dX4_answer_1 : decode cX4_answer 1 = .ok (.getfield 14, 3) := by decide +kernel
theorem dX4_answer_4 : decode cX4_answer 4 = .ok (.invokevirtual 132, 3) := by decide +kernel
theorem dX4_answer_7 : decode cX4_answer 7 = .ok (.ifCond .eq 7, 3) := by decide +kernel
theorem dX4_answer_10 : decode cX4_answer 10 = .ok (.iconst 0, 1) := by decide +kernel
theorem dX4_answer_11 : decode cX4_answer 11 = .ok (.goto 5, 3) := by decide +kernel
theorem dX4_answer_14 : decode cX4_answer 14 = .ok (.bipush (-3), 2) := by decide +kernel
theorem dX4_answer_16 : decode cX4_answer 16 = .ok (.ireturn, 1) := by decide +kernel
theorem dX4_add_0 : decode cX4_add 0 = .ok (.aload_n 0, 1) := by decide +kernel
theorem dX4_add_1 : decode cX4_add 1 = .ok (.getfield 35, 3) := by decide +kernel
theorem dX4_add_4 : decode cX4_add 4 = .ok (.aload_n 0, 1) := by decide +kernel
theorem dX4_add_5 : decode cX4_add 5 = .ok (.getfield 23, 3) := by decide +kernel
theorem dX4_add_8 : decode cX4_add 8 = .ok (.aload_n 1, 1) := by decide +kernel
theorem dX4_add_9 : decode cX4_add 9 = .ok (.getfield 62, 3) := by decide +kernel
theorem dX4_add_12 : decode cX4_add 12 = .ok (.aload_n 2, 1) := by decide +kernel
theorem dX4_add_13 : decode cX4_add 13 = .ok (.getfield 62, 3) := by decide +kernel
theorem dX4_add_16 : decode cX4_add 16 = .ok (.invokevirtual 111, 3) := by decide +kernel
theorem dX4_add_19 : decode cX4_add 19 = .ok (.invokevirtual 121, 3) := by decide +kernel
theorem dX4_add_22 : decode cX4_add 22 = .ok (.aload_n 0, 1) := by decide +kernel
theorem dX4_add_23 : decode cX4_add 23 = .ok (.getfield 39, 3) := by decide +kernel
theorem dX4_add_26 : decode cX4_add 26 = .ok (.aload_n 0, 1) := by decide +kernel
theorem dX4_add_27 : decode cX4_add 27 = .ok (.aload_n 1, 1) := by decide +kernel
theorem dX4_add_28 : decode cX4_add 28 = .ok (.getfield 62, 3) := by decide +kernel
theorem dX4_add_31 : decode cX4_add 31 = .ok (.aload_n 0, 1) := by decide +kernel
theorem dX4_add_32 : decode cX4_add 32 = .ok (.getfield 35, 3) := by decide +kernel
theorem dX4_add_35 : decode cX4_add 35 = .ok (.invokevirtual 118, 3) := by decide +kernel
theorem dX4_add_38 : decode cX4_add 38 = .ok (.invokevirtual 121, 3) := by decide +kernel
theorem dX4_add_41 : decode cX4_add 41 = .ok (.aload_n 0, 1) := by decide +kernel
theorem dX4_add_42 : decode cX4_add 42 = .ok (.getfield 42, 3) := by decide +kernel
theorem dX4_add_45 : decode cX4_add 45 = .ok (.aload_n 0, 1) := by decide +kernel
theorem dX4_add_46 : decode cX4_add 46 = .ok (.aload_n 2, 1) := by decide +kernel
theorem dX4_add_47 : decode cX4_add 47 = .ok (.getfield 62, 3) := by decide +kernel
theorem dX4_add_50 : decode cX4_add 50 = .ok (.aload_n 0, 1) := by decide +kernel
theorem dX4_add_51 : decode cX4_add 51 = .ok (.getfield 35, 3) := by decide +kernel
theorem dX4_add_54 : decode cX4_add 54 = .ok (.invokevirtual 118, 3) := by decide +kernel
theorem dX4_add_57 : decode cX4_add 57 = .ok (.invokevirtual 121, 3) := by decide +kernel
theorem dX4_add_60 : decode cX4_add 60 = .ok (.aload_n 0, 1) := by decide +kernel
theorem dX4_add_61 : decode cX4_add 61 = .ok (.getfield 45, 3) := by decide +kernel
theorem dX4_add_64 : decode cX4_add 64 = .ok (.aload_n 1, 1) := by decide +kernel
theorem dX4_add_65 : decode cX4_add 65 = .ok (.getfield 59, 3) := by decide +kernel
theorem dX4_add_68 : decode cX4_add 68 = .ok (.aload_n 0, 1) := by decide +kernel
theorem dX4_add_69 : decode cX4_add 69 = .ok (.getfield 42, 3) := by decide +kernel
theorem dX4_add_72 : decode cX4_add 72 = .ok (.invokevirtual 104, 3) := by decide +kernel
theorem dX4_add_75 : decode cX4_add 75 = .ok (.aload_n 0, 1) := by decide +kernel
theorem dX4_add_76 : decode cX4_add 76 = .ok (.getfield 48, 3) := by decide +kernel
theorem dX4_add_79 : decode cX4_add 79 = .ok (.aload_n 2, 1) := by decide +kernel
theorem dX4_add_80 : decode cX4_add 80 = .ok (.getfield 59, 3) := by decide +kernel
theorem dX4_add_83 : decode cX4_add 83 = .ok (.aload_n 0, 1) := by decide +kernel
theorem dX4_add_84 : decode cX4_add 84 = .ok (.getfield 39, 3) := by decide +kernel
theorem dX4_add_87 : decode cX4_add 87 = .ok (.invokevirtual 104, 3) := by decide +kernel
theorem dX4_add_90 : decode cX4_add 90 = .ok (.aload_n 0, 1) := by decide +kernel
theorem dX4_add_91 : decode cX4_add 91 = .ok (.aload_n 1, 1) := by decide +kernel
theorem dX4_add_92 : decode cX4_add 92 = .ok (.getfield 51, 3) := by decide +kernel
theorem dX4_add_95 : decode cX4_add 95 = .ok (.iload_n 3, 1) := by decide +kernel
theorem dX4_add_96 : decode cX4_add 96 = .ok (.invokevirtual 135, 3) := by decide +kernel
theorem dX4_add_99 : decode cX4_add 99 = .ok (.aload_n 0, 1) := by decide +kernel
theorem dX4_add_100 : decode cX4_add 100 = .ok (.getfield 23, 3) := by decide +kernel
theorem dX4_add_103 : decode cX4_add 103 = .ok (.aload_n 0, 1) := by decide +kernel
theorem dX4_add_104 : decode cX4_add 104 = .ok (.getfield 14, 3) := by decide +kernel
theorem dX4_add_107 : decode cX4_add 107 = .ok (.getfield 59, 3) := by decide +kernel
theorem dX4_add_110 : decode cX4_add 110 = .ok (.aload_n 0, 1) := by decide +kernel
theorem dX4_add_111 : decode cX4_add 111 = .ok (.getfield 35, 3) := by decide +kernel
theorem dX4_add_114 : decode cX4_add 114 = .ok (.invokevirtual 111, 3) := by decide +kernel
theorem dX4_add_117 : decode cX4_add 117 = .ok (.astore 4, 2) := by decide +kernel
theorem dX4_add_119 : decode cX4_add 119 = .ok (.aload_n 0, 1) := by decide +kernel
theorem dX4_add_120 : decode cX4_add 120 = .ok (.getfield 14, 3) := by decide +kernel
theorem dX4_add_123 : decode cX4_add 123 = .ok (.getfield 59, 3) := by decide +kernel
theorem dX4_add_126 : decode cX4_add 126 = .ok (.aload_n 0, 1) := by decide +kernel
theorem dX4_add_127 : decode cX4_add 127 = .ok (.aload_n 0, 1) := by decide +kernel
theorem dX4_add_128 : decode cX4_add 128 = .ok (.getfield 14, 3) := by decide +kernel
theorem dX4_add_131 : decode cX4_add 131 = .ok (.getfield 59, 3) := by decide +kernel
theorem dX4_add_134 : decode cX4_add 134 = .ok (.aload 4, 2) := by decide +kernel
theorem dX4_add_136 : decode cX4_add 136 = .ok (.invokevirtual 118, 3) := by decide +kernel
theorem dX4_add_139 : decode cX4_add 139 = .ok (.invokevirtual 121, 3) := by decide +kernel
theorem dX4_add_142 : decode cX4_add 142 = .ok (.aload_n 0, 1) := by decide +kernel
theorem dX4_add_143 : decode cX4_add 143 = .ok (.getfield 14, 3) := by decide +kernel
theorem dX4_add_146 : decode cX4_add 146 = .ok (.getfield 62, 3) := by decide +kernel
theorem dX4_add_149 : decode cX4_add 149 = .ok (.aload_n 0, 1) := by decide +kernel
theorem dX4_add_150 : decode cX4_add 150 = .ok (.getfield 39, 3) := by decide +kernel
theorem dX4_add_153 : decode cX4_add 153 = .ok (.aload_n 0, 1) := by decide +kernel
theorem dX4_add_154 : decode cX4_add 154 = .ok (.aload_n 2, 1) := by decide +kernel
theorem dX4_add_155 : decode cX4_add 155 = .ok (.getfield 62, 3) := by decide +kernel
theorem dX4_add_158 : decode cX4_add 158 = .ok (.aload 4, 2) := by decide +kernel
theorem dX4_add_160 : decode cX4_add 160 = .ok (.invokevirtual 118, 3) := by decide +kernel
theorem dX4_add_163 : decode cX4_add 163 = .ok (.invokevirtual 104, 3) := by decide +kernel
theorem dX4_add_166 : decode cX4_add 166 = .ok (.aload_n 0, 1) := by decide +kernel
theorem dX4_add_167 : decode cX4_add 167 = .ok (.invokevirtual 139, 3) := by decide +kernel
theorem dX4_add_170 : decode cX4_add 170 = .ok (.ireturn, 1) := by decide +kernel
theorem dX4_addSides_0 : decode cX4_addSides 0 = .ok (.iload_n 1, 1) := by decide +kernel
theorem dX4_addSides_1 : decode cX4_addSides 1 = .ok (.iload_n 2, 1) := by decide +kernel
theorem dX4_addSides_2 : decode cX4_addSides 2 = .ok (.if_icmp .ne 32, 3) := by decide +kernel
theorem dX4_addSides_5 : decode cX4_addSides 5 = .ok (.aload_n 0, 1) := by decide +kernel
theorem dX4_addSides_6 : decode cX4_addSides 6 = .ok (.getfield 14, 3) := by decide +kernel
theorem dX4_addSides_9 : decode cX4_addSides 9 = .ok (.getfield 59, 3) := by decide +kernel
theorem dX4_addSides_12 : decode cX4_addSides 12 = .ok (.aload_n 0, 1) := by decide +kernel
theorem dX4_addSides_13 : decode cX4_addSides 13 = .ok (.getfield 45, 3) := by decide +kernel
theorem dX4_addSides_16 : decode cX4_addSides 16 = .ok (.aload_n 0, 1) := by decide +kernel
theorem dX4_addSides_17 : decode cX4_addSides 17 = .ok (.getfield 48, 3) := by decide +kernel
theorem dX4_addSides_20 : decode cX4_addSides 20 = .ok (.invokevirtual 143, 3) := by decide +kernel
theorem dX4_addSides_23 : decode cX4_addSides 23 = .ok (.aload_n 0, 1) := by decide +kernel
theorem dX4_addSides_24 : decode cX4_addSides 24 = .ok (.getfield 14, 3) := by decide +kernel
theorem dX4_addSides_27 : decode cX4_addSides 27 = .ok (.iload_n 1, 1) := by decide +kernel
theorem dX4_addSides_28 : decode cX4_addSides 28 = .ok (.invokevirtual 96, 3) := by decide +kernel
theorem dX4_addSides_31 : decode cX4_addSides 31 = .ok (.goto 72, 3) := by decide +kernel
theorem dX4_addSides_34 : decode cX4_addSides 34 = .ok (.aload_n 0, 1) := by decide +kernel
theorem dX4_addSides_35 : decode cX4_addSides 35 = .ok (.getfield 45, 3) := by decide +kernel
theorem dX4_addSides_38 : decode cX4_addSides 38 = .ok (.aload_n 0, 1) := by decide +kernel
theorem dX4_addSides_39 : decode cX4_addSides 39 = .ok (.getfield 48, 3) := by decide +kernel
theorem dX4_addSides_42 : decode cX4_addSides 42 = .ok (.invokevirtual 108, 3) := by decide +kernel
theorem dX4_addSides_45 : decode cX4_addSides 45 = .ok (.ifCond .lt 32, 3) := by decide +kernel
theorem dX4_addSides_48 : decode cX4_addSides 48 = .ok (.aload_n 0, 1) := by decide +kernel
theorem dX4_addSides_49 : decode cX4_addSides 49 = .ok (.getfield 14, 3) := by decide +kernel
theorem dX4_addSides_52 : decode cX4_addSides 52 = .ok (.getfield 59, 3) := by decide +kernel
theorem dX4_addSides_55 : decode cX4_addSides 55 = .ok (.aload_n 0, 1) := by decide +kernel
theorem dX4_addSides_56 : decode cX4_addSides 56 = .ok (.getfield 45, 3) := by decide +kernel
theorem dX4_addSides_59 : decode cX4_addSides 59 = .ok (.aload_n 0, 1) := by decide +kernel
theorem dX4_addSides_60 : decode cX4_addSides 60 = .ok (.getfield 48, 3) := by decide +kernel
theorem dX4_addSides_63 : decode cX4_addSides 63 = .ok (.invokevirtual 146, 3) := by decide +kernel
theorem dX4_addSides_66 : decode cX4_addSides 66 = .ok (.aload_n 0, 1) := by decide +kernel
theorem dX4_addSides_67 : decode cX4_addSides 67 = .ok (.getfield 14, 3) := by decide +kernel
theorem dX4_addSides_70 : decode cX4_addSides 70 = .ok (.iload_n 1, 1) := by decide +kernel
theorem dX4_addSides_71 : decode cX4_addSides 71 = .ok (.invokevirtual 96, 3) := by decide +kernel
theorem dX4_addSides_74 : decode cX4_addSides 74 = .ok (.goto 29, 3) := by decide +kernel
theorem dX4_addSides_77 : decode cX4_addSides 77 = .ok (.aload_n 0, 1) := by decide +kernel
theorem dX4_addSides_78 : decode cX4_addSides 78 = .ok (.getfield 14, 3) := by decide +kernel
theorem dX4_addSides_81 : decode cX4_addSides 81 = .ok (.getfield 59, 3) := by decide +kernel
theorem dX4_addSides_84 : decode cX4_addSides 84 = .ok (.aload_n 0, 1) := by decide +kernel
theorem dX4_addSides_85 : decode cX4_addSides 85 = .ok (.getfield 48, 3) := by decide +kernel
theorem dX4_addSides_88 : decode cX4_addSides 88 = .ok (.aload_n 0, 1) := by decide +kernel
theorem dX4_addSides_89 : decode cX4_addSides 89 = .ok (.getfield 45, 3) := by decide +kernel
theorem dX4_addSides_92 : decode cX4_addSides 92 = .ok (.invokevirtual 146, 3) := by decide +kernel
theorem dX4_addSides_95 : decode cX4_addSides 95 = .ok (.aload_n 0, 1) := by decide +kernel
theorem dX4_addSides_96 : decode cX4_addSides 96 = .ok (.getfield 14, 3) := by decide +kernel
theorem dX4_addSides_99 : decode cX4_addSides 99 = .ok (.iload_n 2, 1) := by decide +kernel
theorem dX4_addSides_100 : decode cX4_addSides 100 = .ok (.invokevirtual 96, 3) := by decide +kernel
theorem dX4_addSides_103 : decode cX4_addSides 103 = .ok (.return_, 1) := by decide +kernel
theorem dX4_multiply_0 : decode cX4_multiply 0 = .ok (.aload_n 0, 1) := by decide +kernel
theorem dX4_multiply_1 : decode cX4_multiply 1 = .ok (.getfield 23, 3) := by decide +kernel
theorem dX4_multiply_4 : decode cX4_multiply 4 = .ok (.aload_n 1, 1) := by decide +kernel
theorem dX4_multiply_5 : decode cX4_multiply 5 = .ok (.getfield 59, 3) := by decide +kernel
theorem dX4_multiply_8 : decode cX4_multiply 8 = .ok (.aload_n 3, 1) := by decide +kernel
theorem dX4_multiply_9 : decode cX4_multiply 9 = .ok (.invokevirtual 111, 3) := by decide +kernel
theorem dX4_multiply_12 : decode cX4_multiply 12 = .ok (.astore 5, 2) := by decide +kernel
theorem dX4_multiply_14 : decode cX4_multiply 14 = .ok (.aload_n 0, 1) := by decide +kernel
theorem dX4_multiply_15 : decode cX4_multiply 15 = .ok (.getfield 39, 3) := by decide +kernel
theorem dX4_multiply_18 : decode cX4_multiply 18 = .ok (.aload_n 0, 1) := by decide +kernel
theorem dX4_multiply_19 : decode cX4_multiply 19 = .ok (.aload_n 1, 1) := by decide +kernel
theorem dX4_multiply_20 : decode cX4_multiply 20 = .ok (.getfield 59, 3) := by decide +kernel
theorem dX4_multiply_23 : decode cX4_multiply 23 = .ok (.aload 5, 2) := by decide +kernel
theorem dX4_multiply_25 : decode cX4_multiply 25 = .ok (.invokevirtual 118, 3) := by decide +kernel
theorem dX4_multiply_28 : decode cX4_multiply 28 = .ok (.invokevirtual 121, 3) := by decide +kernel
theorem dX4_multiply_31 : decode cX4_multiply 31 = .ok (.aload_n 0, 1) := by decide +kernel
theorem dX4_multiply_32 : decode cX4_multiply 32 = .ok (.getfield 42, 3) := by decide +kernel
theorem dX4_multiply_35 : decode cX4_multiply 35 = .ok (.aload_n 0, 1) := by decide +kernel
theorem dX4_multiply_36 : decode cX4_multiply 36 = .ok (.aload_n 3, 1) := by decide +kernel
theorem dX4_multiply_37 : decode cX4_multiply 37 = .ok (.aload 5, 2) := by decide +kernel
theorem dX4_multiply_39 : decode cX4_multiply 39 = .ok (.invokevirtual 118, 3) := by decide +kernel
theorem dX4_multiply_42 : decode cX4_multiply 42 = .ok (.invokevirtual 121, 3) := by decide +kernel
theorem dX4_multiply_45 : decode cX4_multiply 45 = .ok (.aload_n 0, 1) := by decide +kernel
theorem dX4_multiply_46 : decode cX4_multiply 46 = .ok (.getfield 23, 3) := by decide +kernel
theorem dX4_multiply_49 : decode cX4_multiply 49 = .ok (.aload_n 2, 1) := by decide +kernel
theorem dX4_multiply_50 : decode cX4_multiply 50 = .ok (.aload_n 1, 1) := by decide +kernel
theorem dX4_multiply_51 : decode cX4_multiply 51 = .ok (.getfield 62, 3) := by decide +kernel
theorem dX4_multiply_54 : decode cX4_multiply 54 = .ok (.invokevirtual 111, 3) := by decide +kernel
theorem dX4_multiply_57 : decode cX4_multiply 57 = .ok (.astore 5, 2) := by decide +kernel
theorem dX4_multiply_59 : decode cX4_multiply 59 = .ok (.aload_n 0, 1) := by decide +kernel
theorem dX4_multiply_60 : decode cX4_multiply 60 = .ok (.getfield 45, 3) := by decide +kernel
theorem dX4_multiply_63 : decode cX4_multiply 63 = .ok (.aload_n 0, 1) := by decide +kernel
theorem dX4_multiply_64 : decode cX4_multiply 64 = .ok (.aload_n 2, 1) := by decide +kernel
theorem dX4_multiply_65 : decode cX4_multiply 65 = .ok (.aload 5, 2) := by decide +kernel
theorem dX4_multiply_67 : decode cX4_multiply 67 = .ok (.invokevirtual 118, 3) := by decide +kernel
theorem dX4_multiply_70 : decode cX4_multiply 70 = .ok (.invokevirtual 121, 3) := by decide +kernel
theorem dX4_multiply_73 : decode cX4_multiply 73 = .ok (.aload_n 0, 1) := by decide +kernel
theorem dX4_multiply_74 : decode cX4_multiply 74 = .ok (.getfield 48, 3) := by decide +kernel
theorem dX4_multiply_77 : decode cX4_multiply 77 = .ok (.aload_n 0, 1) := by decide +kernel
theorem dX4_multiply_78 : decode cX4_multiply 78 = .ok (.aload_n 1, 1) := by decide +kernel
theorem dX4_multiply_79 : decode cX4_multiply 79 = .ok (.getfield 62, 3) := by decide +kernel
theorem dX4_multiply_82 : decode cX4_multiply 82 = .ok (.aload 5, 2) := by decide +kernel
theorem dX4_multiply_84 : decode cX4_multiply 84 = .ok (.invokevirtual 118, 3) := by decide +kernel
theorem dX4_multiply_87 : decode cX4_multiply 87 = .ok (.invokevirtual 121, 3) := by decide +kernel
theorem dX4_multiply_90 : decode cX4_multiply 90 = .ok (.aload_n 0, 1) := by decide +kernel
theorem dX4_multiply_91 : decode cX4_multiply 91 = .ok (.getfield 14, 3) := by decide +kernel
theorem dX4_multiply_94 : decode cX4_multiply 94 = .ok (.getfield 59, 3) := by decide +kernel
theorem dX4_multiply_97 : decode cX4_multiply 97 = .ok (.aload_n 0, 1) := by decide +kernel
theorem dX4_multiply_98 : decode cX4_multiply 98 = .ok (.getfield 39, 3) := by decide +kernel
theorem dX4_multiply_101 : decode cX4_multiply 101 = .ok (.aload_n 0, 1) := by decide +kernel
theorem dX4_multiply_102 : decode cX4_multiply 102 = .ok (.getfield 45, 3) := by decide +kernel
theorem dX4_multiply_105 : decode cX4_multiply 105 = .ok (.invokevirtual 104, 3) := by decide +kernel
theorem dX4_multiply_108 : decode cX4_multiply 108 = .ok (.aload_n 0, 1) := by decide +kernel
theorem dX4_multiply_109 : decode cX4_multiply 109 = .ok (.getfield 14, 3) := by decide +kernel
theorem dX4_multiply_112 : decode cX4_multiply 112 = .ok (.getfield 62, 3) := by decide +kernel
theorem dX4_multiply_115 : decode cX4_multiply 115 = .ok (.aload_n 0, 1) := by decide +kernel
theorem dX4_multiply_116 : decode cX4_multiply 116 = .ok (.getfield 42, 3) := by decide +kernel
theorem dX4_multiply_119 : decode cX4_multiply 119 = .ok (.aload_n 0, 1) := by decide +kernel
theorem dX4_multiply_120 : decode cX4_multiply 120 = .ok (.getfield 48, 3) := by decide +kernel
theorem dX4_multiply_123 : decode cX4_multiply 123 = .ok (.invokevirtual 104, 3) := by decide +kernel
theorem dX4_multiply_126 : decode cX4_multiply 126 = .ok (.aload_n 0, 1) := by decide +kernel
theorem dX4_multiply_127 : decode cX4_multiply 127 = .ok (.getfield 14, 3) := by decide +kernel
theorem dX4_multiply_130 : decode cX4_multiply 130 = .ok (.aload_n 1, 1) := by decide +kernel
theorem dX4_multiply_131 : decode cX4_multiply 131 = .ok (.getfield 51, 3) := by decide +kernel
theorem dX4_multiply_134 : decode cX4_multiply 134 = .ok (.iload 4, 2) := by decide +kernel
theorem dX4_multiply_136 : decode cX4_multiply 136 = .ok (.if_icmp .eq 7, 3) := by decide +kernel
theorem dX4_multiply_139 : decode cX4_multiply 139 = .ok (.iconst 1, 1) := by decide +kernel
theorem dX4_multiply_140 : decode cX4_multiply 140 = .ok (.goto 4, 3) := by decide +kernel
theorem dX4_multiply_143 : decode cX4_multiply 143 = .ok (.iconst 0, 1) := by decide +kernel
theorem dX4_multiply_144 : decode cX4_multiply 144 = .ok (.invokevirtual 96, 3) := by decide +kernel
theorem dX4_multiply_147 : decode cX4_multiply 147 = .ok (.aload_n 0, 1) := by decide +kernel
theorem dX4_multiply_148 : decode cX4_multiply 148 = .ok (.invokevirtual 139, 3) := by decide +kernel
theorem dX4_multiply_151 : decode cX4_multiply 151 = .ok (.ireturn, 1) := by decide +kernel
theorem dX4_combineWhole_0 : decode cX4_combineWhole 0 = .ok (.aload_n 1, 1) := by decide +kernel
theorem dX4_combineWhole_1 : decode cX4_combineWhole 1 = .ok (.invokevirtual 149, 3) := by decide +kernel
theorem dX4_combineWhole_4 : decode cX4_combineWhole 4 = .ok (.ifCond .eq 10, 3) := by decide +kernel
theorem dX4_combineWhole_7 : decode cX4_combineWhole 7 = .ok (.aload_n 2, 1) := by decide +kernel
theorem dX4_combineWhole_8 : decode cX4_combineWhole 8 = .ok (.invokevirtual 149, 3) := by decide +kernel
theorem dX4_combineWhole_11 : decode cX4_combineWhole 11 = .ok (.ifCond .ne 5, 3) := by decide +kernel
theorem dX4_combineWhole_14 : decode cX4_combineWhole 14 = .ok (.iconst (-1), 1) := by decide +kernel
theorem dX4_combineWhole_15 : decode cX4_combineWhole 15 = .ok (.ireturn, 1) := by decide +kernel
theorem dX4_combineWhole_16 : decode cX4_combineWhole 16 = .ok (.iload_n 3, 1) := by decide +kernel
theorem dX4_combineWhole_17 : decode cX4_combineWhole 17 = .ok (.bipush 6, 2) := by decide +kernel
theorem dX4_combineWhole_19 : decode cX4_combineWhole 19 = .ok (.if_icmp .ne 28, 3) := by decide +kernel
theorem dX4_combineWhole_22 : decode cX4_combineWhole 22 = .ok (.aload_n 0, 1) := by decide +kernel
theorem dX4_combineWhole_23 : decode cX4_combineWhole 23 = .ok (.getfield 14, 3) := by decide +kernel
theorem dX4_combineWhole_26 : decode cX4_combineWhole 26 = .ok (.aload_n 0, 1) := by decide +kernel
theorem dX4_combineWhole_27 : decode cX4_combineWhole 27 = .ok (.getfield 23, 3) := by decide +kernel
theorem dX4_combineWhole_30 : decode cX4_combineWhole 30 = .ok (.aload_n 1, 1) := by decide +kernel
theorem dX4_combineWhole_31 : decode cX4_combineWhole 31 = .ok (.getfield 59, 3) := by decide +kernel
theorem dX4_combineWhole_34 : decode cX4_combineWhole 34 = .ok (.aload_n 2, 1) := by decide +kernel
theorem dX4_combineWhole_35 : decode cX4_combineWhole 35 = .ok (.getfield 59, 3) := by decide +kernel
theorem dX4_combineWhole_38 : decode cX4_combineWhole 38 = .ok (.invokevirtual 111, 3) := by decide +kernel
theorem dX4_combineWhole_41 : decode cX4_combineWhole 41 = .ok (.iconst 0, 1) := by decide +kernel
theorem dX4_combineWhole_42 : decode cX4_combineWhole 42 = .ok (.invokevirtual 88, 3) := by decide +kernel
theorem dX4_combineWhole_45 : decode cX4_combineWhole 45 = .ok (.iconst 0, 1) := by decide +kernel
theorem dX4_combineWhole_46 : decode cX4_combineWhole 46 = .ok (.ireturn, 1) := by decide +kernel
theorem dX4_combineWhole_47 : decode cX4_combineWhole 47 = .ok (.aload_n 2, 1) := by decide +kernel
theorem dX4_combineWhole_48 : decode cX4_combineWhole 48 = .ok (.getfield 59, 3) := by decide +kernel
theorem dX4_combineWhole_51 : decode cX4_combineWhole 51 = .ok (.invokevirtual 69, 3) := by decide +kernel
theorem dX4_combineWhole_54 : decode cX4_combineWhole 54 = .ok (.ifCond .eq 6, 3) := by decide +kernel
theorem dX4_combineWhole_57 : decode cX4_combineWhole 57 = .ok (.bipush (-2), 2) := by decide +kernel
theorem dX4_combineWhole_59 : decode cX4_combineWhole 59 = .ok (.ireturn, 1) := by decide +kernel
theorem dX4_combineWhole_60 : decode cX4_combineWhole 60 = .ok (.aload_n 0, 1) := by decide +kernel
theorem dX4_combineWhole_61 : decode cX4_combineWhole 61 = .ok (.getfield 31, 3) := by decide +kernel
theorem dX4_combineWhole_64 : decode cX4_combineWhole 64 = .ok (.aload_n 1, 1) := by decide +kernel
theorem dX4_combineWhole_65 : decode cX4_combineWhole 65 = .ok (.getfield 59, 3) := by decide +kernel
theorem dX4_combineWhole_68 : decode cX4_combineWhole 68 = .ok (.aload_n 2, 1) := by decide +kernel
theorem dX4_combineWhole_69 : decode cX4_combineWhole 69 = .ok (.getfield 59, 3) := by decide +kernel
theorem dX4_combineWhole_72 : decode cX4_combineWhole 72 = .ok (.invokevirtual 124, 3) := by decide +kernel
theorem dX4_combineWhole_75 : decode cX4_combineWhole 75 = .ok (.aload_n 1, 1) := by decide +kernel
theorem dX4_combineWhole_76 : decode cX4_combineWhole 76 = .ok (.getfield 51, 3) := by decide +kernel
theorem dX4_combineWhole_79 : decode cX4_combineWhole 79 = .ok (.aload_n 2, 1) := by decide +kernel
theorem dX4_combineWhole_80 : decode cX4_combineWhole 80 = .ok (.getfield 51, 3) := by decide +kernel
theorem dX4_combineWhole_83 : decode cX4_combineWhole 83 = .ok (.if_icmp .eq 20, 3) := by decide +kernel
theorem dX4_combineWhole_86 : decode cX4_combineWhole 86 = .ok (.aload_n 0, 1) := by decide +kernel
theorem dX4_combineWhole_87 : decode cX4_combineWhole 87 = .ok (.getfield 31, 3) := by decide +kernel
theorem dX4_combineWhole_90 : decode cX4_combineWhole 90 = .ok (.getfield 152, 3) := by decide +kernel
theorem dX4_combineWhole_93 : decode cX4_combineWhole 93 = .ok (.invokevirtual 69, 3) := by decide +kernel
theorem dX4_combineWhole_96 : decode cX4_combineWhole 96 = .ok (.ifCond .ne 7, 3) := by decide +kernel
theorem dX4_combineWhole_99 : decode cX4_combineWhole 99 = .ok (.iconst 1, 1) := by decide +kernel
theorem dX4_combineWhole_100 : decode cX4_combineWhole 100 = .ok (.goto 4, 3) := by decide +kernel
theorem dX4_combineWhole_103 : decode cX4_combineWhole 103 = .ok (.iconst 0, 1) := by decide +kernel
theorem dX4_combineWhole_104 : decode cX4_combineWhole 104 = .ok (.istore 4, 2) := by decide +kernel
theorem dX4_combineWhole_106 : decode cX4_combineWhole 106 = .ok (.iload_n 3, 1) := by decide +kernel
theorem dX4_combineWhole_107 : decode cX4_combineWhole 107 = .ok (.iconst 4, 1) := by decide +kernel
theorem dX4_combineWhole_108 : decode cX4_combineWhole 108 = .ok (.if_icmp .ne 28, 3) := by decide +kernel
theorem dX4_combineWhole_111 : decode cX4_combineWhole 111 = .ok (.aload_n 0, 1) := by decide +kernel
theorem dX4_combineWhole_112 : decode cX4_combineWhole 112 = .ok (.iload 4, 2) := by decide +kernel
theorem dX4_combineWhole_114 : decode cX4_combineWhole 114 = .ok (.aload_n 1, 1) := by decide +kernel
theorem dX4_combineWhole_115 : decode cX4_combineWhole 115 = .ok (.getfield 51, 3) := by decide +kernel
theorem dX4_combineWhole_118 : decode cX4_combineWhole 118 = .ok (.aload_n 2, 1) := by decide +kernel
theorem dX4_combineWhole_119 : decode cX4_combineWhole 119 = .ok (.getfield 51, 3) := by decide +kernel
theorem dX4_combineWhole_122 : decode cX4_combineWhole 122 = .ok (.if_icmp .eq 7, 3) := by decide +kernel
theorem dX4_combineWhole_125 : decode cX4_combineWhole 125 = .ok (.iconst 1, 1) := by decide +kernel
theorem dX4_combineWhole_126 : decode cX4_combineWhole 126 = .ok (.goto 4, 3) := by decide +kernel
theorem dX4_combineWhole_129 : decode cX4_combineWhole 129 = .ok (.iconst 0, 1) := by decide +kernel
theorem dX4_combineWhole_130 : decode cX4_combineWhole 130 = .ok (.invokevirtual 155, 3) := by decide +kernel
theorem dX4_combineWhole_133 : decode cX4_combineWhole 133 = .ok (.goto 62, 3) := by decide +kernel
theorem dX4_combineWhole_136 : decode cX4_combineWhole 136 = .ok (.iload 4, 2) := by decide +kernel
theorem dX4_combineWhole_138 : decode cX4_combineWhole 138 = .ok (.ifCond .eq 39, 3) := by decide +kernel
theorem dX4_combineWhole_141 : decode cX4_combineWhole 141 = .ok (.aload_n 0, 1) := by decide +kernel
theorem dX4_combineWhole_142 : decode cX4_combineWhole 142 = .ok (.getfield 45, 3) := by decide +kernel
theorem dX4_combineWhole_145 : decode cX4_combineWhole 145 = .ok (.aload_n 2, 1) := by decide +kernel
theorem dX4_combineWhole_146 : decode cX4_combineWhole 146 = .ok (.getfield 59, 3) := by decide +kernel
theorem dX4_combineWhole_149 : decode cX4_combineWhole 149 = .ok (.aload_n 0, 1) := by decide +kernel
theorem dX4_combineWhole_150 : decode cX4_combineWhole 150 = .ok (.getfield 31, 3) := by decide +kernel
theorem dX4_combineWhole_153 : decode cX4_combineWhole 153 = .ok (.getfield 152, 3) := by decide +kernel
theorem dX4_combineWhole_156 : decode cX4_combineWhole 156 = .ok (.invokevirtual 146, 3) := by decide +kernel
theorem dX4_combineWhole_159 : decode cX4_combineWhole 159 = .ok (.aload_n 0, 1) := by decide +kernel
theorem dX4_combineWhole_160 : decode cX4_combineWhole 160 = .ok (.getfield 14, 3) := by decide +kernel
theorem dX4_combineWhole_163 : decode cX4_combineWhole 163 = .ok (.aload_n 0, 1) := by decide +kernel
theorem dX4_combineWhole_164 : decode cX4_combineWhole 164 = .ok (.getfield 45, 3) := by decide +kernel
theorem dX4_combineWhole_167 : decode cX4_combineWhole 167 = .ok (.aload_n 2, 1) := by decide +kernel
theorem dX4_combineWhole_168 : decode cX4_combineWhole 168 = .ok (.getfield 51, 3) := by decide +kernel
theorem dX4_combineWhole_171 : decode cX4_combineWhole 171 = .ok (.invokevirtual 88, 3) := by decide +kernel
theorem dX4_combineWhole_174 : decode cX4_combineWhole 174 = .ok (.goto 21, 3) := by decide +kernel
theorem dX4_combineWhole_177 : decode cX4_combineWhole 177 = .ok (.aload_n 0, 1) := by decide +kernel
theorem dX4_combineWhole_178 : decode cX4_combineWhole 178 = .ok (.getfield 14, 3) := by decide +kernel
theorem dX4_combineWhole_181 : decode cX4_combineWhole 181 = .ok (.aload_n 0, 1) := by decide +kernel
theorem dX4_combineWhole_182 : decode cX4_combineWhole 182 = .ok (.getfield 31, 3) := by decide +kernel
theorem dX4_combineWhole_185 : decode cX4_combineWhole 185 = .ok (.getfield 152, 3) := by decide +kernel
theorem dX4_combineWhole_188 : decode cX4_combineWhole 188 = .ok (.aload_n 2, 1) := by decide +kernel
theorem dX4_combineWhole_189 : decode cX4_combineWhole 189 = .ok (.getfield 51, 3) := by decide +kernel
theorem dX4_combineWhole_192 : decode cX4_combineWhole 192 = .ok (.invokevirtual 88, 3) := by decide +kernel
theorem dX4_combineWhole_195 : decode cX4_combineWhole 195 = .ok (.iconst 0, 1) := by decide +kernel
theorem dX4_combineWhole_196 : decode cX4_combineWhole 196 = .ok (.ireturn, 1) := by decide +kernel
theorem dX4_becomeQuotient_0 : decode cX4_becomeQuotient 0 = .ok (.iload_n 1, 1) := by decide +kernel
theorem dX4_becomeQuotient_1 : decode cX4_becomeQuotient 1 = .ok (.ifCond .eq 15, 3) := by decide +kernel
theorem dX4_becomeQuotient_4 : decode cX4_becomeQuotient 4 = .ok (.aload_n 0, 1) := by decide +kernel
theorem dX4_becomeQuotient_5 : decode cX4_becomeQuotient 5 = .ok (.getfield 31, 3) := by decide +kernel
theorem dX4_becomeQuotient_8 : decode cX4_becomeQuotient 8 = .ok (.getfield 129, 3) := by decide +kernel
theorem dX4_becomeQuotient_11 : decode cX4_becomeQuotient 11 = .ok (.iconst 1, 1) := by decide +kernel
theorem dX4_becomeQuotient_12 : decode cX4_becomeQuotient 12 = .ok (.iconst 1, 1) := by decide +kernel
theorem dX4_becomeQuotient_13 : decode cX4_becomeQuotient 13 = .ok (.invokevirtual 158, 3) := by decide +kernel
theorem dX4_becomeQuotient_16 : decode cX4_becomeQuotient 16 = .ok (.aload_n 0, 1) := by decide +kernel
theorem dX4_becomeQuotient_17 : decode cX4_becomeQuotient 17 = .ok (.getfield 14, 3) := by decide +kernel
theorem dX4_becomeQuotient_20 : decode cX4_becomeQuotient 20 = .ok (.aload_n 0, 1) := by decide +kernel
theorem dX4_becomeQuotient_21 : decode cX4_becomeQuotient 21 = .ok (.getfield 31, 3) := by decide +kernel
theorem dX4_becomeQuotient_24 : decode cX4_becomeQuotient 24 = .ok (.getfield 129, 3) := by decide +kernel
theorem dX4_becomeQuotient_27 : decode cX4_becomeQuotient 27 = .ok (.iload_n 2, 1) := by decide +kernel
theorem dX4_becomeQuotient_28 : decode cX4_becomeQuotient 28 = .ok (.invokevirtual 88, 3) := by decide +kernel
theorem dX4_becomeQuotient_31 : decode cX4_becomeQuotient 31 = .ok (.return_, 1) := by decide +kernel
theorem dX4_raise_0 : decode cX4_raise 0 = .ok (.aload_n 2, 1) := by decide +kernel
theorem dX4_raise_1 : decode cX4_raise 1 = .ok (.invokevirtual 149, 3) := by decide +kernel
theorem dX4_raise_4 : decode cX4_raise 4 = .ok (.ifCond .eq 35, 3) := by decide +kernel
theorem dX4_raise_7 : decode cX4_raise 7 = .ok (.aload_n 2, 1) := by decide +kernel
theorem dX4_raise_8 : decode cX4_raise 8 = .ok (.getfield 51, 3) := by decide +kernel
theorem dX4_raise_11 : decode cX4_raise 11 = .ok (.ifCond .ne 28, 3) := by decide +kernel
theorem dX4_raise_14 : decode cX4_raise 14 = .ok (.aload_n 2, 1) := by decide +kernel
theorem dX4_raise_15 : decode cX4_raise 15 = .ok (.getfield 59, 3) := by decide +kernel
theorem dX4_raise_18 : decode cX4_raise 18 = .ok (.getfield 162, 3) := by decide +kernel
theorem dX4_raise_21 : decode cX4_raise 21 = .ok (.iconst 1, 1) := by decide +kernel
theorem dX4_raise_22 : decode cX4_raise 22 = .ok (.if_icmp .gt 17, 3) := by decide +kernel
theorem dX4_raise_25 : decode cX4_raise 25 = .ok (.aload_n 2, 1) := by decide +kernel
theorem dX4_raise_26 : decode cX4_raise 26 = .ok (.getfield 59, 3) := by decide +kernel
theorem dX4_raise_29 : decode cX4_raise 29 = .ok (.iconst 0, 1) := by decide +kernel
theorem dX4_raise_30 : decode cX4_raise 30 = .ok (.invokevirtual 166, 3) := by decide +kernel
theorem dX4_raise_33 : decode cX4_raise 33 = .ok (.sipush 10000, 3) := by decide +kernel
theorem dX4_raise_36 : decode cX4_raise 36 = .ok (.if_icmp .le 5, 3) := by decide +kernel
theorem dX4_raise_39 : decode cX4_raise 39 = .ok (.iconst (-1), 1) := by decide +kernel
theorem dX4_raise_40 : decode cX4_raise 40 = .ok (.ireturn, 1) := by decide +kernel
theorem dX4_raise_41 : decode cX4_raise 41 = .ok (.aload_n 2, 1) := by decide +kernel
theorem dX4_raise_42 : decode cX4_raise 42 = .ok (.getfield 59, 3) := by decide +kernel
theorem dX4_raise_45 : decode cX4_raise 45 = .ok (.iconst 0, 1) := by decide +kernel
theorem dX4_raise_46 : decode cX4_raise 46 = .ok (.invokevirtual 166, 3) := by decide +kernel
theorem dX4_raise_49 : decode cX4_raise 49 = .ok (.istore_n 3, 1) := by decide +kernel
theorem dX4_raise_50 : decode cX4_raise 50 = .ok (.aload_n 0, 1) := by decide +kernel
theorem dX4_raise_51 : decode cX4_raise 51 = .ok (.getfield 14, 3) := by decide +kernel
theorem dX4_raise_54 : decode cX4_raise 54 = .ok (.lconst 1, 1) := by decide +kernel
theorem dX4_raise_55 : decode cX4_raise 55 = .ok (.invokevirtual 170, 3) := by decide +kernel
theorem dX4_raise_58 : decode cX4_raise 58 = .ok (.bipush 13, 2) := by decide +kernel
theorem dX4_raise_60 : decode cX4_raise 60 = .ok (.istore 4, 2) := by decide +kernel
theorem dX4_raise_62 : decode cX4_raise 62 = .ok (.iload 4, 2) := by decide +kernel
theorem dX4_raise_64 : decode cX4_raise 64 = .ok (.ifCond .lt 44, 3) := by decide +kernel
theorem dX4_raise_67 : decode cX4_raise 67 = .ok (.aload_n 0, 1) := by decide +kernel
theorem dX4_raise_68 : decode cX4_raise 68 = .ok (.aload_n 0, 1) := by decide +kernel
theorem dX4_raise_69 : decode cX4_raise 69 = .ok (.getfield 14, 3) := by decide +kernel
theorem dX4_raise_72 : decode cX4_raise 72 = .ok (.invokevirtual 173, 3) := by decide +kernel
theorem dX4_raise_75 : decode cX4_raise 75 = .ok (.ifCond .ne 6, 3) := by decide +kernel
theorem dX4_raise_78 : decode cX4_raise 78 = .ok (.bipush (-3), 2) := by decide +kernel
theorem dX4_raise_80 : decode cX4_raise 80 = .ok (.ireturn, 1) := by decide +kernel
theorem dX4_raise_81 : decode cX4_raise 81 = .ok (.iload_n 3, 1) := by decide +kernel
theorem dX4_raise_82 : decode cX4_raise 82 = .ok (.iload 4, 2) := by decide +kernel
theorem dX4_raise_84 : decode cX4_raise 84 = .ok (.ishr, 1) := by decide +kernel
theorem dX4_raise_85 : decode cX4_raise 85 = .ok (.iconst 1, 1) := by decide +kernel
theorem dX4_raise_86 : decode cX4_raise 86 = .ok (.iand, 1) := by decide +kernel
theorem dX4_raise_87 : decode cX4_raise 87 = .ok (.iconst 1, 1) := by decide +kernel
theorem dX4_raise_88 : decode cX4_raise 88 = .ok (.if_icmp .ne 14, 3) := by decide +kernel
theorem dX4_raise_91 : decode cX4_raise 91 = .ok (.aload_n 0, 1) := by decide +kernel
theorem dX4_raise_92 : decode cX4_raise 92 = .ok (.aload_n 1, 1) := by decide +kernel
theorem dX4_raise_93 : decode cX4_raise 93 = .ok (.invokevirtual 173, 3) := by decide +kernel
theorem dX4_raise_96 : decode cX4_raise 96 = .ok (.ifCond .ne 6, 3) := by decide +kernel
theorem dX4_raise_99 : decode cX4_raise 99 = .ok (.bipush (-3), 2) := by decide +kernel
theorem dX4_raise_101 : decode cX4_raise 101 = .ok (.ireturn, 1) := by decide +kernel
theorem dX4_raise_102 : decode cX4_raise 102 = .ok (.iinc 4 (-1), 3) := by decide +kernel
theorem dX4_raise_105 : decode cX4_raise 105 = .ok (.goto (-43), 3) := by decide +kernel
theorem dX4_raise_108 : decode cX4_raise 108 = .ok (.iconst 0, 1) := by decide +kernel
theorem dX4_raise_109 : decode cX4_raise 109 = .ok (.ireturn, 1) := by decide +kernel
theorem dX4_growBy_0 : decode cX4_growBy 0 = .ok (.aload_n 0, 1) := by decide +kernel
theorem dX4_growBy_1 : decode cX4_growBy 1 = .ok (.getfield 45, 3) := by decide +kernel
theorem dX4_growBy_4 : decode cX4_growBy 4 = .ok (.aload_n 0, 1) := by decide +kernel
theorem dX4_growBy_5 : decode cX4_growBy 5 = .ok (.getfield 14, 3) := by decide +kernel
theorem dX4_growBy_8 : decode cX4_growBy 8 = .ok (.getfield 59, 3) := by decide +kernel
theorem dX4_growBy_11 : decode cX4_growBy 11 = .ok (.aload_n 1, 1) := by decide +kernel
theorem dX4_growBy_12 : decode cX4_growBy 12 = .ok (.getfield 59, 3) := by decide +kernel
theorem dX4_growBy_15 : decode cX4_growBy 15 = .ok (.invokevirtual 104, 3) := by decide +kernel
theorem dX4_growBy_18 : decode cX4_growBy 18 = .ok (.aload_n 0, 1) := by decide +kernel
theorem dX4_growBy_19 : decode cX4_growBy 19 = .ok (.getfield 48, 3) := by decide +kernel
theorem dX4_growBy_22 : decode cX4_growBy 22 = .ok (.aload_n 0, 1) := by decide +kernel
theorem dX4_growBy_23 : decode cX4_growBy 23 = .ok (.getfield 14, 3) := by decide +kernel
theorem dX4_growBy_26 : decode cX4_growBy 26 = .ok (.getfield 62, 3) := by decide +kernel
theorem dX4_growBy_29 : decode cX4_growBy 29 = .ok (.aload_n 1, 1) := by decide +kernel
theorem dX4_growBy_30 : decode cX4_growBy 30 = .ok (.getfield 62, 3) := by decide +kernel
theorem dX4_growBy_33 : decode cX4_growBy 33 = .ok (.invokevirtual 104, 3) := by decide +kernel
theorem dX4_growBy_36 : decode cX4_growBy 36 = .ok (.aload_n 0, 1) := by decide +kernel
theorem dX4_growBy_37 : decode cX4_growBy 37 = .ok (.getfield 14, 3) := by decide +kernel
theorem dX4_growBy_40 : decode cX4_growBy 40 = .ok (.getfield 59, 3) := by decide +kernel
theorem dX4_growBy_43 : decode cX4_growBy 43 = .ok (.aload_n 0, 1) := by decide +kernel
theorem dX4_growBy_44 : decode cX4_growBy 44 = .ok (.getfield 45, 3) := by decide +kernel
theorem dX4_growBy_47 : decode cX4_growBy 47 = .ok (.invokevirtual 121, 3) := by decide +kernel
theorem dX4_growBy_50 : decode cX4_growBy 50 = .ok (.aload_n 0, 1) := by decide +kernel
theorem dX4_growBy_51 : decode cX4_growBy 51 = .ok (.getfield 14, 3) := by decide +kernel
theorem dX4_growBy_54 : decode cX4_growBy 54 = .ok (.getfield 62, 3) := by decide +kernel
theorem dX4_growBy_57 : decode cX4_growBy 57 = .ok (.aload_n 0, 1) := by decide +kernel
theorem dX4_growBy_58 : decode cX4_growBy 58 = .ok (.getfield 48, 3) := by decide +kernel
theorem dX4_growBy_61 : decode cX4_growBy 61 = .ok (.invokevirtual 121, 3) := by decide +kernel
theorem dX4_growBy_64 : decode cX4_growBy 64 = .ok (.aload_n 0, 1) := by decide +kernel
theorem dX4_growBy_65 : decode cX4_growBy 65 = .ok (.getfield 14, 3) := by decide +kernel
theorem dX4_growBy_68 : decode cX4_growBy 68 = .ok (.aload_n 0, 1) := by decide +kernel
theorem dX4_growBy_69 : decode cX4_growBy 69 = .ok (.getfield 14, 3) := by decide +kernel
theorem dX4_growBy_72 : decode cX4_growBy 72 = .ok (.getfield 51, 3) := by decide +kernel
theorem dX4_growBy_75 : decode cX4_growBy 75 = .ok (.aload_n 1, 1) := by decide +kernel
theorem dX4_growBy_76 : decode cX4_growBy 76 = .ok (.getfield 51, 3) := by decide +kernel
theorem dX4_growBy_79 : decode cX4_growBy 79 = .ok (.if_icmp .eq 7, 3) := by decide +kernel
theorem dX4_growBy_82 : decode cX4_growBy 82 = .ok (.iconst 1, 1) := by decide +kernel
theorem dX4_growBy_83 : decode cX4_growBy 83 = .ok (.goto 4, 3) := by decide +kernel
theorem dX4_growBy_86 : decode cX4_growBy 86 = .ok (.iconst 0, 1) := by decide +kernel
theorem dX4_growBy_87 : decode cX4_growBy 87 = .ok (.invokevirtual 96, 3) := by decide +kernel
theorem dX4_growBy_90 : decode cX4_growBy 90 = .ok (.aload_n 0, 1) := by decide +kernel
theorem dX4_growBy_91 : decode cX4_growBy 91 = .ok (.getfield 14, 3) := by decide +kernel
theorem dX4_growBy_94 : decode cX4_growBy 94 = .ok (.invokevirtual 132, 3) := by decide +kernel
theorem dX4_growBy_97 : decode cX4_growBy 97 = .ok (.ireturn, 1) := by decide +kernel
theorem dX4_makeWhole_0 : decode cX4_makeWhole 0 = .ok (.aload_n 0, 1) := by decide +kernel
theorem dX4_makeWhole_1 : decode cX4_makeWhole 1 = .ok (.getfield 31, 3) := by decide +kernel
theorem dX4_makeWhole_4 : decode cX4_makeWhole 4 = .ok (.aload_n 1, 1) := by decide +kernel
theorem dX4_makeWhole_5 : decode cX4_makeWhole 5 = .ok (.getfield 59, 3) := by decide +kernel
theorem dX4_makeWhole_8 : decode cX4_makeWhole 8 = .ok (.aload_n 1, 1) := by decide +kernel
theorem dX4_makeWhole_9 : decode cX4_makeWhole 9 = .ok (.getfield 62, 3) := by decide +kernel
theorem dX4_makeWhole_12 : decode cX4_makeWhole 12 = .ok (.invokevirtual 124, 3) := by decide +kernel
theorem dX4_makeWhole_15 : decode cX4_makeWhole 15 = .ok (.aload_n 0, 1) := by decide +kernel
theorem dX4_makeWhole_16 : decode cX4_makeWhole 16 = .ok (.aload_n 0, 1) := by decide +kernel
theorem dX4_makeWhole_17 : decode cX4_makeWhole 17 = .ok (.aload_n 1, 1) := by decide +kernel
theorem dX4_makeWhole_18 : decode cX4_makeWhole 18 = .ok (.iload_n 2, 1) := by decide +kernel
theorem dX4_makeWhole_19 : decode cX4_makeWhole 19 = .ok (.invokevirtual 177, 3) := by decide +kernel
theorem dX4_makeWhole_22 : decode cX4_makeWhole 22 = .ok (.aload_n 1, 1) := by decide +kernel
theorem dX4_makeWhole_23 : decode cX4_makeWhole 23 = .ok (.getfield 51, 3) := by decide +kernel
theorem dX4_makeWhole_26 : decode cX4_makeWhole 26 = .ok (.invokevirtual 155, 3) := by decide +kernel
theorem dX4_makeWhole_29 : decode cX4_makeWhole 29 = .ok (.iconst 0, 1) := by decide +kernel
theorem dX4_makeWhole_30 : decode cX4_makeWhole 30 = .ok (.ireturn, 1) := by decide +kernel
theorem dX4_isAwayFromZero_0 : decode cX4_isAwayFromZero 0 = .ok (.aload_n 0, 1) := by decide +kernel
theorem dX4_isAwayFromZero_1 : decode cX4_isAwayFromZero 1 = .ok (.getfield 31, 3) := by decide +kernel
theorem dX4_isAwayFromZero_4 : decode cX4_isAwayFromZero 4 = .ok (.getfield 152, 3) := by decide +kernel
theorem dX4_isAwayFromZero_7 : decode cX4_isAwayFromZero 7 = .ok (.invokevirtual 69, 3) := by decide +kernel
theorem dX4_isAwayFromZero_10 : decode cX4_isAwayFromZero 10 = .ok (.ifCond .ne 8, 3) := by decide +kernel
theorem dX4_isAwayFromZero_13 : decode cX4_isAwayFromZero 13 = .ok (.iload_n 2, 1) := by decide +kernel
theorem dX4_isAwayFromZero_14 : decode cX4_isAwayFromZero 14 = .ok (.iconst 5, 1) := by decide +kernel
theorem dX4_isAwayFromZero_15 : decode cX4_isAwayFromZero 15 = .ok (.if_icmp .ne 5, 3) := by decide +kernel
theorem dX4_isAwayFromZero_18 : decode cX4_isAwayFromZero 18 = .ok (.iconst 0, 1) := by decide +kernel
theorem dX4_isAwayFromZero_19 : decode cX4_isAwayFromZero 19 = .ok (.ireturn, 1) := by decide +kernel
theorem dX4_isAwayFromZero_20 : decode cX4_isAwayFromZero 20 = .ok (.iload_n 2, 1) := by decide +kernel
theorem dX4_isAwayFromZero_21 : decode cX4_isAwayFromZero 21 = .ok (.bipush 6, 2) := by decide +kernel
theorem dX4_isAwayFromZero_23 : decode cX4_isAwayFromZero 23 = .ok (.if_icmp .eq 26, 3) := by decide +kernel
theorem dX4_isAwayFromZero_26 : decode cX4_isAwayFromZero 26 = .ok (.aload_n 1, 1) := by decide +kernel
theorem dX4_isAwayFromZero_27 : decode cX4_isAwayFromZero 27 = .ok (.getfield 51, 3) := by decide +kernel
theorem dX4_isAwayFromZero_30 : decode cX4_isAwayFromZero 30 = .ok (.iload_n 2, 1) := by decide +kernel
theorem dX4_isAwayFromZero_31 : decode cX4_isAwayFromZero 31 = .ok (.iconst 3, 1) := by decide +kernel
theorem dX4_isAwayFromZero_32 : decode cX4_isAwayFromZero 32 = .ok (.if_icmp .ne 7, 3) := by decide +kernel
theorem dX4_isAwayFromZero_35 : decode cX4_isAwayFromZero 35 = .ok (.iconst 1, 1) := by decide +kernel
theorem dX4_isAwayFromZero_36 : decode cX4_isAwayFromZero 36 = .ok (.goto 4, 3) := by decide +kernel
theorem dX4_isAwayFromZero_39 : decode cX4_isAwayFromZero 39 = .ok (.iconst 0, 1) := by decide +kernel
theorem dX4_isAwayFromZero_40 : decode cX4_isAwayFromZero 40 = .ok (.if_icmp .ne 7, 3) := by decide +kernel
theorem dX4_isAwayFromZero_43 : decode cX4_isAwayFromZero 43 = .ok (.iconst 1, 1) := by decide +kernel
theorem dX4_isAwayFromZero_44 : decode cX4_isAwayFromZero 44 = .ok (.goto 4, 3) := by decide +kernel
theorem dX4_isAwayFromZero_47 : decode cX4_isAwayFromZero 47 = .ok (.iconst 0, 1) := by decide +kernel
theorem dX4_isAwayFromZero_48 : decode cX4_isAwayFromZero 48 = .ok (.ireturn, 1) := by decide +kernel
theorem dX4_isAwayFromZero_49 : decode cX4_isAwayFromZero 49 = .ok (.aload_n 0, 1) := by decide +kernel
theorem dX4_isAwayFromZero_50 : decode cX4_isAwayFromZero 50 = .ok (.getfield 45, 3) := by decide +kernel
theorem dX4_isAwayFromZero_53 : decode cX4_isAwayFromZero 53 = .ok (.aload_n 0, 1) := by decide +kernel
theorem dX4_isAwayFromZero_54 : decode cX4_isAwayFromZero 54 = .ok (.getfield 31, 3) := by decide +kernel
theorem dX4_isAwayFromZero_57 : decode cX4_isAwayFromZero 57 = .ok (.getfield 152, 3) := by decide +kernel
theorem dX4_isAwayFromZero_60 : decode cX4_isAwayFromZero 60 = .ok (.aload_n 0, 1) := by decide +kernel
theorem dX4_isAwayFromZero_61 : decode cX4_isAwayFromZero 61 = .ok (.getfield 31, 3) := by decide +kernel
theorem dX4_isAwayFromZero_64 : decode cX4_isAwayFromZero 64 = .ok (.getfield 152, 3) := by decide +kernel
theorem dX4_isAwayFromZero_67 : decode cX4_isAwayFromZero 67 = .ok (.invokevirtual 143, 3) := by decide +kernel
theorem dX4_isAwayFromZero_70 : decode cX4_isAwayFromZero 70 = .ok (.aload_n 0, 1) := by decide +kernel
theorem dX4_isAwayFromZero_71 : decode cX4_isAwayFromZero 71 = .ok (.getfield 45, 3) := by decide +kernel
theorem dX4_isAwayFromZero_74 : decode cX4_isAwayFromZero 74 = .ok (.aload_n 1, 1) := by decide +kernel
theorem dX4_isAwayFromZero_75 : decode cX4_isAwayFromZero 75 = .ok (.getfield 62, 3) := by decide +kernel
theorem dX4_isAwayFromZero_78 : decode cX4_isAwayFromZero 78 = .ok (.invokevirtual 108, 3) := by decide +kernel
theorem dX4_isAwayFromZero_81 : decode cX4_isAwayFromZero 81 = .ok (.istore_n 3, 1) := by decide +kernel
theorem dX4_isAwayFromZero_82 : decode cX4_isAwayFromZero 82 = .ok (.iload_n 3, 1) := by decide +kernel
theorem dX4_isAwayFromZero_83 : decode cX4_isAwayFromZero 83 = .ok (.ifCond .gt 20, 3) := by decide +kernel
theorem dX4_isAwayFromZero_86 : decode cX4_isAwayFromZero 86 = .ok (.iload_n 3, 1) := by decide +kernel
theorem dX4_isAwayFromZero_87 : decode cX4_isAwayFromZero 87 = .ok (.ifCond .ne 20, 3) := by decide +kernel
theorem dX4_isAwayFromZero_90 : decode cX4_isAwayFromZero 90 = .ok (.aload_n 0, 1) := by decide +kernel
theorem dX4_isAwayFromZero_91 : decode cX4_isAwayFromZero 91 = .ok (.getfield 31, 3) := by decide +kernel
theorem dX4_isAwayFromZero_94 : decode cX4_isAwayFromZero 94 = .ok (.getfield 129, 3) := by decide +kernel
theorem dX4_isAwayFromZero_97 : decode cX4_isAwayFromZero 97 = .ok (.invokevirtual 181, 3) := by decide +kernel
theorem dX4_isAwayFromZero_100 : decode cX4_isAwayFromZero 100 = .ok (.ifCond .eq 7, 3) := by decide +kernel
theorem dX4_isAwayFromZero_103 : decode cX4_isAwayFromZero 103 = .ok (.iconst 1, 1) := by decide +kernel
theorem dX4_isAwayFromZero_104 : decode cX4_isAwayFromZero 104 = .ok (.goto 4, 3) := by decide +kernel
theorem dX4_isAwayFromZero_107 : decode cX4_isAwayFromZero 107 = .ok (.iconst 0, 1) := by decide +kernel
theorem dX4_isAwayFromZero_108 : decode cX4_isAwayFromZero 108 = .ok (.ireturn, 1) := by decide +kernel
theorem dX5_init_0 : decode cX5_init 0 = .ok (.aload_n 0, 1) := by decide +kernel
theorem dX5_init_1 : decode cX5_init 1 = .ok (.invokespecial 3, 3) := by decide +kernel
theorem dX5_init_4 : decode cX5_init 4 = .ok (.aload_n 0, 1) := by decide +kernel
theorem dX5_init_5 : decode cX5_init 5 = .ok (.sipush 1400, 3) := by decide +kernel
theorem dX5_init_8 : decode cX5_init 8 = .ok (.newarray .byte, 2) := by decide +kernel
theorem dX5_init_10 : decode cX5_init 10 = .ok (.putfield 9, 3) := by decide +kernel
theorem dX5_init_13 : decode cX5_init 13 = .ok (.return_, 1) := by decide +kernel
theorem dX5_append_0 : decode cX5_append 0 = .ok (.bipush 24, 2) := by decide +kernel
theorem dX5_append_2 : decode cX5_append 2 = .ok (.istore_n 2, 1) := by decide +kernel
theorem dX5_append_3 : decode cX5_append 3 = .ok (.iload_n 2, 1) := by decide +kernel
theorem dX5_append_4 : decode cX5_append 4 = .ok (.ifCond .lt 32, 3) := by decide +kernel
theorem dX5_append_7 : decode cX5_append 7 = .ok (.aload_n 0, 1) := by decide +kernel
theorem dX5_append_8 : decode cX5_append 8 = .ok (.getfield 9, 3) := by decide +kernel
theorem dX5_append_11 : decode cX5_append 11 = .ok (.aload_n 0, 1) := by decide +kernel
theorem dX5_append_12 : decode cX5_append 12 = .ok (.getfield 15, 3) := by decide +kernel
theorem dX5_append_15 : decode cX5_append 15 = .ok (.iload_n 1, 1) := by decide +kernel
theorem dX5_append_16 : decode cX5_append 16 = .ok (.iload_n 2, 1) := by decide +kernel
theorem dX5_append_17 : decode cX5_append 17 = .ok (.ishr, 1) := by decide +kernel
theorem dX5_append_18 : decode cX5_append 18 = .ok (.i2b, 1) := by decide +kernel
theorem dX5_append_19 : decode cX5_append 19 = .ok (.bastore, 1) := by decide +kernel
theorem dX5_append_20 : decode cX5_append 20 = .ok (.aload_n 0, 1) := by decide +kernel
theorem dX5_append_21 : decode cX5_append 21 = .ok (.dup, 1) := by decide +kernel
theorem dX5_append_22 : decode cX5_append 22 = .ok (.getfield 15, 3) := by decide +kernel
theorem dX5_append_25 : decode cX5_append 25 = .ok (.iconst 1, 1) := by decide +kernel
theorem dX5_append_26 : decode cX5_append 26 = .ok (.iadd, 1) := by decide +kernel
theorem dX5_append_27 : decode cX5_append 27 = .ok (.putfield 15, 3) := by decide +kernel
theorem dX5_append_30 : decode cX5_append 30 = .ok (.iinc 2 (-8), 3) := by decide +kernel
theorem dX5_append_33 : decode cX5_append 33 = .ok (.goto (-30), 3) := by decide +kernel
theorem dX5_append_36 : decode cX5_append 36 = .ok (.return_, 1) := by decide +kernel
theorem dX5_takeFraction_0 : decode cX5_takeFraction 0 = .ok (.aload_n 0, 1) := by decide +kernel
theorem dX5_takeFraction_1 : decode cX5_takeFraction 1 = .ok (.iconst 0, 1) := by decide +kernel
theorem dX5_takeFraction_2 : decode cX5_takeFraction 2 = .ok (.putfield 19, 3) := by decide +kernel
theorem dX5_takeFraction_5 : decode cX5_takeFraction 5 = .ok (.aload_n 0, 1) := by decide +kernel
theorem dX5_takeFraction_6 : decode cX5_takeFraction 6 = .ok (.bipush 45, 2) := by decide +kernel
theorem dX5_takeFraction_8 : decode cX5_takeFraction 8 = .ok (.invokevirtual 22, 3) := by decide +kernel
theorem dX5_takeFraction_11 : decode cX5_takeFraction 11 = .ok (.istore_n 2, 1) := by decide +kernel
theorem dX5_takeFraction_12 : decode cX5_takeFraction 12 = .ok (.aload_n 0, 1) := by decide +kernel
theorem dX5_takeFraction_13 : decode cX5_takeFraction 13 = .ok (.aload_n 1, 1) := by decide +kernel
theorem dX5_takeFraction_14 : decode cX5_takeFraction 14 = .ok (.getfield 26, 3) := by decide +kernel
theorem dX5_takeFraction_17 : decode cX5_takeFraction 17 = .ok (.invokevirtual 32, 3) := by decide +kernel
theorem dX5_takeFraction_20 : decode cX5_takeFraction 20 = .ok (.ifCond .ne 5, 3) := by decide +kernel
theorem dX5_takeFraction_23 : decode cX5_takeFraction 23 = .ok (.iconst 0, 1) := by decide +kernel
theorem dX5_takeFraction_24 : decode cX5_takeFraction 24 = .ok (.ireturn, 1) := by decide +kernel
theorem dX5_takeFraction_25 : decode cX5_takeFraction 25 = .ok (.aload_n 1, 1) := by decide +kernel
theorem dX5_takeFraction_26 : decode cX5_takeFraction 26 = .ok (.iload_n 2, 1) := by decide +kernel
theorem dX5_takeFraction_27 : decode cX5_takeFraction 27 = .ok (.invokevirtual 36, 3) := by decide +kernel
theorem dX5_takeFraction_30 : decode cX5_takeFraction 30 = .ok (.aload_n 1, 1) := by decide +kernel
theorem dX5_takeFraction_31 : decode cX5_takeFraction 31 = .ok (.getfield 40, 3) := by decide +kernel
theorem dX5_takeFraction_34 : decode cX5_takeFraction 34 = .ok (.lconst 1, 1) := by decide +kernel
theorem dX5_takeFraction_35 : decode cX5_takeFraction 35 = .ok (.invokevirtual 43, 3) := by decide +kernel
theorem dX5_takeFraction_38 : decode cX5_takeFraction 38 = .ok (.aload_n 0, 1) := by decide +kernel
theorem dX5_takeFraction_39 : decode cX5_takeFraction 39 = .ok (.bipush 47, 2) := by decide +kernel
theorem dX5_takeFraction_41 : decode cX5_takeFraction 41 = .ok (.invokevirtual 22, 3) := by decide +kernel
theorem dX5_takeFraction_44 : decode cX5_takeFraction 44 = .ok (.ifCond .eq 26, 3) := by decide +kernel
theorem dX5_takeFraction_47 : decode cX5_takeFraction 47 = .ok (.aload_n 0, 1) := by decide +kernel
theorem dX5_takeFraction_48 : decode cX5_takeFraction 48 = .ok (.aload_n 1, 1) := by decide +kernel
theorem dX5_takeFraction_49 : decode cX5_takeFraction 49 = .ok (.getfield 40, 3) := by decide +kernel
theorem dX5_takeFraction_52 : decode cX5_takeFraction 52 = .ok (.invokevirtual 32, 3) := by decide +kernel
theorem dX5_takeFraction_55 : decode cX5_takeFraction 55 = .ok (.ifCond .eq 13, 3) := by decide +kernel
theorem dX5_takeFraction_58 : decode cX5_takeFraction 58 = .ok (.aload_n 1, 1) := by decide +kernel
theorem dX5_takeFraction_59 : decode cX5_takeFraction 59 = .ok (.getfield 40, 3) := by decide +kernel
theorem dX5_takeFraction_62 : decode cX5_takeFraction 62 = .ok (.invokevirtual 49, 3) := by decide +kernel
theorem dX5_takeFraction_65 : decode cX5_takeFraction 65 = .ok (.ifCond .eq 5, 3) := by decide +kernel
theorem dX5_takeFraction_68 : decode cX5_takeFraction 68 = .ok (.iconst 0, 1) := by decide +kernel
theorem dX5_takeFraction_69 : decode cX5_takeFraction 69 = .ok (.ireturn, 1) := by decide +kernel
theorem dX5_takeFraction_70 : decode cX5_takeFraction 70 = .ok (.aload_n 0, 1) := by decide +kernel
theorem dX5_takeFraction_71 : decode cX5_takeFraction 71 = .ok (.getfield 19, 3) := by decide +kernel
theorem dX5_takeFraction_74 : decode cX5_takeFraction 74 = .ok (.aload_n 0, 1) := by decide +kernel
theorem dX5_takeFraction_75 : decode cX5_takeFraction 75 = .ok (.getfield 15, 3) := by decide +kernel
theorem dX5_takeFraction_78 : decode cX5_takeFraction 78 = .ok (.if_icmp .ne 7, 3) := by decide +kernel
theorem dX5_takeFraction_81 : decode cX5_takeFraction 81 = .ok (.iconst 1, 1) := by decide +kernel
theorem dX5_takeFraction_82 : decode cX5_takeFraction 82 = .ok (.goto 4, 3) := by decide +kernel
theorem dX5_takeFraction_85 : decode cX5_takeFraction 85 = .ok (.iconst 0, 1) := by decide +kernel
theorem dX5_takeFraction_86 : decode cX5_takeFraction 86 = .ok (.ireturn, 1) := by decide +kernel
theorem dX5_take_0 : decode cX5_take 0 = .ok (.aload_n 0, 1) := by decide +kernel
theorem dX5_take_1 : decode cX5_take 1 = .ok (.getfield 19, 3) := by decide +kernel
theorem dX5_take_4 : decode cX5_take 4 = .ok (.aload_n 0, 1) := by decide +kernel
theorem dX5_take_5 : decode cX5_take 5 = .ok (.getfield 15, 3) := by decide +kernel
theorem dX5_take_8 : decode cX5_take 8 = .ok (.if_icmp .ge 28, 3) := by decide +kernel
theorem dX5_take_11 : decode cX5_take 11 = .ok (.aload_n 0, 1) := by decide +kernel
theorem dX5_take_12 : decode cX5_take 12 = .ok (.getfield 9, 3) := by decide +kernel
theorem dX5_take_15 : decode cX5_take 15 = .ok (.aload_n 0, 1) := by decide +kernel
theorem dX5_take_16 : decode cX5_take 16 = .ok (.getfield 19, 3) := by decide +kernel
theorem dX5_take_19 : decode cX5_take 19 = .ok (.baload, 1) := by decide +kernel
theorem dX5_take_20 : decode cX5_take 20 = .ok (.iload_n 1, 1) := by decide +kernel
theorem dX5_take_21 : decode cX5_take 21 = .ok (.if_icmp .ne 15, 3) := by decide +kernel
theorem dX5_take_24 : decode cX5_take 24 = .ok (.aload_n 0, 1) := by decide +kernel
theorem dX5_take_25 : decode cX5_take 25 = .ok (.dup, 1) := by decide +kernel
theorem dX5_take_26 : decode cX5_take 26 = .ok (.getfield 19, 3) := by decide +kernel
theorem dX5_take_29 : decode cX5_take 29 = .ok (.iconst 1, 1) := by decide +kernel
theorem dX5_take_30 : decode cX5_take 30 = .ok (.iadd, 1) := by decide +kernel
theorem dX5_take_31 : decode cX5_take 31 = .ok (.putfield 19, 3) := by decide +kernel
theorem dX5_take_34 : decode cX5_take 34 = .ok (.iconst 1, 1) := by decide +kernel
theorem dX5_take_35 : decode cX5_take 35 = .ok (.ireturn, 1) := by decide +kernel
theorem dX5_take_36 : decode cX5_take 36 = .ok (.iconst 0, 1) := by decide +kernel
theorem dX5_take_37 : decode cX5_take 37 = .ok (.ireturn, 1) := by decide +kernel
theorem dX5_isAtDigit_0 : decode cX5_isAtDigit 0 = .ok (.aload_n 0, 1) := by decide +kernel
theorem dX5_isAtDigit_1 : decode cX5_isAtDigit 1 = .ok (.getfield 19, 3) := by decide +kernel
theorem dX5_isAtDigit_4 : decode cX5_isAtDigit 4 = .ok (.aload_n 0, 1) := by decide +kernel
theorem dX5_isAtDigit_5 : decode cX5_isAtDigit 5 = .ok (.getfield 15, 3) := by decide +kernel
theorem dX5_isAtDigit_8 : decode cX5_isAtDigit 8 = .ok (.if_icmp .ge 35, 3) := by decide +kernel
theorem dX5_isAtDigit_11 : decode cX5_isAtDigit 11 = .ok (.aload_n 0, 1) := by decide +kernel
theorem dX5_isAtDigit_12 : decode cX5_isAtDigit 12 = .ok (.getfield 9, 3) := by decide +kernel
theorem dX5_isAtDigit_15 : decode cX5_isAtDigit 15 = .ok (.aload_n 0, 1) := by decide +kernel
theorem dX5_isAtDigit_16 : decode cX5_isAtDigit 16 = .ok (.getfield 19, 3) := by decide +kernel
theorem dX5_isAtDigit_19 : decode cX5_isAtDigit 19 = .ok (.baload, 1) := by decide +kernel
theorem dX5_isAtDigit_20 : decode cX5_isAtDigit 20 = .ok (.bipush 48, 2) := by decide +kernel
theorem dX5_isAtDigit_22 : decode cX5_isAtDigit 22 = .ok (.if_icmp .lt 21, 3) := by decide +kernel
theorem dX5_isAtDigit_25 : decode cX5_isAtDigit 25 = .ok (.aload_n 0, 1) := by decide +kernel
theorem dX5_isAtDigit_26 : decode cX5_isAtDigit 26 = .ok (.getfield 9, 3) := by decide +kernel
theorem dX5_isAtDigit_29 : decode cX5_isAtDigit 29 = .ok (.aload_n 0, 1) := by decide +kernel
theorem dX5_isAtDigit_30 : decode cX5_isAtDigit 30 = .ok (.getfield 19, 3) := by decide +kernel
theorem dX5_isAtDigit_33 : decode cX5_isAtDigit 33 = .ok (.baload, 1) := by decide +kernel
theorem dX5_isAtDigit_34 : decode cX5_isAtDigit 34 = .ok (.bipush 57, 2) := by decide +kernel
theorem dX5_isAtDigit_36 : decode cX5_isAtDigit 36 = .ok (.if_icmp .gt 7, 3) := by decide +kernel
theorem dX5_isAtDigit_39 : decode cX5_isAtDigit 39 = .ok (.iconst 1, 1) := by decide +kernel
theorem dX5_isAtDigit_40 : decode cX5_isAtDigit 40 = .ok (.goto 4, 3) := by decide +kernel
theorem dX5_isAtDigit_43 : decode cX5_isAtDigit 43 = .ok (.iconst 0, 1) := by decide +kernel
theorem dX5_isAtDigit_44 : decode cX5_isAtDigit 44 = .ok (.ireturn, 1) := by decide +kernel
theorem dX5_takeNatural_0 : decode cX5_takeNatural 0 = .ok (.aload_n 0, 1) := by decide +kernel
theorem dX5_takeNatural_1 : decode cX5_takeNatural 1 = .ok (.getfield 19, 3) := by decide +kernel
theorem dX5_takeNatural_4 : decode cX5_takeNatural 4 = .ok (.istore_n 2, 1) := by decide +kernel
theorem dX5_takeNatural_5 : decode cX5_takeNatural 5 = .ok (.aload_n 1, 1) := by decide +kernel
theorem dX5_takeNatural_6 : decode cX5_takeNatural 6 = .ok (.iconst 0, 1) := by decide +kernel
theorem dX5_takeNatural_7 : decode cX5_takeNatural 7 = .ok (.putfield 53, 3) := by decide +kernel
theorem dX5_takeNatural_10 : decode cX5_takeNatural 10 = .ok (.iconst 0, 1) := by decide +kernel
theorem dX5_takeNatural_11 : decode cX5_takeNatural 11 = .ok (.istore_n 3, 1) := by decide +kernel
theorem dX5_takeNatural_12 : decode cX5_takeNatural 12 = .ok (.iload_n 3, 1) := by decide +kernel
theorem dX5_takeNatural_13 : decode cX5_takeNatural 13 = .ok (.sipush 1400, 3) := by decide +kernel
theorem dX5_takeNatural_16 : decode cX5_takeNatural 16 = .ok (.if_icmp .ge 28, 3) := by decide +kernel
theorem dX5_takeNatural_19 : decode cX5_takeNatural 19 = .ok (.aload_n 0, 1) := by decide +kernel
theorem dX5_takeNatural_20 : decode cX5_takeNatural 20 = .ok (.invokevirtual 56, 3) := by decide +kernel
theorem dX5_takeNatural_23 : decode cX5_takeNatural 23 = .ok (.ifCond .eq 21, 3) := by decide +kernel
theorem dX5_takeNatural_26 : decode cX5_takeNatural 26 = .ok (.aload_n 1, 1) := by decide +kernel
theorem dX5_takeNatural_27 : decode cX5_takeNatural 27 = .ok (.invokevirtual 59, 3) := by decide +kernel
theorem dX5_takeNatural_30 : decode cX5_takeNatural 30 = .ok (.ifCond .eq 14, 3) := by decide +kernel
theorem dX5_takeNatural_33 : decode cX5_takeNatural 33 = .ok (.aload_n 0, 1) := by decide +kernel
theorem dX5_takeNatural_34 : decode cX5_takeNatural 34 = .ok (.aload_n 1, 1) := by decide +kernel
theorem dX5_takeNatural_35 : decode cX5_takeNatural 35 = .ok (.invokevirtual 62, 3) := by decide +kernel
theorem dX5_takeNatural_38 : decode cX5_takeNatural 38 = .ok (.iinc 3 1, 3) := by decide +kernel
theorem dX5_takeNatural_41 : decode cX5_takeNatural 41 = .ok (.goto (-29), 3) := by decide +kernel
theorem dX5_takeNatural_44 : decode cX5_takeNatural 44 = .ok (.aload_n 0, 1) := by decide +kernel
theorem dX5_takeNatural_45 : decode cX5_takeNatural 45 = .ok (.getfield 19, 3) := by decide +kernel
theorem dX5_takeNatural_48 : decode cX5_takeNatural 48 = .ok (.iload_n 2, 1) := by decide +kernel
theorem dX5_takeNatural_49 : decode cX5_takeNatural 49 = .ok (.if_icmp .le 14, 3) := by decide +kernel
theorem dX5_takeNatural_52 : decode cX5_takeNatural 52 = .ok (.aload_n 1, 1) := by decide +kernel
theorem dX5_takeNatural_53 : decode cX5_takeNatural 53 = .ok (.invokevirtual 59, 3) := by decide +kernel
theorem dX5_takeNatural_56 : decode cX5_takeNatural 56 = .ok (.ifCond .eq 7, 3) := by decide +kernel
theorem dX5_takeNatural_59 : decode cX5_takeNatural 59 = .ok (.iconst 1, 1) := by decide +kernel
theorem dX5_takeNatural_60 : decode cX5_takeNatural 60 = .ok (.goto 4, 3) := by decide +kernel
theorem dX5_takeNatural_63 : decode cX5_takeNatural 63 = .ok (.iconst 0, 1) := by decide +kernel
theorem dX5_takeNatural_64 : decode cX5_takeNatural 64 = .ok (.ireturn, 1) := by decide +kernel
theorem dX5_takeGroup_0 : decode cX5_takeGroup 0 = .ok (.iconst 0, 1) := by decide +kernel
theorem dX5_takeGroup_1 : decode cX5_takeGroup 1 = .ok (.istore_n 2, 1) := by decide +kernel
theorem dX5_takeGroup_2 : decode cX5_takeGroup 2 = .ok (.iconst 1, 1) := by decide +kernel
theorem dX5_takeGroup_3 : decode cX5_takeGroup 3 = .ok (.istore_n 3, 1) := by decide +kernel
theorem dX5_takeGroup_4 : decode cX5_takeGroup 4 = .ok (.iconst 0, 1) := by decide +kernel
theorem dX5_takeGroup_5 : decode cX5_takeGroup 5 = .ok (.istore 4, 2) := by decide +kernel
theorem dX5_takeGroup_7 : decode cX5_takeGroup 7 = .ok (.iload 4, 2) := by decide +kernel
theorem dX5_takeGroup_9 : decode cX5_takeGroup 9 = .ok (.bipush 9, 2) := by decide +kernel
theorem dX5_takeGroup_11 : decode cX5_takeGroup 11 = .ok (.if_icmp .ge 49, 3) := by decide +kernel
theorem dX5_takeGroup_14 : decode cX5_takeGroup 14 = .ok (.aload_n 0, 1) := by decide +kernel
theorem dX5_takeGroup_15 : decode cX5_takeGroup 15 = .ok (.invokevirtual 56, 3) := by decide +kernel
theorem dX5_takeGroup_18 : decode cX5_takeGroup 18 = .ok (.ifCond .eq 42, 3) := by decide +kernel
theorem dX5_takeGroup_21 : decode cX5_takeGroup 21 = .ok (.bipush 10, 2) := by decide +kernel
theorem dX5_takeGroup_23 : decode cX5_takeGroup 23 = .ok (.iload_n 2, 1) := by decide +kernel
theorem dX5_takeGroup_24 : decode cX5_takeGroup 24 = .ok (.imul, 1) := by decide +kernel
theorem dX5_takeGroup_25 : decode cX5_takeGroup 25 = .ok (.aload_n 0, 1) := by decide +kernel
theorem dX5_takeGroup_26 : decode cX5_takeGroup 26 = .ok (.getfield 9, 3) := by decide +kernel
theorem dX5_takeGroup_29 : decode cX5_takeGroup 29 = .ok (.aload_n 0, 1) := by decide +kernel
theorem dX5_takeGroup_30 : decode cX5_takeGroup 30 = .ok (.getfield 19, 3) := by decide +kernel
theorem dX5_takeGroup_33 : decode cX5_takeGroup 33 = .ok (.baload, 1) := by decide +kernel
theorem dX5_takeGroup_34 : decode cX5_takeGroup 34 = .ok (.iadd, 1) := by decide +kernel
theorem dX5_takeGroup_35 : decode cX5_takeGroup 35 = .ok (.bipush 48, 2) := by decide +kernel
theorem dX5_takeGroup_37 : decode cX5_takeGroup 37 = .ok (.isub, 1) := by decide +kernel
theorem dX5_takeGroup_38 : decode cX5_takeGroup 38 = .ok (.istore_n 2, 1) := by decide +kernel
theorem dX5_takeGroup_39 : decode cX5_takeGroup 39 = .ok (.iload_n 3, 1) := by decide +kernel
theorem dX5_takeGroup_40 : decode cX5_takeGroup 40 = .ok (.bipush 10, 2) := by decide +kernel
theorem dX5_takeGroup_42 : decode cX5_takeGroup 42 = .ok (.imul, 1) := by decide +kernel
theorem dX5_takeGroup_43 : decode cX5_takeGroup 43 = .ok (.istore_n 3, 1) := by decide +kernel
theorem dX5_takeGroup_44 : decode cX5_takeGroup 44 = .ok (.aload_n 0, 1) := by decide +kernel
theorem dX5_takeGroup_45 : decode cX5_takeGroup 45 = .ok (.dup, 1) := by decide +kernel
theorem dX5_takeGroup_46 : decode cX5_takeGroup 46 = .ok (.getfield 19, 3) := by decide +kernel
theorem dX5_takeGroup_49 : decode cX5_takeGroup 49 = .ok (.iconst 1, 1) := by decide +kernel
theorem dX5_takeGroup_50 : decode cX5_takeGroup 50 = .ok (.iadd, 1) := by decide +kernel
theorem dX5_takeGroup_51 : decode cX5_takeGroup 51 = .ok (.putfield 19, 3) := by decide +kernel
theorem dX5_takeGroup_54 : decode cX5_takeGroup 54 = .ok (.iinc 4 1, 3) := by decide +kernel
theorem dX5_takeGroup_57 : decode cX5_takeGroup 57 = .ok (.goto (-50), 3) := by decide +kernel
theorem dX5_takeGroup_60 : decode cX5_takeGroup 60 = .ok (.aload_n 1, 1) := by decide +kernel
theorem dX5_takeGroup_61 : decode cX5_takeGroup 61 = .ok (.iload_n 3, 1) := by decide +kernel
theorem dX5_takeGroup_62 : decode cX5_takeGroup 62 = .ok (.iload_n 2, 1) := by decide +kernel
theorem dX5_takeGroup_63 : decode cX5_takeGroup 63 = .ok (.invokevirtual 66, 3) := by decide +kernel
theorem dX5_takeGroup_66 : decode cX5_takeGroup 66 = .ok (.return_, 1) := by decide +kernel
theorem dX6_init_0 : decode cX6_init 0 = .ok (.aload_n 0, 1) := by decide +kernel
theorem dX6_init_1 : decode cX6_init 1 = .ok (.invokespecial 3, 3) := by decide +kernel
theorem dX6_init_4 : decode cX6_init 4 = .ok (.aload_n 0, 1) := by decide +kernel
theorem dX6_init_5 : decode cX6_init 5 = .ok (.sipush 4098, 3) := by decide +kernel
theorem dX6_init_8 : decode cX6_init 8 = .ok (.newarray .char, 2) := by decide +kernel
theorem dX6_init_10 : decode cX6_init 10 = .ok (.putfield 9, 3) := by decide +kernel
theorem dX6_init_13 : decode cX6_init 13 = .ok (.aload_n 0, 1) := by decide +kernel
theorem dX6_init_14 : decode cX6_init 14 = .ok (.new 15, 3) := by decide +kernel
theorem dX6_init_17 : decode cX6_init 17 = .ok (.dup, 1) := by decide +kernel
theorem dX6_init_18 : decode cX6_init 18 = .ok (.bipush 67, 2) := by decide +kernel
theorem dX6_init_20 : decode cX6_init 20 = .ok (.invokespecial 17, 3) := by decide +kernel
theorem dX6_init_23 : decode cX6_init 23 = .ok (.putfield 20, 3) := by decide +kernel
theorem dX6_init_26 : decode cX6_init 26 = .ok (.return_, 1) := by decide +kernel
theorem dX6_become_0 : decode cX6_become 0 = .ok (.aload_n 0, 1) := by decide +kernel
theorem dX6_become_1 : decode cX6_become 1 = .ok (.iconst 0, 1) := by decide +kernel
theorem dX6_become_2 : decode cX6_become 2 = .ok (.putfield 24, 3) := by decide +kernel
theorem dX6_become_5 : decode cX6_become 5 = .ok (.aload_n 1, 1) := by decide +kernel
theorem dX6_become_6 : decode cX6_become 6 = .ok (.getfield 28, 3) := by decide +kernel
theorem dX6_become_9 : decode cX6_become 9 = .ok (.ifCond .eq 9, 3) := by decide +kernel
theorem dX6_become_12 : decode cX6_become 12 = .ok (.aload_n 0, 1) := by decide +kernel
theorem dX6_become_13 : decode cX6_become 13 = .ok (.bipush 45, 2) := by decide +kernel
theorem dX6_become_15 : decode cX6_become 15 = .ok (.invokevirtual 34, 3) := by decide +kernel
theorem dX6_become_18 : decode cX6_become 18 = .ok (.aload_n 0, 1) := by decide +kernel
theorem dX6_become_19 : decode cX6_become 19 = .ok (.aload_n 1, 1) := by decide +kernel
theorem dX6_become_20 : decode cX6_become 20 = .ok (.getfield 38, 3) := by decide +kernel
theorem dX6_become_23 : decode cX6_become 23 = .ok (.iload_n 2, 1) := by decide +kernel
theorem dX6_become_24 : decode cX6_become 24 = .ok (.invokevirtual 41, 3) := by decide +kernel
theorem dX6_become_27 : decode cX6_become 27 = .ok (.aload_n 1, 1) := by decide +kernel
theorem dX6_become_28 : decode cX6_become 28 = .ok (.invokevirtual 45, 3) := by decide +kernel
theorem dX6_become_31 : decode cX6_become 31 = .ok (.ifCond .ne 18, 3) := by decide +kernel
theorem dX6_become_34 : decode cX6_become 34 = .ok (.aload_n 0, 1) := by decide +kernel
theorem dX6_become_35 : decode cX6_become 35 = .ok (.bipush 47, 2) := by decide +kernel
theorem dX6_become_37 : decode cX6_become 37 = .ok (.invokevirtual 34, 3) := by decide +kernel
theorem dX6_become_40 : decode cX6_become 40 = .ok (.aload_n 0, 1) := by decide +kernel
theorem dX6_become_41 : decode cX6_become 41 = .ok (.aload_n 1, 1) := by decide +kernel
theorem dX6_become_42 : decode cX6_become 42 = .ok (.getfield 49, 3) := by decide +kernel
theorem dX6_become_45 : decode cX6_become 45 = .ok (.iload_n 2, 1) := by decide +kernel
theorem dX6_become_46 : decode cX6_become 46 = .ok (.invokevirtual 41, 3) := by decide +kernel
theorem dX6_become_49 : decode cX6_become 49 = .ok (.return_, 1) := by decide +kernel
theorem dX6_append_0 : decode cX6_append 0 = .ok (.aload_n 0, 1) := by decide +kernel
theorem dX6_append_1 : decode cX6_append 1 = .ok (.getfield 24, 3) := by decide +kernel
theorem dX6_append_4 : decode cX6_append 4 = .ok (.aload_n 0, 1) := by decide +kernel
theorem dX6_append_5 : decode cX6_append 5 = .ok (.getfield 9, 3) := by decide +kernel
theorem dX6_append_8 : decode cX6_append 8 = .ok (.arraylength, 1) := by decide +kernel
theorem dX6_append_9 : decode cX6_append 9 = .ok (.if_icmp .ge 23, 3) := by decide +kernel
theorem dX6_append_12 : decode cX6_append 12 = .ok (.aload_n 0, 1) := by decide +kernel
theorem dX6_append_13 : decode cX6_append 13 = .ok (.getfield 9, 3) := by decide +kernel
theorem dX6_append_16 : decode cX6_append 16 = .ok (.aload_n 0, 1) := by decide +kernel
theorem dX6_append_17 : decode cX6_append 17 = .ok (.getfield 24, 3) := by decide +kernel
theorem dX6_append_20 : decode cX6_append 20 = .ok (.iload_n 1, 1) := by decide +kernel
theorem dX6_append_21 : decode cX6_append 21 = .ok (.castore, 1) := by decide +kernel
theorem dX6_append_22 : decode cX6_append 22 = .ok (.aload_n 0, 1) := by decide +kernel
theorem dX6_append_23 : decode cX6_append 23 = .ok (.dup, 1) := by decide +kernel
theorem dX6_append_24 : decode cX6_append 24 = .ok (.getfield 24, 3) := by decide +kernel
theorem dX6_append_27 : decode cX6_append 27 = .ok (.iconst 1, 1) := by decide +kernel
theorem dX6_append_28 : decode cX6_append 28 = .ok (.iadd, 1) := by decide +kernel
theorem dX6_append_29 : decode cX6_append 29 = .ok (.putfield 24, 3) := by decide +kernel
theorem dX6_append_32 : decode cX6_append 32 = .ok (.return_, 1) := by decide +kernel
theorem dX6_appendNatural_0 : decode cX6_appendNatural 0 = .ok (.aload_n 1, 1) := by decide +kernel
theorem dX6_appendNatural_1 : decode cX6_appendNatural 1 = .ok (.invokevirtual 52, 3) := by decide +kernel
theorem dX6_appendNatural_4 : decode cX6_appendNatural 4 = .ok (.ifCond .eq 10, 3) := by decide +kernel
theorem dX6_appendNatural_7 : decode cX6_appendNatural 7 = .ok (.aload_n 0, 1) := by decide +kernel
theorem dX6_appendNatural_8 : decode cX6_appendNatural 8 = .ok (.bipush 48, 2) := by decide +kernel
theorem dX6_appendNatural_10 : decode cX6_appendNatural 10 = .ok (.invokevirtual 34, 3) := by decide +kernel
theorem dX6_appendNatural_13 : decode cX6_appendNatural 13 = .ok (.return_, 1) := by decide +kernel
theorem dX6_appendNatural_14 : decode cX6_appendNatural 14 = .ok (.iload_n 2, 1) := by decide +kernel
theorem dX6_appendNatural_15 : decode cX6_appendNatural 15 = .ok (.istore_n 3, 1) := by decide +kernel
theorem dX6_appendNatural_16 : decode cX6_appendNatural 16 = .ok (.iconst 1, 1) := by decide +kernel
theorem dX6_appendNatural_17 : decode cX6_appendNatural 17 = .ok (.istore 4, 2) := by decide +kernel
theorem dX6_appendNatural_19 : decode cX6_appendNatural 19 = .ok (.iload 4, 2) := by decide +kernel
theorem dX6_appendNatural_21 : decode cX6_appendNatural 21 = .ok (.bipush 31, 2) := by decide +kernel
theorem dX6_appendNatural_23 : decode cX6_appendNatural 23 = .ok (.if_icmp .ge 21, 3) := by decide +kernel
theorem dX6_appendNatural_26 : decode cX6_appendNatural 26 = .ok (.iload_n 3, 1) := by decide +kernel
theorem dX6_appendNatural_27 : decode cX6_appendNatural 27 = .ok (.ldc 55, 2) := by decide +kernel
theorem dX6_appendNatural_29 : decode cX6_appendNatural 29 = .ok (.iload_n 2, 1) := by decide +kernel
theorem dX6_appendNatural_30 : decode cX6_appendNatural 30 = .ok (.idiv, 1) := by decide +kernel
theorem dX6_appendNatural_31 : decode cX6_appendNatural 31 = .ok (.if_icmp .gt 13, 3) := by decide +kernel
theorem dX6_appendNatural_34 : decode cX6_appendNatural 34 = .ok (.iload_n 3, 1) := by decide +kernel
theorem dX6_appendNatural_35 : decode cX6_appendNatural 35 = .ok (.iload_n 2, 1) := by decide +kernel
theorem dX6_appendNatural_36 : decode cX6_appendNatural 36 = .ok (.imul, 1) := by decide +kernel
theorem dX6_appendNatural_37 : decode cX6_appendNatural 37 = .ok (.istore_n 3, 1) := by decide +kernel
theorem dX6_appendNatural_38 : decode cX6_appendNatural 38 = .ok (.iinc 4 1, 3) := by decide +kernel
theorem dX6_appendNatural_41 : decode cX6_appendNatural 41 = .ok (.goto (-22), 3) := by decide +kernel
theorem dX6_appendNatural_44 : decode cX6_appendNatural 44 = .ok (.aload_n 0, 1) := by decide +kernel
theorem dX6_appendNatural_45 : decode cX6_appendNatural 45 = .ok (.getfield 24, 3) := by decide +kernel
theorem dX6_appendNatural_48 : decode cX6_appendNatural 48 = .ok (.istore 5, 2) := by decide +kernel
theorem dX6_appendNatural_50 : decode cX6_appendNatural 50 = .ok (.aload_n 0, 1) := by decide +kernel
theorem dX6_appendNatural_51 : decode cX6_appendNatural 51 = .ok (.getfield 20, 3) := by decide +kernel
theorem dX6_appendNatural_54 : decode cX6_appendNatural 54 = .ok (.aload_n 1, 1) := by decide +kernel
theorem dX6_appendNatural_55 : decode cX6_appendNatural 55 = .ok (.invokevirtual 56, 3) := by decide +kernel
theorem dX6_appendNatural_58 : decode cX6_appendNatural 58 = .ok (.iconst 0, 1) := by decide +kernel
theorem dX6_appendNatural_59 : decode cX6_appendNatural 59 = .ok (.istore 6, 2) := by decide +kernel
theorem dX6_appendNatural_61 : decode cX6_appendNatural 61 = .ok (.iload 6, 2) := by decide +kernel
theorem dX6_appendNatural_63 : decode cX6_appendNatural 63 = .ok (.sipush 2048, 3) := by decide +kernel
theorem dX6_appendNatural_66 : decode cX6_appendNatural 66 = .ok (.if_icmp .ge 34, 3) := by decide +kernel
theorem dX6_appendNatural_69 : decode cX6_appendNatural 69 = .ok (.aload_n 0, 1) := by decide +kernel
theorem dX6_appendNatural_70 : decode cX6_appendNatural 70 = .ok (.getfield 20, 3) := by decide +kernel
theorem dX6_appendNatural_73 : decode cX6_appendNatural 73 = .ok (.invokevirtual 52, 3) := by decide +kernel
theorem dX6_appendNatural_76 : decode cX6_appendNatural 76 = .ok (.ifCond .ne 24, 3) := by decide +kernel
theorem dX6_appendNatural_79 : decode cX6_appendNatural 79 = .ok (.aload_n 0, 1) := by decide +kernel
theorem dX6_appendNatural_80 : decode cX6_appendNatural 80 = .ok (.aload_n 0, 1) := by decide +kernel
theorem dX6_appendNatural_81 : decode cX6_appendNatural 81 = .ok (.getfield 20, 3) := by decide +kernel
theorem dX6_appendNatural_84 : decode cX6_appendNatural 84 = .ok (.iload_n 3, 1) := by decide +kernel
theorem dX6_appendNatural_85 : decode cX6_appendNatural 85 = .ok (.invokevirtual 60, 3) := by decide +kernel
theorem dX6_appendNatural_88 : decode cX6_appendNatural 88 = .ok (.iload_n 2, 1) := by decide +kernel
theorem dX6_appendNatural_89 : decode cX6_appendNatural 89 = .ok (.iload 4, 2) := by decide +kernel
theorem dX6_appendNatural_91 : decode cX6_appendNatural 91 = .ok (.invokevirtual 64, 3) := by decide +kernel
theorem dX6_appendNatural_94 : decode cX6_appendNatural 94 = .ok (.iinc 6 1, 3) := by decide +kernel
theorem dX6_appendNatural_97 : decode cX6_appendNatural 97 = .ok (.goto (-36), 3) := by decide +kernel
theorem dX6_appendNatural_100 : decode cX6_appendNatural 100 = .ok (.aload_n 0, 1) := by decide +kernel
theorem dX6_appendNatural_101 : decode cX6_appendNatural 101 = .ok (.iload 5, 2) := by decide +kernel
theorem dX6_appendNatural_103 : decode cX6_appendNatural 103 = .ok (.invokevirtual 68, 3) := by decide +kernel
theorem dX6_appendNatural_106 : decode cX6_appendNatural 106 = .ok (.return_, 1) := by decide +kernel
theorem dX6_appendGroup_0 : decode cX6_appendGroup 0 = .ok (.iload_n 1, 1) := by decide +kernel
theorem dX6_appendGroup_1 : decode cX6_appendGroup 1 = .ok (.istore 4, 2) := by decide +kernel
theorem dX6_appendGroup_3 : decode cX6_appendGroup 3 = .ok (.iconst 0, 1) := by decide +kernel
theorem dX6_appendGroup_4 : decode cX6_appendGroup 4 = .ok (.istore 5, 2) := by decide +kernel
theorem dX6_appendGroup_6 : decode cX6_appendGroup 6 = .ok (.iload 5, 2) := by decide +kernel
theorem dX6_appendGroup_8 : decode cX6_appendGroup 8 = .ok (.iload_n 3, 1) := by decide +kernel
theorem dX6_appendGroup_9 : decode cX6_appendGroup 9 = .ok (.if_icmp .ge 43, 3) := by decide +kernel
theorem dX6_appendGroup_12 : decode cX6_appendGroup 12 = .ok (.iload 4, 2) := by decide +kernel
theorem dX6_appendGroup_14 : decode cX6_appendGroup 14 = .ok (.ifCond .gt 13, 3) := by decide +kernel
theorem dX6_appendGroup_17 : decode cX6_appendGroup 17 = .ok (.aload_n 0, 1) := by decide +kernel
theorem dX6_appendGroup_18 : decode cX6_appendGroup 18 = .ok (.getfield 20, 3) := by decide +kernel
theorem dX6_appendGroup_21 : decode cX6_appendGroup 21 = .ok (.invokevirtual 52, 3) := by decide +kernel
theorem dX6_appendGroup_24 : decode cX6_appendGroup 24 = .ok (.ifCond .ne 28, 3) := by decide +kernel
theorem dX6_appendGroup_27 : decode cX6_appendGroup 27 = .ok (.aload_n 0, 1) := by decide +kernel
theorem dX6_appendGroup_28 : decode cX6_appendGroup 28 = .ok (.ldc 71, 2) := by decide +kernel
theorem dX6_appendGroup_30 : decode cX6_appendGroup 30 = .ok (.iload 4, 2) := by decide +kernel
theorem dX6_appendGroup_32 : decode cX6_appendGroup 32 = .ok (.iload_n 2, 1) := by decide +kernel
theorem dX6_appendGroup_33 : decode cX6_appendGroup 33 = .ok (.irem, 1) := by decide +kernel
theorem dX6_appendGroup_34 : decode cX6_appendGroup 34 = .ok (.invokevirtual 73, 3) := by decide +kernel
theorem dX6_appendGroup_37 : decode cX6_appendGroup 37 = .ok (.invokevirtual 34, 3) := by decide +kernel
theorem dX6_appendGroup_40 : decode cX6_appendGroup 40 = .ok (.iload 4, 2) := by decide +kernel
theorem dX6_appendGroup_42 : decode cX6_appendGroup 42 = .ok (.iload_n 2, 1) := by decide +kernel
theorem dX6_appendGroup_43 : decode cX6_appendGroup 43 = .ok (.idiv, 1) := by decide +kernel
theorem dX6_appendGroup_44 : decode cX6_appendGroup 44 = .ok (.istore 4, 2) := by decide +kernel
theorem dX6_appendGroup_46 : decode cX6_appendGroup 46 = .ok (.iinc 5 1, 3) := by decide +kernel
theorem dX6_appendGroup_49 : decode cX6_appendGroup 49 = .ok (.goto (-43), 3) := by decide +kernel
theorem dX6_appendGroup_52 : decode cX6_appendGroup 52 = .ok (.return_, 1) := by decide +kernel
theorem dX6_turn_0 : decode cX6_turn 0 = .ok (.iload_n 1, 1) := by decide +kernel
theorem dX6_turn_1 : decode cX6_turn 1 = .ok (.istore_n 2, 1) := by decide +kernel
theorem dX6_turn_2 : decode cX6_turn 2 = .ok (.aload_n 0, 1) := by decide +kernel
theorem dX6_turn_3 : decode cX6_turn 3 = .ok (.getfield 24, 3) := by decide +kernel
theorem dX6_turn_6 : decode cX6_turn 6 = .ok (.iconst 1, 1) := by decide +kernel
theorem dX6_turn_7 : decode cX6_turn 7 = .ok (.isub, 1) := by decide +kernel
theorem dX6_turn_8 : decode cX6_turn 8 = .ok (.istore_n 3, 1) := by decide +kernel
theorem dX6_turn_9 : decode cX6_turn 9 = .ok (.iload_n 2, 1) := by decide +kernel
theorem dX6_turn_10 : decode cX6_turn 10 = .ok (.iload_n 3, 1) := by decide +kernel
theorem dX6_turn_11 : decode cX6_turn 11 = .ok (.if_icmp .ge 40, 3) := by decide +kernel
theorem dX6_turn_14 : decode cX6_turn 14 = .ok (.aload_n 0, 1) := by decide +kernel
theorem dX6_turn_15 : decode cX6_turn 15 = .ok (.getfield 9, 3) := by decide +kernel
theorem dX6_turn_18 : decode cX6_turn 18 = .ok (.iload_n 2, 1) := by decide +kernel
theorem dX6_turn_19 : decode cX6_turn 19 = .ok (.caload, 1) := by decide +kernel
theorem dX6_turn_20 : decode cX6_turn 20 = .ok (.istore 4, 2) := by decide +kernel
theorem dX6_turn_22 : decode cX6_turn 22 = .ok (.aload_n 0, 1) := by decide +kernel
theorem dX6_turn_23 : decode cX6_turn 23 = .ok (.getfield 9, 3) := by decide +kernel
theorem dX6_turn_26 : decode cX6_turn 26 = .ok (.iload_n 2, 1) := by decide +kernel
theorem dX6_turn_27 : decode cX6_turn 27 = .ok (.aload_n 0, 1) := by decide +kernel
theorem dX6_turn_28 : decode cX6_turn 28 = .ok (.getfield 9, 3) := by decide +kernel
theorem dX6_turn_31 : decode cX6_turn 31 = .ok (.iload_n 3, 1) := by decide +kernel
theorem dX6_turn_32 : decode cX6_turn 32 = .ok (.caload, 1) := by decide +kernel
theorem dX6_turn_33 : decode cX6_turn 33 = .ok (.castore, 1) := by decide +kernel
theorem dX6_turn_34 : decode cX6_turn 34 = .ok (.aload_n 0, 1) := by decide +kernel
theorem dX6_turn_35 : decode cX6_turn 35 = .ok (.getfield 9, 3) := by decide +kernel
theorem dX6_turn_38 : decode cX6_turn 38 = .ok (.iload_n 3, 1) := by decide +kernel
theorem dX6_turn_39 : decode cX6_turn 39 = .ok (.iload 4, 2) := by decide +kernel
theorem dX6_turn_41 : decode cX6_turn 41 = .ok (.castore, 1) := by decide +kernel
theorem dX6_turn_42 : decode cX6_turn 42 = .ok (.iinc 2 1, 3) := by decide +kernel
theorem dX6_turn_45 : decode cX6_turn 45 = .ok (.iinc 3 (-1), 3) := by decide +kernel
theorem dX6_turn_48 : decode cX6_turn 48 = .ok (.goto (-39), 3) := by decide +kernel
theorem dX6_turn_51 : decode cX6_turn 51 = .ok (.return_, 1) := by decide +kernel
theorem dX7_init_0 : decode cX7_init 0 = .ok (.aload_n 0, 1) := by decide +kernel
theorem dX7_init_1 : decode cX7_init 1 = .ok (.invokespecial 3, 3) := by decide +kernel
theorem dX7_init_4 : decode cX7_init 4 = .ok (.aload_n 0, 1) := by decide +kernel
theorem dX7_init_5 : decode cX7_init 5 = .ok (.bipush 16, 2) := by decide +kernel
theorem dX7_init_7 : decode cX7_init 7 = .ok (.anewarray 9, 3) := by decide +kernel
theorem dX7_init_10 : decode cX7_init 10 = .ok (.putfield 11, 3) := by decide +kernel
theorem dX7_init_13 : decode cX7_init 13 = .ok (.aload_n 0, 1) := by decide +kernel
theorem dX7_init_14 : decode cX7_init 14 = .ok (.new 15, 3) := by decide +kernel
theorem dX7_init_17 : decode cX7_init 17 = .ok (.dup, 1) := by decide +kernel
theorem dX7_init_18 : decode cX7_init 18 = .ok (.invokespecial 17, 3) := by decide +kernel
theorem dX7_init_21 : decode cX7_init 21 = .ok (.putfield 18, 3) := by decide +kernel
theorem dX7_init_24 : decode cX7_init 24 = .ok (.aload_n 0, 1) := by decide +kernel
theorem dX7_init_25 : decode cX7_init 25 = .ok (.new 22, 3) := by decide +kernel
theorem dX7_init_28 : decode cX7_init 28 = .ok (.dup, 1) := by decide +kernel
theorem dX7_init_29 : decode cX7_init 29 = .ok (.invokespecial 24, 3) := by decide +kernel
theorem dX7_init_32 : decode cX7_init 32 = .ok (.putfield 25, 3) := by decide +kernel
theorem dX7_init_35 : decode cX7_init 35 = .ok (.aload_n 0, 1) := by decide +kernel
theorem dX7_init_36 : decode cX7_init 36 = .ok (.new 29, 3) := by decide +kernel
theorem dX7_init_39 : decode cX7_init 39 = .ok (.dup, 1) := by decide +kernel
theorem dX7_init_40 : decode cX7_init 40 = .ok (.invokespecial 31, 3) := by decide +kernel
theorem dX7_init_43 : decode cX7_init 43 = .ok (.putfield 32, 3) := by decide +kernel
theorem dX7_init_46 : decode cX7_init 46 = .ok (.iconst 0, 1) := by decide +kernel
theorem dX7_init_47 : decode cX7_init 47 = .ok (.istore_n 1, 1) := by decide +kernel
theorem dX7_init_48 : decode cX7_init 48 = .ok (.iload_n 1, 1) := by decide +kernel
theorem dX7_init_49 : decode cX7_init 49 = .ok (.bipush 16, 2) := by decide +kernel
theorem dX7_init_51 : decode cX7_init 51 = .ok (.if_icmp .ge 24, 3) := by decide +kernel
theorem dX7_init_54 : decode cX7_init 54 = .ok (.aload_n 0, 1) := by decide +kernel
theorem dX7_init_55 : decode cX7_init 55 = .ok (.getfield 11, 3) := by decide +kernel
theorem dX7_init_58 : decode cX7_init 58 = .ok (.iload_n 1, 1) := by decide +kernel
theorem dX7_init_59 : decode cX7_init 59 = .ok (.new 9, 3) := by decide +kernel
theorem dX7_init_62 : decode cX7_init 62 = .ok (.dup, 1) := by decide +kernel
theorem dX7_init_63 : decode cX7_init 63 = .ok (.bipush 67, 2) := by decide +kernel
theorem dX7_init_65 : decode cX7_init 65 = .ok (.invokespecial 36, 3) := by decide +kernel
theorem dX7_init_68 : decode cX7_init 68 = .ok (.aastore, 1) := by decide +kernel
theorem dX7_init_69 : decode cX7_init 69 = .ok (.iinc 1 1, 3) := by decide +kernel
theorem dX7_init_72 : decode cX7_init 72 = .ok (.goto (-24), 3) := by decide +kernel
theorem dX7_init_75 : decode cX7_init 75 = .ok (.return_, 1) := by decide +kernel
theorem dX7_feed_0 : decode cX7_feed 0 = .ok (.aload_n 0, 1) := by decide +kernel
theorem dX7_feed_1 : decode cX7_feed 1 = .ok (.getfield 25, 3) := by decide +kernel
theorem dX7_feed_4 : decode cX7_feed 4 = .ok (.getfield 39, 3) := by decide +kernel
theorem dX7_feed_7 : decode cX7_feed 7 = .ok (.sipush 1380, 3) := by decide +kernel
theorem dX7_feed_10 : decode cX7_feed 10 = .ok (.if_icmp .le 5, 3) := by decide +kernel
theorem dX7_feed_13 : decode cX7_feed 13 = .ok (.iconst 0, 1) := by decide +kernel
theorem dX7_feed_14 : decode cX7_feed 14 = .ok (.ireturn, 1) := by decide +kernel
theorem dX7_feed_15 : decode cX7_feed 15 = .ok (.aload_n 0, 1) := by decide +kernel
theorem dX7_feed_16 : decode cX7_feed 16 = .ok (.getfield 25, 3) := by decide +kernel
theorem dX7_feed_19 : decode cX7_feed 19 = .ok (.iload_n 1, 1) := by decide +kernel
theorem dX7_feed_20 : decode cX7_feed 20 = .ok (.invokevirtual 43, 3) := by decide +kernel
theorem dX7_feed_23 : decode cX7_feed 23 = .ok (.aload_n 0, 1) := by decide +kernel
theorem dX7_feed_24 : decode cX7_feed 24 = .ok (.getfield 25, 3) := by decide +kernel
theorem dX7_feed_27 : decode cX7_feed 27 = .ok (.iload_n 2, 1) := by decide +kernel
theorem dX7_feed_28 : decode cX7_feed 28 = .ok (.invokevirtual 43, 3) := by decide +kernel
theorem dX7_feed_31 : decode cX7_feed 31 = .ok (.aload_n 0, 1) := by decide +kernel
theorem dX7_feed_32 : decode cX7_feed 32 = .ok (.getfield 25, 3) := by decide +kernel
theorem dX7_feed_35 : decode cX7_feed 35 = .ok (.iload_n 3, 1) := by decide +kernel
theorem dX7_feed_36 : decode cX7_feed 36 = .ok (.invokevirtual 43, 3) := by decide +kernel
theorem dX7_feed_39 : decode cX7_feed 39 = .ok (.aload_n 0, 1) := by decide +kernel
theorem dX7_feed_40 : decode cX7_feed 40 = .ok (.getfield 25, 3) := by decide +kernel
theorem dX7_feed_43 : decode cX7_feed 43 = .ok (.iload 4, 2) := by decide +kernel
theorem dX7_feed_45 : decode cX7_feed 45 = .ok (.invokevirtual 43, 3) := by decide +kernel
theorem dX7_feed_48 : decode cX7_feed 48 = .ok (.aload_n 0, 1) := by decide +kernel
theorem dX7_feed_49 : decode cX7_feed 49 = .ok (.getfield 25, 3) := by decide +kernel
theorem dX7_feed_52 : decode cX7_feed 52 = .ok (.iload 5, 2) := by decide +kernel
theorem dX7_feed_54 : decode cX7_feed 54 = .ok (.invokevirtual 43, 3) := by decide +kernel
theorem dX7_feed_57 : decode cX7_feed 57 = .ok (.iconst 1, 1) := by decide +kernel
theorem dX7_feed_58 : decode cX7_feed 58 = .ok (.ireturn, 1) := by decide +kernel
theorem dX7_end_0 : decode cX7_end 0 = .ok (.iload_n 1, 1) := by decide +kernel
theorem dX7_end_1 : decode cX7_end 1 = .ok (.ifCond .lt 14, 3) := by decide +kernel
theorem dX7_end_4 : decode cX7_end 4 = .ok (.iload_n 1, 1) := by decide +kernel
theorem dX7_end_5 : decode cX7_end 5 = .ok (.aload_n 0, 1) := by decide +kernel
theorem dX7_end_6 : decode cX7_end 6 = .ok (.getfield 25, 3) := by decide +kernel
theorem dX7_end_9 : decode cX7_end 9 = .ok (.getfield 39, 3) := by decide +kernel
theorem dX7_end_12 : decode cX7_end 12 = .ok (.if_icmp .le 5, 3) := by decide +kernel
theorem dX7_end_15 : decode cX7_end 15 = .ok (.iconst 0, 1) := by decide +kernel
theorem dX7_end_16 : decode cX7_end 16 = .ok (.ireturn, 1) := by decide +kernel
theorem dX7_end_17 : decode cX7_end 17 = .ok (.aload_n 0, 1) := by decide +kernel
theorem dX7_end_18 : decode cX7_end 18 = .ok (.getfield 25, 3) := by decide +kernel
theorem dX7_end_21 : decode cX7_end 21 = .ok (.iload_n 1, 1) := by decide +kernel
theorem dX7_end_22 : decode cX7_end 22 = .ok (.putfield 39, 3) := by decide +kernel
theorem dX7_end_25 : decode cX7_end 25 = .ok (.iconst 1, 1) := by decide +kernel
theorem dX7_end_26 : decode cX7_end 26 = .ok (.ireturn, 1) := by decide +kernel
theorem dX7_read_0 : decode cX7_read 0 = .ok (.aload_n 0, 1) := by decide +kernel
theorem dX7_read_1 : decode cX7_read 1 = .ok (.getfield 25, 3) := by decide +kernel
theorem dX7_read_4 : decode cX7_read 4 = .ok (.aload_n 0, 1) := by decide +kernel
theorem dX7_read_5 : decode cX7_read 5 = .ok (.getfield 18, 3) := by decide +kernel
theorem dX7_read_8 : decode cX7_read 8 = .ok (.getfield 46, 3) := by decide +kernel
theorem dX7_read_11 : decode cX7_read 11 = .ok (.invokevirtual 50, 3) := by decide +kernel
theorem dX7_read_14 : decode cX7_read 14 = .ok (.istore_n 2, 1) := by decide +kernel
theorem dX7_read_15 : decode cX7_read 15 = .ok (.aload_n 0, 1) := by decide +kernel
theorem dX7_read_16 : decode cX7_read 16 = .ok (.getfield 25, 3) := by decide +kernel
theorem dX7_read_19 : decode cX7_read 19 = .ok (.iconst 0, 1) := by decide +kernel
theorem dX7_read_20 : decode cX7_read 20 = .ok (.putfield 39, 3) := by decide +kernel
theorem dX7_read_23 : decode cX7_read 23 = .ok (.iload_n 2, 1) := by decide +kernel
theorem dX7_read_24 : decode cX7_read 24 = .ok (.ifCond .eq 10, 3) := by decide +kernel
theorem dX7_read_27 : decode cX7_read 27 = .ok (.iload_n 1, 1) := by decide +kernel
theorem dX7_read_28 : decode cX7_read 28 = .ok (.invokestatic 54, 3) := by decide +kernel
theorem dX7_read_31 : decode cX7_read 31 = .ok (.ifCond .ne 5, 3) := by decide +kernel
theorem dX7_read_34 : decode cX7_read 34 = .ok (.iconst (-1), 1) := by decide +kernel
theorem dX7_read_35 : decode cX7_read 35 = .ok (.ireturn, 1) := by decide +kernel
theorem dX7_read_36 : decode cX7_read 36 = .ok (.aload_n 0, 1) := by decide +kernel
theorem dX7_read_37 : decode cX7_read 37 = .ok (.getfield 18, 3) := by decide +kernel
theorem dX7_read_40 : decode cX7_read 40 = .ok (.invokevirtual 58, 3) := by decide +kernel
theorem dX7_read_43 : decode cX7_read 43 = .ok (.aload_n 0, 1) := by decide +kernel
theorem dX7_read_44 : decode cX7_read 44 = .ok (.getfield 11, 3) := by decide +kernel
theorem dX7_read_47 : decode cX7_read 47 = .ok (.iload_n 1, 1) := by decide +kernel
theorem dX7_read_48 : decode cX7_read 48 = .ok (.aaload, 1) := by decide +kernel
theorem dX7_read_49 : decode cX7_read 49 = .ok (.aload_n 0, 1) := by decide +kernel
theorem dX7_read_50 : decode cX7_read 50 = .ok (.getfield 18, 3) := by decide +kernel
theorem dX7_read_53 : decode cX7_read 53 = .ok (.getfield 46, 3) := by decide +kernel
theorem dX7_read_56 : decode cX7_read 56 = .ok (.invokevirtual 61, 3) := by decide +kernel
theorem dX7_read_59 : decode cX7_read 59 = .ok (.iconst 0, 1) := by decide +kernel
theorem dX7_read_60 : decode cX7_read 60 = .ok (.ireturn, 1) := by decide +kernel
theorem dX7_set_0 : decode cX7_set 0 = .ok (.iload_n 1, 1) := by decide +kernel
theorem dX7_set_1 : decode cX7_set 1 = .ok (.invokestatic 54, 3) := by decide +kernel
theorem dX7_set_4 : decode cX7_set 4 = .ok (.ifCond .ne 5, 3) := by decide +kernel
theorem dX7_set_7 : decode cX7_set 7 = .ok (.iconst (-1), 1) := by decide +kernel
theorem dX7_set_8 : decode cX7_set 8 = .ok (.ireturn, 1) := by decide +kernel
theorem dX7_set_9 : decode cX7_set 9 = .ok (.aload_n 0, 1) := by decide +kernel
theorem dX7_set_10 : decode cX7_set 10 = .ok (.getfield 11, 3) := by decide +kernel
theorem dX7_set_13 : decode cX7_set 13 = .ok (.iload_n 1, 1) := by decide +kernel
theorem dX7_set_14 : decode cX7_set 14 = .ok (.aaload, 1) := by decide +kernel
theorem dX7_set_15 : decode cX7_set 15 = .ok (.lload_n 2, 1) := by decide +kernel
theorem dX7_set_16 : decode cX7_set 16 = .ok (.invokevirtual 65, 3) := by decide +kernel
theorem dX7_set_19 : decode cX7_set 19 = .ok (.iconst 0, 1) := by decide +kernel
theorem dX7_set_20 : decode cX7_set 20 = .ok (.ireturn, 1) := by decide +kernel
theorem dX7_reckon_0 : decode cX7_reckon 0 = .ok (.iload_n 1, 1) := by decide +kernel
theorem dX7_reckon_1 : decode cX7_reckon 1 = .ok (.invokestatic 54, 3) := by decide +kernel
theorem dX7_reckon_4 : decode cX7_reckon 4 = .ok (.ifCond .eq 17, 3) := by decide +kernel
theorem dX7_reckon_7 : decode cX7_reckon 7 = .ok (.iload_n 2, 1) := by decide +kernel
theorem dX7_reckon_8 : decode cX7_reckon 8 = .ok (.invokestatic 54, 3) := by decide +kernel
theorem dX7_reckon_11 : decode cX7_reckon 11 = .ok (.ifCond .eq 10, 3) := by decide +kernel
theorem dX7_reckon_14 : decode cX7_reckon 14 = .ok (.iload_n 3, 1) := by decide +kernel
theorem dX7_reckon_15 : decode cX7_reckon 15 = .ok (.invokestatic 54, 3) := by decide +kernel
theorem dX7_reckon_18 : decode cX7_reckon 18 = .ok (.ifCond .ne 5, 3) := by decide +kernel
theorem dX7_reckon_21 : decode cX7_reckon 21 = .ok (.iconst (-1), 1) := by decide +kernel
theorem dX7_reckon_22 : decode cX7_reckon 22 = .ok (.ireturn, 1) := by decide +kernel
theorem dX7_reckon_23 : decode cX7_reckon 23 = .ok (.aload_n 0, 1) := by decide +kernel
theorem dX7_reckon_24 : decode cX7_reckon 24 = .ok (.iload_n 1, 1) := by decide +kernel
theorem dX7_reckon_25 : decode cX7_reckon 25 = .ok (.aload_n 0, 1) := by decide +kernel
theorem dX7_reckon_26 : decode cX7_reckon 26 = .ok (.getfield 18, 3) := by decide +kernel
theorem dX7_reckon_29 : decode cX7_reckon 29 = .ok (.aload_n 0, 1) := by decide +kernel
theorem dX7_reckon_30 : decode cX7_reckon 30 = .ok (.getfield 11, 3) := by decide +kernel
theorem dX7_reckon_33 : decode cX7_reckon 33 = .ok (.iload_n 2, 1) := by decide +kernel
theorem dX7_reckon_34 : decode cX7_reckon 34 = .ok (.aaload, 1) := by decide +kernel
theorem dX7_reckon_35 : decode cX7_reckon 35 = .ok (.aload_n 0, 1) := by decide +kernel
theorem dX7_reckon_36 : decode cX7_reckon 36 = .ok (.getfield 11, 3) := by decide +kernel
theorem dX7_reckon_39 : decode cX7_reckon 39 = .ok (.iload_n 3, 1) := by decide +kernel
theorem dX7_reckon_40 : decode cX7_reckon 40 = .ok (.aaload, 1) := by decide +kernel
theorem dX7_reckon_41 : decode cX7_reckon 41 = .ok (.iload 4, 2) := by decide +kernel
theorem dX7_reckon_43 : decode cX7_reckon 43 = .ok (.invokevirtual 69, 3) := by decide +kernel
theorem dX7_reckon_46 : decode cX7_reckon 46 = .ok (.invokevirtual 73, 3) := by decide +kernel
theorem dX7_reckon_49 : decode cX7_reckon 49 = .ok (.ireturn, 1) := by decide +kernel
theorem dX7_round_0 : decode cX7_round 0 = .ok (.iload_n 1, 1) := by decide +kernel
theorem dX7_round_1 : decode cX7_round 1 = .ok (.invokestatic 54, 3) := by decide +kernel
theorem dX7_round_4 : decode cX7_round 4 = .ok (.ifCond .eq 10, 3) := by decide +kernel
theorem dX7_round_7 : decode cX7_round 7 = .ok (.iload_n 2, 1) := by decide +kernel
theorem dX7_round_8 : decode cX7_round 8 = .ok (.invokestatic 54, 3) := by decide +kernel
theorem dX7_round_11 : decode cX7_round 11 = .ok (.ifCond .ne 5, 3) := by decide +kernel
theorem dX7_round_14 : decode cX7_round 14 = .ok (.iconst (-1), 1) := by decide +kernel
theorem dX7_round_15 : decode cX7_round 15 = .ok (.ireturn, 1) := by decide +kernel
theorem dX7_round_16 : decode cX7_round 16 = .ok (.aload_n 0, 1) := by decide +kernel
theorem dX7_round_17 : decode cX7_round 17 = .ok (.iload_n 1, 1) := by decide +kernel
theorem dX7_round_18 : decode cX7_round 18 = .ok (.aload_n 0, 1) := by decide +kernel
theorem dX7_round_19 : decode cX7_round 19 = .ok (.getfield 18, 3) := by decide +kernel
theorem dX7_round_22 : decode cX7_round 22 = .ok (.aload_n 0, 1) := by decide +kernel
theorem dX7_round_23 : decode cX7_round 23 = .ok (.getfield 11, 3) := by decide +kernel
theorem dX7_round_26 : decode cX7_round 26 = .ok (.iload_n 2, 1) := by decide +kernel
theorem dX7_round_27 : decode cX7_round 27 = .ok (.aaload, 1) := by decide +kernel
theorem dX7_round_28 : decode cX7_round 28 = .ok (.iload_n 3, 1) := by decide +kernel
theorem dX7_round_29 : decode cX7_round 29 = .ok (.invokevirtual 77, 3) := by decide +kernel
theorem dX7_round_32 : decode cX7_round 32 = .ok (.invokevirtual 73, 3) := by decide +kernel
theorem dX7_round_35 : decode cX7_round 35 = .ok (.ireturn, 1) := by decide +kernel
theorem dX7_compare_0 : decode cX7_compare 0 = .ok (.iload_n 1, 1) := by decide +kernel
theorem dX7_compare_1 : decode cX7_compare 1 = .ok (.invokestatic 54, 3) := by decide +kernel
theorem dX7_compare_4 : decode cX7_compare 4 = .ok (.ifCond .eq 10, 3) := by decide +kernel
theorem dX7_compare_7 : decode cX7_compare 7 = .ok (.iload_n 2, 1) := by decide +kernel
theorem dX7_compare_8 : decode cX7_compare 8 = .ok (.invokestatic 54, 3) := by decide +kernel
theorem dX7_compare_11 : decode cX7_compare 11 = .ok (.ifCond .ne 6, 3) := by decide +kernel
theorem dX7_compare_14 : decode cX7_compare 14 = .ok (.bipush (-2), 2) := by decide +kernel
theorem dX7_compare_16 : decode cX7_compare 16 = .ok (.ireturn, 1) := by decide +kernel
theorem dX7_compare_17 : decode cX7_compare 17 = .ok (.aload_n 0, 1) := by decide +kernel
theorem dX7_compare_18 : decode cX7_compare 18 = .ok (.getfield 18, 3) := by decide +kernel
theorem dX7_compare_21 : decode cX7_compare 21 = .ok (.aload_n 0, 1) := by decide +kernel
theorem dX7_compare_22 : decode cX7_compare 22 = .ok (.getfield 11, 3) := by decide +kernel
theorem dX7_compare_25 : decode cX7_compare 25 = .ok (.iload_n 1, 1) := by decide +kernel
theorem dX7_compare_26 : decode cX7_compare 26 = .ok (.aaload, 1) := by decide +kernel
theorem dX7_compare_27 : decode cX7_compare 27 = .ok (.aload_n 0, 1) := by decide +kernel
theorem dX7_compare_28 : decode cX7_compare 28 = .ok (.getfield 11, 3) := by decide +kernel
theorem dX7_compare_31 : decode cX7_compare 31 = .ok (.iload_n 2, 1) := by decide +kernel
theorem dX7_compare_32 : decode cX7_compare 32 = .ok (.aaload, 1) := by decide +kernel
theorem dX7_compare_33 : decode cX7_compare 33 = .ok (.invokevirtual 81, 3) := by decide +kernel
theorem dX7_compare_36 : decode cX7_compare 36 = .ok (.ireturn, 1) := by decide +kernel
theorem dX7_write_0 : decode cX7_write 0 = .ok (.iload_n 1, 1) := by decide +kernel
theorem dX7_write_1 : decode cX7_write 1 = .ok (.invokestatic 54, 3) := by decide +kernel
theorem dX7_write_4 : decode cX7_write 4 = .ok (.ifCond .eq 14, 3) := by decide +kernel
theorem dX7_write_7 : decode cX7_write 7 = .ok (.iload_n 2, 1) := by decide +kernel
theorem dX7_write_8 : decode cX7_write 8 = .ok (.iconst 2, 1) := by decide +kernel
theorem dX7_write_9 : decode cX7_write 9 = .ok (.if_icmp .lt 9, 3) := by decide +kernel
theorem dX7_write_12 : decode cX7_write 12 = .ok (.iload_n 2, 1) := by decide +kernel
theorem dX7_write_13 : decode cX7_write 13 = .ok (.bipush 36, 2) := by decide +kernel
theorem dX7_write_15 : decode cX7_write 15 = .ok (.if_icmp .le 5, 3) := by decide +kernel
theorem dX7_write_18 : decode cX7_write 18 = .ok (.iconst (-1), 1) := by decide +kernel
theorem dX7_write_19 : decode cX7_write 19 = .ok (.ireturn, 1) := by decide +kernel
theorem dX7_write_20 : decode cX7_write 20 = .ok (.aload_n 0, 1) := by decide +kernel
theorem dX7_write_21 : decode cX7_write 21 = .ok (.getfield 32, 3) := by decide +kernel
theorem dX7_write_24 : decode cX7_write 24 = .ok (.aload_n 0, 1) := by decide +kernel
theorem dX7_write_25 : decode cX7_write 25 = .ok (.getfield 11, 3) := by decide +kernel
theorem dX7_write_28 : decode cX7_write 28 = .ok (.iload_n 1, 1) := by decide +kernel
theorem dX7_write_29 : decode cX7_write 29 = .ok (.aaload, 1) := by decide +kernel
theorem dX7_write_30 : decode cX7_write 30 = .ok (.iload_n 2, 1) := by decide +kernel
theorem dX7_write_31 : decode cX7_write 31 = .ok (.invokevirtual 85, 3) := by decide +kernel
theorem dX7_write_34 : decode cX7_write 34 = .ok (.aload_n 0, 1) := by decide +kernel
theorem dX7_write_35 : decode cX7_write 35 = .ok (.getfield 32, 3) := by decide +kernel
theorem dX7_write_38 : decode cX7_write 38 = .ok (.getfield 88, 3) := by decide +kernel
theorem dX7_write_41 : decode cX7_write 41 = .ok (.ireturn, 1) := by decide +kernel
theorem dX7_textAt_0 : decode cX7_textAt 0 = .ok (.iload_n 1, 1) := by decide +kernel
theorem dX7_textAt_1 : decode cX7_textAt 1 = .ok (.ifCond .lt 14, 3) := by decide +kernel
theorem dX7_textAt_4 : decode cX7_textAt 4 = .ok (.iload_n 1, 1) := by decide +kernel
theorem dX7_textAt_5 : decode cX7_textAt 5 = .ok (.aload_n 0, 1) := by decide +kernel
theorem dX7_textAt_6 : decode cX7_textAt 6 = .ok (.getfield 32, 3) := by decide +kernel
theorem dX7_textAt_9 : decode cX7_textAt 9 = .ok (.getfield 88, 3) := by decide +kernel
theorem dX7_textAt_12 : decode cX7_textAt 12 = .ok (.if_icmp .lt 13, 3) := by decide +kernel
theorem dX7_textAt_15 : decode cX7_textAt 15 = .ok (.new 89, 3) := by decide +kernel
theorem dX7_textAt_18 : decode cX7_textAt 18 = .ok (.dup, 1) := by decide +kernel
theorem dX7_textAt_19 : decode cX7_textAt 19 = .ok (.ldc 91, 2) := by decide +kernel
theorem dX7_textAt_21 : decode cX7_textAt 21 = .ok (.invokespecial 93, 3) := by decide +kernel
theorem dX7_textAt_24 : decode cX7_textAt 24 = .ok (.athrow, 1) := by decide +kernel
theorem dX7_textAt_25 : decode cX7_textAt 25 = .ok (.aload_n 0, 1) := by decide +kernel
theorem dX7_textAt_26 : decode cX7_textAt 26 = .ok (.getfield 32, 3) := by decide +kernel
theorem dX7_textAt_29 : decode cX7_textAt 29 = .ok (.getfield 96, 3) := by decide +kernel
theorem dX7_textAt_32 : decode cX7_textAt 32 = .ok (.iload_n 1, 1) := by decide +kernel
theorem dX7_textAt_33 : decode cX7_textAt 33 = .ok (.caload, 1) := by decide +kernel
theorem dX7_textAt_34 : decode cX7_textAt 34 = .ok (.ireturn, 1) := by decide +kernel
theorem dX7_bits_0 : decode cX7_bits 0 = .ok (.iload_n 1, 1) := by decide +kernel
theorem dX7_bits_1 : decode cX7_bits 1 = .ok (.invokestatic 54, 3) := by decide +kernel
theorem dX7_bits_4 : decode cX7_bits 4 = .ok (.ifCond .eq 18, 3) := by decide +kernel
theorem dX7_bits_7 : decode cX7_bits 7 = .ok (.aload_n 0, 1) := by decide +kernel
theorem dX7_bits_8 : decode cX7_bits 8 = .ok (.getfield 11, 3) := by decide +kernel
theorem dX7_bits_11 : decode cX7_bits 11 = .ok (.iload_n 1, 1) := by decide +kernel
theorem dX7_bits_12 : decode cX7_bits 12 = .ok (.aaload, 1) := by decide +kernel
theorem dX7_bits_13 : decode cX7_bits 13 = .ok (.getfield 100, 3) := by decide +kernel
theorem dX7_bits_16 : decode cX7_bits 16 = .ok (.invokevirtual 104, 3) := by decide +kernel
theorem dX7_bits_19 : decode cX7_bits 19 = .ok (.goto 4, 3) := by decide +kernel
theorem dX7_bits_22 : decode cX7_bits 22 = .ok (.iconst (-1), 1) := by decide +kernel
theorem dX7_bits_23 : decode cX7_bits 23 = .ok (.ireturn, 1) := by decide +kernel
theorem dX7_isInteger_0 : decode cX7_isInteger 0 = .ok (.iload_n 1, 1) := by decide +kernel
theorem dX7_isInteger_1 : decode cX7_isInteger 1 = .ok (.invokestatic 54, 3) := by decide +kernel
theorem dX7_isInteger_4 : decode cX7_isInteger 4 = .ok (.ifCond .eq 19, 3) := by decide +kernel
theorem dX7_isInteger_7 : decode cX7_isInteger 7 = .ok (.aload_n 0, 1) := by decide +kernel
theorem dX7_isInteger_8 : decode cX7_isInteger 8 = .ok (.getfield 11, 3) := by decide +kernel
theorem dX7_isInteger_11 : decode cX7_isInteger 11 = .ok (.iload_n 1, 1) := by decide +kernel
theorem dX7_isInteger_12 : decode cX7_isInteger 12 = .ok (.aaload, 1) := by decide +kernel
theorem dX7_isInteger_13 : decode cX7_isInteger 13 = .ok (.invokevirtual 110, 3) := by decide +kernel
theorem dX7_isInteger_16 : decode cX7_isInteger 16 = .ok (.ifCond .eq 7, 3) := by decide +kernel
theorem dX7_isInteger_19 : decode cX7_isInteger 19 = .ok (.iconst 1, 1) := by decide +kernel
theorem dX7_isInteger_20 : decode cX7_isInteger 20 = .ok (.goto 4, 3) := by decide +kernel
theorem dX7_isInteger_23 : decode cX7_isInteger 23 = .ok (.iconst 0, 1) := by decide +kernel
theorem dX7_isInteger_24 : decode cX7_isInteger 24 = .ok (.ireturn, 1) := by decide +kernel
theorem dX7_isPlace_0 : decode cX7_isPlace 0 = .ok (.iload_n 0, 1) := by decide +kernel
theorem dX7_isPlace_1 : decode cX7_isPlace 1 = .ok (.ifCond .lt 13, 3) := by decide +kernel
theorem dX7_isPlace_4 : decode cX7_isPlace 4 = .ok (.iload_n 0, 1) := by decide +kernel
theorem dX7_isPlace_5 : decode cX7_isPlace 5 = .ok (.bipush 16, 2) := by decide +kernel
theorem dX7_isPlace_7 : decode cX7_isPlace 7 = .ok (.if_icmp .ge 7, 3) := by decide +kernel
theorem dX7_isPlace_10 : decode cX7_isPlace 10 = .ok (.iconst 1, 1) := by decide +kernel
theorem dX7_isPlace_11 : decode cX7_isPlace 11 = .ok (.goto 4, 3) := by decide +kernel
theorem dX7_isPlace_14 : decode cX7_isPlace 14 = .ok (.iconst 0, 1) := by decide +kernel
theorem dX7_isPlace_15 : decode cX7_isPlace 15 = .ok (.ireturn, 1) := by decide +kernel
theorem dX7_keep_0 : decode cX7_keep 0 = .ok (.iload_n 2, 1) := by decide +kernel
theorem dX7_keep_1 : decode cX7_keep 1 = .ok (.ifCond .ne 19, 3) := by decide +kernel
theorem dX7_keep_4 : decode cX7_keep 4 = .ok (.aload_n 0, 1) := by decide +kernel
theorem dX7_keep_5 : decode cX7_keep 5 = .ok (.getfield 11, 3) := by decide +kernel
theorem dX7_keep_8 : decode cX7_keep 8 = .ok (.iload_n 1, 1) := by decide +kernel
theorem dX7_keep_9 : decode cX7_keep 9 = .ok (.aaload, 1) := by decide +kernel
theorem dX7_keep_10 : decode cX7_keep 10 = .ok (.aload_n 0, 1) := by decide +kernel
theorem dX7_keep_11 : decode cX7_keep 11 = .ok (.getfield 18, 3) := by decide +kernel
theorem dX7_keep_14 : decode cX7_keep 14 = .ok (.getfield 46, 3) := by decide +kernel
theorem dX7_keep_17 : decode cX7_keep 17 = .ok (.invokevirtual 61, 3) := by decide +kernel
theorem dX7_keep_20 : decode cX7_keep 20 = .ok (.iload_n 2, 1) := by decide +kernel
theorem dX7_keep_21 : decode cX7_keep 21 = .ok (.ireturn, 1) := by decide +kernel
theorem dJ0_charAt_5068e_0 : decode cJ0_charAt_5068e 0 = .ok (.aload_n 0, 1) := by decide +kernel
theorem dJ0_charAt_5068e_1 : decode cJ0_charAt_5068e 1 = .ok (.invokevirtual 492, 3) := by decide +kernel
theorem dJ0_charAt_5068e_4 : decode cJ0_charAt_5068e 4 = .ok (.ifCond .eq 12, 3) := by decide +kernel
theorem dJ0_charAt_5068e_7 : decode cJ0_charAt_5068e 7 = .ok (.aload_n 0, 1) := by decide +kernel
theorem dJ0_charAt_5068e_8 : decode cJ0_charAt_5068e 8 = .ok (.getfield 9, 3) := by decide +kernel
theorem dJ0_charAt_5068e_11 : decode cJ0_charAt_5068e 11 = .ok (.iload_n 1, 1) := by decide +kernel
theorem dJ0_charAt_5068e_12 : decode cJ0_charAt_5068e 12 = .ok (.invokestatic 495, 3) := by decide +kernel
theorem dJ0_charAt_5068e_15 : decode cJ0_charAt_5068e 15 = .ok (.ireturn, 1) := by decide +kernel
theorem dJ0_charAt_5068e_16 : decode cJ0_charAt_5068e 16 = .ok (.aload_n 0, 1) := by decide +kernel
theorem dJ0_charAt_5068e_17 : decode cJ0_charAt_5068e 17 = .ok (.getfield 9, 3) := by decide +kernel
theorem dJ0_charAt_5068e_20 : decode cJ0_charAt_5068e 20 = .ok (.iload_n 1, 1) := by decide +kernel
theorem dJ0_charAt_5068e_21 : decode cJ0_charAt_5068e 21 = .ok (.invokestatic 498, 3) := by decide +kernel
theorem dJ0_charAt_5068e_24 : decode cJ0_charAt_5068e 24 = .ok (.ireturn, 1) := by decide +kernel
theorem dJ0_isLatin1_aae02_0 : decode cJ0_isLatin1_aae02 0 = .ok (.getstatic 38, 3) := by decide +kernel
theorem dJ0_isLatin1_aae02_3 : decode cJ0_isLatin1_aae02 3 = .ok (.ifCond .eq 14, 3) := by decide +kernel
theorem dJ0_isLatin1_aae02_6 : decode cJ0_isLatin1_aae02 6 = .ok (.aload_n 0, 1) := by decide +kernel
theorem dJ0_isLatin1_aae02_7 : decode cJ0_isLatin1_aae02 7 = .ok (.getfield 15, 3) := by decide +kernel
theorem dJ0_isLatin1_aae02_10 : decode cJ0_isLatin1_aae02 10 = .ok (.ifCond .ne 7, 3) := by decide +kernel
theorem dJ0_isLatin1_aae02_13 : decode cJ0_isLatin1_aae02 13 = .ok (.iconst 1, 1) := by decide +kernel
theorem dJ0_isLatin1_aae02_14 : decode cJ0_isLatin1_aae02 14 = .ok (.goto 4, 3) := by decide +kernel
theorem dJ0_isLatin1_aae02_17 : decode cJ0_isLatin1_aae02 17 = .ok (.iconst 0, 1) := by decide +kernel
theorem dJ0_isLatin1_aae02_18 : decode cJ0_isLatin1_aae02 18 = .ok (.ireturn, 1) := by decide +kernel
theorem dJ0_checkIndex_df160_0 : decode cJ0_checkIndex_df160 0 = .ok (.iload_n 0, 1) := by decide +kernel
theorem dJ0_checkIndex_df160_1 : decode cJ0_checkIndex_df160 1 = .ok (.iload_n 1, 1) := by decide +kernel
theorem dJ0_checkIndex_df160_2 : decode cJ0_checkIndex_df160 2 = .ok (.getstatic 1053, 3) := by decide +kernel
theorem dJ0_checkIndex_df160_5 : decode cJ0_checkIndex_df160 5 = .ok (.invokestatic 1059, 3) := by decide +kernel
theorem dJ0_checkIndex_df160_8 : decode cJ0_checkIndex_df160 8 = .ok (.pop, 1) := by decide +kernel
theorem dJ0_checkIndex_df160_9 : decode cJ0_checkIndex_df160 9 = .ok (.return_, 1) := by decide +kernel
theorem dJ1_charAt_3b067_0 : decode cJ1_charAt_3b067 0 = .ok (.iload_n 1, 1) := by decide +kernel
theorem dJ1_charAt_3b067_1 : decode cJ1_charAt_3b067 1 = .ok (.aload_n 0, 1) := by decide +kernel
theorem dJ1_charAt_3b067_2 : decode cJ1_charAt_3b067 2 = .ok (.arraylength, 1) := by decide +kernel
theorem dJ1_charAt_3b067_3 : decode cJ1_charAt_3b067 3 = .ok (.invokestatic 9, 3) := by decide +kernel
theorem dJ1_charAt_3b067_6 : decode cJ1_charAt_3b067 6 = .ok (.aload_n 0, 1) := by decide +kernel
theorem dJ1_charAt_3b067_7 : decode cJ1_charAt_3b067 7 = .ok (.iload_n 1, 1) := by decide +kernel
theorem dJ1_charAt_3b067_8 : decode cJ1_charAt_3b067 8 = .ok (.baload, 1) := by decide +kernel
theorem dJ1_charAt_3b067_9 : decode cJ1_charAt_3b067 9 = .ok (.sipush 255, 3) := by decide +kernel
theorem dJ1_charAt_3b067_12 : decode cJ1_charAt_3b067 12 = .ok (.iand, 1) := by decide +kernel
theorem dJ1_charAt_3b067_13 : decode cJ1_charAt_3b067 13 = .ok (.i2c, 1) := by decide +kernel
theorem dJ1_charAt_3b067_14 : decode cJ1_charAt_3b067 14 = .ok (.ireturn, 1) := by decide +kernel
theorem dJ2_getChar_3b067_0 : decode cJ2_getChar_3b067 0 = .ok (.getstatic 44, 3) := by decide +kernel
theorem dJ2_getChar_3b067_3 : decode cJ2_getChar_3b067 3 = .ok (.ifCond .ne 25, 3) := by decide +kernel
theorem dJ2_getChar_3b067_6 : decode cJ2_getChar_3b067 6 = .ok (.iload_n 1, 1) := by decide +kernel
theorem dJ2_getChar_3b067_7 : decode cJ2_getChar_3b067 7 = .ok (.ifCond .lt 11, 3) := by decide +kernel
theorem dJ2_getChar_3b067_10 : decode cJ2_getChar_3b067 10 = .ok (.iload_n 1, 1) := by decide +kernel
theorem dJ2_getChar_3b067_11 : decode cJ2_getChar_3b067 11 = .ok (.aload_n 0, 1) := by decide +kernel
theorem dJ2_getChar_3b067_12 : decode cJ2_getChar_3b067 12 = .ok (.invokestatic 48, 3) := by decide +kernel
theorem dJ2_getChar_3b067_15 : decode cJ2_getChar_3b067 15 = .ok (.if_icmp .lt 13, 3) := by decide +kernel
theorem dJ2_getChar_3b067_18 : decode cJ2_getChar_3b067 18 = .ok (.new 52, 3) := by decide +kernel
theorem dJ2_getChar_3b067_21 : decode cJ2_getChar_3b067 21 = .ok (.dup, 1) := by decide +kernel
theorem dJ2_getChar_3b067_22 : decode cJ2_getChar_3b067 22 = .ok (.ldc 54, 2) := by decide +kernel
theorem dJ2_getChar_3b067_24 : decode cJ2_getChar_3b067 24 = .ok (.invokespecial 56, 3) := by decide +kernel
theorem dJ2_getChar_3b067_27 : decode cJ2_getChar_3b067 27 = .ok (.athrow, 1) := by decide +kernel
theorem dJ2_getChar_3b067_28 : decode cJ2_getChar_3b067 28 = .ok (.iload_n 1, 1) := by decide +kernel
theorem dJ2_getChar_3b067_29 : decode cJ2_getChar_3b067 29 = .ok (.iconst 1, 1) := by decide +kernel
theorem dJ2_getChar_3b067_30 : decode cJ2_getChar_3b067 30 = .ok (.ishl, 1) := by decide +kernel
theorem dJ2_getChar_3b067_31 : decode cJ2_getChar_3b067 31 = .ok (.istore_n 1, 1) := by decide +kernel
theorem dJ2_getChar_3b067_32 : decode cJ2_getChar_3b067 32 = .ok (.aload_n 0, 1) := by decide +kernel
theorem dJ2_getChar_3b067_33 : decode cJ2_getChar_3b067 33 = .ok (.iload_n 1, 1) := by decide +kernel
theorem dJ2_getChar_3b067_34 : decode cJ2_getChar_3b067 34 = .ok (.iinc 1 1, 3) := by decide +kernel
theorem dJ2_getChar_3b067_37 : decode cJ2_getChar_3b067 37 = .ok (.baload, 1) := by decide +kernel
theorem dJ2_getChar_3b067_38 : decode cJ2_getChar_3b067 38 = .ok (.sipush 255, 3) := by decide +kernel
theorem dJ2_getChar_3b067_41 : decode cJ2_getChar_3b067 41 = .ok (.iand, 1) := by decide +kernel
theorem dJ2_getChar_3b067_42 : decode cJ2_getChar_3b067 42 = .ok (.getstatic 59, 3) := by decide +kernel
theorem dJ2_getChar_3b067_45 : decode cJ2_getChar_3b067 45 = .ok (.ishl, 1) := by decide +kernel
theorem dJ2_getChar_3b067_46 : decode cJ2_getChar_3b067 46 = .ok (.aload_n 0, 1) := by decide +kernel
theorem dJ2_getChar_3b067_47 : decode cJ2_getChar_3b067 47 = .ok (.iload_n 1, 1) := by decide +kernel
theorem dJ2_getChar_3b067_48 : decode cJ2_getChar_3b067 48 = .ok (.baload, 1) := by decide +kernel
theorem dJ2_getChar_3b067_49 : decode cJ2_getChar_3b067 49 = .ok (.sipush 255, 3) := by decide +kernel
theorem dJ2_getChar_3b067_52 : decode cJ2_getChar_3b067 52 = .ok (.iand, 1) := by decide +kernel
theorem dJ2_getChar_3b067_53 : decode cJ2_getChar_3b067 53 = .ok (.getstatic 63, 3) := by decide +kernel
theorem dJ2_getChar_3b067_56 : decode cJ2_getChar_3b067 56 = .ok (.ishl, 1) := by decide +kernel
theorem dJ2_getChar_3b067_57 : decode cJ2_getChar_3b067 57 = .ok (.ior, 1) := by decide +kernel
theorem dJ2_getChar_3b067_58 : decode cJ2_getChar_3b067 58 = .ok (.i2c, 1) := by decide +kernel
theorem dJ2_getChar_3b067_59 : decode cJ2_getChar_3b067 59 = .ok (.ireturn, 1) := by decide +kernel
theorem dJ2_length_9d52b_0 : decode cJ2_length_9d52b 0 = .ok (.aload_n 0, 1) := by decide +kernel
theorem dJ2_length_9d52b_1 : decode cJ2_length_9d52b 1 = .ok (.arraylength, 1) := by decide +kernel
theorem dJ2_length_9d52b_2 : decode cJ2_length_9d52b 2 = .ok (.iconst 1, 1) := by decide +kernel
theorem dJ2_length_9d52b_3 : decode cJ2_length_9d52b 3 = .ok (.ishr, 1) := by decide +kernel
theorem dJ2_length_9d52b_4 : decode cJ2_length_9d52b 4 = .ok (.ireturn, 1) := by decide +kernel
theorem dJ2_charAt_3b067_0 : decode cJ2_charAt_3b067 0 = .ok (.iload_n 1, 1) := by decide +kernel
theorem dJ2_charAt_3b067_1 : decode cJ2_charAt_3b067 1 = .ok (.aload_n 0, 1) := by decide +kernel
theorem dJ2_charAt_3b067_2 : decode cJ2_charAt_3b067 2 = .ok (.invokestatic 67, 3) := by decide +kernel
theorem dJ2_charAt_3b067_5 : decode cJ2_charAt_3b067 5 = .ok (.aload_n 0, 1) := by decide +kernel
theorem dJ2_charAt_3b067_6 : decode cJ2_charAt_3b067 6 = .ok (.iload_n 1, 1) := by decide +kernel
theorem dJ2_charAt_3b067_7 : decode cJ2_charAt_3b067 7 = .ok (.invokestatic 71, 3) := by decide +kernel
theorem dJ2_charAt_3b067_10 : decode cJ2_charAt_3b067 10 = .ok (.ireturn, 1) := by decide +kernel
theorem dJ2_checkIndex_2214a_0 : decode cJ2_checkIndex_2214a 0 = .ok (.iload_n 0, 1) := by decide +kernel
theorem dJ2_checkIndex_2214a_1 : decode cJ2_checkIndex_2214a 1 = .ok (.aload_n 1, 1) := by decide +kernel
theorem dJ2_checkIndex_2214a_2 : decode cJ2_checkIndex_2214a 2 = .ok (.invokestatic 48, 3) := by decide +kernel
theorem dJ2_checkIndex_2214a_5 : decode cJ2_checkIndex_2214a 5 = .ok (.invokestatic 414, 3) := by decide +kernel
theorem dJ2_checkIndex_2214a_8 : decode cJ2_checkIndex_2214a 8 = .ok (.return_, 1) := by decide +kernel
theorem dJ3_checkIndex_8e157_0 : decode cJ3_checkIndex_8e157 0 = .ok (.iload_n 0, 1) := by decide +kernel
theorem dJ3_checkIndex_8e157_1 : decode cJ3_checkIndex_8e157 1 = .ok (.ifCond .lt 8, 3) := by decide +kernel
theorem dJ3_checkIndex_8e157_4 : decode cJ3_checkIndex_8e157 4 = .ok (.iload_n 0, 1) := by decide +kernel
theorem dJ3_checkIndex_8e157_5 : decode cJ3_checkIndex_8e157 5 = .ok (.iload_n 1, 1) := by decide +kernel
theorem dJ3_checkIndex_8e157_6 : decode cJ3_checkIndex_8e157 6 = .ok (.if_icmp .lt 10, 3) := by decide +kernel
theorem dJ3_checkIndex_8e157_9 : decode cJ3_checkIndex_8e157 9 = .ok (.aload_n 2, 1) := by decide +kernel
theorem dJ3_checkIndex_8e157_10 : decode cJ3_checkIndex_8e157 10 = .ok (.iload_n 0, 1) := by decide +kernel
theorem dJ3_checkIndex_8e157_11 : decode cJ3_checkIndex_8e157 11 = .ok (.iload_n 1, 1) := by decide +kernel
theorem dJ3_checkIndex_8e157_12 : decode cJ3_checkIndex_8e157 12 = .ok (.invokestatic 95, 3) := by decide +kernel
theorem dJ3_checkIndex_8e157_15 : decode cJ3_checkIndex_8e157 15 = .ok (.athrow, 1) := by decide +kernel
theorem dJ3_checkIndex_8e157_16 : decode cJ3_checkIndex_8e157 16 = .ok (.iload_n 0, 1) := by decide +kernel
theorem dJ3_checkIndex_8e157_17 : decode cJ3_checkIndex_8e157 17 = .ok (.ireturn, 1) := by decide +kernel
theorem dJ9_abs_067f4_0 : decode cJ9_abs_067f4 0 = .ok (.lload_n 0, 1) := by decide +kernel
theorem dJ9_abs_067f4_1 : decode cJ9_abs_067f4 1 = .ok (.lconst 0, 1) := by decide +kernel
theorem dJ9_abs_067f4_2 : decode cJ9_abs_067f4 2 = .ok (.lcmp, 1) := by decide +kernel
theorem dJ9_abs_067f4_3 : decode cJ9_abs_067f4 3 = .ok (.ifCond .ge 8, 3) := by decide +kernel
theorem dJ9_abs_067f4_6 : decode cJ9_abs_067f4 6 = .ok (.lload_n 0, 1) := by decide +kernel
theorem dJ9_abs_067f4_7 : decode cJ9_abs_067f4 7 = .ok (.lneg, 1) := by decide +kernel
theorem dJ9_abs_067f4_8 : decode cJ9_abs_067f4 8 = .ok (.goto 4, 3) := by decide +kernel
theorem dJ9_abs_067f4_11 : decode cJ9_abs_067f4 11 = .ok (.lload_n 0, 1) := by decide +kernel
theorem dJ9_abs_067f4_12 : decode cJ9_abs_067f4 12 = .ok (.lreturn, 1) := by decide +kernel
theorem dJ9_max_7cf53_0 : decode cJ9_max_7cf53 0 = .ok (.iload_n 0, 1) := by decide +kernel
theorem dJ9_max_7cf53_1 : decode cJ9_max_7cf53 1 = .ok (.iload_n 1, 1) := by decide +kernel
theorem dJ9_max_7cf53_2 : decode cJ9_max_7cf53 2 = .ok (.if_icmp .lt 7, 3) := by decide +kernel
theorem dJ9_max_7cf53_5 : decode cJ9_max_7cf53 5 = .ok (.iload_n 0, 1) := by decide +kernel
theorem dJ9_max_7cf53_6 : decode cJ9_max_7cf53 6 = .ok (.goto 4, 3) := by decide +kernel
theorem dJ9_max_7cf53_9 : decode cJ9_max_7cf53 9 = .ok (.iload_n 1, 1) := by decide +kernel
theorem dJ9_max_7cf53_10 : decode cJ9_max_7cf53 10 = .ok (.ireturn, 1) := by decide +kernel
theorem dL_textAt_0 : decode cL_textAt 0 = .ok (.aload_n 2, 1) := by decide +kernel
theorem dL_textAt_1 : decode cL_textAt 1 = .ok (.iconst 0, 1) := by decide +kernel
theorem dL_textAt_2 : decode cL_textAt 2 = .ok (.aload_n 0, 1) := by decide +kernel
theorem dL_textAt_3 : decode cL_textAt 3 = .ok (.iload_n 1, 1) := by decide +kernel
theorem dL_textAt_4 : decode cL_textAt 4 = .ok (.invokevirtual 7, 3) := by decide +kernel
theorem dL_textAt_7 : decode cL_textAt 7 = .ok (.i2l, 1) := by decide +kernel
theorem dL_textAt_8 : decode cL_textAt 8 = .ok (.lastore, 1) := by decide +kernel
theorem dL_textAt_9 : decode cL_textAt 9 = .ok (.goto 6, 3) := by decide +kernel
theorem dL_textAt_12 : decode cL_textAt 12 = .ok (.astore_n 3, 1) := by decide +kernel
theorem dL_textAt_13 : decode cL_textAt 13 = .ok (.iconst 1, 1) := by decide +kernel
theorem dL_textAt_14 : decode cL_textAt 14 = .ok (.ireturn, 1) := by decide +kernel
theorem dL_textAt_15 : decode cL_textAt 15 = .ok (.iconst 0, 1) := by decide +kernel
theorem dL_textAt_16 : decode cL_textAt 16 = .ok (.ireturn, 1) := by decide +kernel
theorem dL_law_0 : decode cL_law 0 = .ok (.new 8, 3) := by decide +kernel
theorem dL_law_3 : decode cL_law 3 = .ok (.dup, 1) := by decide +kernel
theorem dL_law_4 : decode cL_law 4 = .ok (.invokespecial 15, 3) := by decide +kernel
theorem dL_law_7 : decode cL_law 7 = .ok (.astore_n 1, 1) := by decide +kernel
theorem dL_law_8 : decode cL_law 8 = .ok (.new 16, 3) := by decide +kernel
theorem dL_law_11 : decode cL_law 11 = .ok (.dup, 1) := by decide +kernel
theorem dL_law_12 : decode cL_law 12 = .ok (.invokespecial 18, 3) := by decide +kernel
theorem dL_law_15 : decode cL_law 15 = .ok (.astore_n 2, 1) := by decide +kernel
theorem dL_law_16 : decode cL_law 16 = .ok (.iconst 1, 1) := by decide +kernel
theorem dL_law_17 : decode cL_law 17 = .ok (.newarray .long, 2) := by decide +kernel
theorem dL_law_19 : decode cL_law 19 = .ok (.astore_n 3, 1) := by decide +kernel
theorem dL_law_20 : decode cL_law 20 = .ok (.iconst 0, 1) := by decide +kernel
theorem dL_law_21 : decode cL_law 21 = .ok (.istore 4, 2) := by decide +kernel
theorem dL_law_23 : decode cL_law 23 = .ok (.iload 4, 2) := by decide +kernel
theorem dL_law_25 : decode cL_law 25 = .ok (.aload_n 0, 1) := by decide +kernel
theorem dL_law_26 : decode cL_law 26 = .ok (.arraylength, 1) := by decide +kernel
theorem dL_law_27 : decode cL_law 27 = .ok (.bipush 6, 2) := by decide +kernel
theorem dL_law_29 : decode cL_law 29 = .ok (.isub, 1) := by decide +kernel
theorem dL_law_30 : decode cL_law 30 = .ok (.if_icmp .gt 558, 3) := by decide +kernel
theorem dL_law_33 : decode cL_law 33 = .ok (.aload_n 0, 1) := by decide +kernel
theorem dL_law_34 : decode cL_law 34 = .ok (.iload 4, 2) := by decide +kernel
theorem dL_law_36 : decode cL_law 36 = .ok (.iaload, 1) := by decide +kernel
theorem dL_law_37 : decode cL_law 37 = .ok (.bipush 15, 2) := by decide +kernel
theorem dL_law_39 : decode cL_law 39 = .ok (.iand, 1) := by decide +kernel
theorem dL_law_40 : decode cL_law 40 = .ok (.tableswitch 542 0 10 #[60, 133, 158, 183, 252, 313, 362, 399, 436, 492, 517], 60) := by decide +kernel
theorem dL_law_100 : decode cL_law 100 = .ok (.aload_n 1, 1) := by decide +kernel
theorem dL_law_101 : decode cL_law 101 = .ok (.aload_n 0, 1) := by decide +kernel
theorem dL_law_102 : decode cL_law 102 = .ok (.iload 4, 2) := by decide +kernel
theorem dL_law_104 : decode cL_law 104 = .ok (.iconst 1, 1) := by decide +kernel
theorem dL_law_105 : decode cL_law 105 = .ok (.iadd, 1) := by decide +kernel
theorem dL_law_106 : decode cL_law 106 = .ok (.iaload, 1) := by decide +kernel
theorem dL_law_107 : decode cL_law 107 = .ok (.aload_n 0, 1) := by decide +kernel
theorem dL_law_108 : decode cL_law 108 = .ok (.iload 4, 2) := by decide +kernel
theorem dL_law_110 : decode cL_law 110 = .ok (.iconst 2, 1) := by decide +kernel
theorem dL_law_111 : decode cL_law 111 = .ok (.iadd, 1) := by decide +kernel
theorem dL_law_112 : decode cL_law 112 = .ok (.iaload, 1) := by decide +kernel
theorem dL_law_113 : decode cL_law 113 = .ok (.aload_n 0, 1) := by decide +kernel
theorem dL_law_114 : decode cL_law 114 = .ok (.iload 4, 2) := by decide +kernel
theorem dL_law_116 : decode cL_law 116 = .ok (.iconst 3, 1) := by decide +kernel
theorem dL_law_117 : decode cL_law 117 = .ok (.iadd, 1) := by decide +kernel
theorem dL_law_118 : decode cL_law 118 = .ok (.iaload, 1) := by decide +kernel
theorem dL_law_119 : decode cL_law 119 = .ok (.aload_n 0, 1) := by decide +kernel
theorem dL_law_120 : decode cL_law 120 = .ok (.iload 4, 2) := by decide +kernel
theorem dL_law_122 : decode cL_law 122 = .ok (.iconst 4, 1) := by decide +kernel
theorem dL_law_123 : decode cL_law 123 = .ok (.iadd, 1) := by decide +kernel
theorem dL_law_124 : decode cL_law 124 = .ok (.iaload, 1) := by decide +kernel
theorem dL_law_125 : decode cL_law 125 = .ok (.aload_n 0, 1) := by decide +kernel
theorem dL_law_126 : decode cL_law 126 = .ok (.iload 4, 2) := by decide +kernel
theorem dL_law_128 : decode cL_law 128 = .ok (.iconst 5, 1) := by decide +kernel
theorem dL_law_129 : decode cL_law 129 = .ok (.iadd, 1) := by decide +kernel
theorem dL_law_130 : decode cL_law 130 = .ok (.iaload, 1) := by decide +kernel
theorem dL_law_131 : decode cL_law 131 = .ok (.invokevirtual 19, 3) := by decide +kernel
theorem dL_law_134 : decode cL_law 134 = .ok (.aload_n 2, 1) := by decide +kernel
theorem dL_law_135 : decode cL_law 135 = .ok (.aload_n 0, 1) := by decide +kernel
theorem dL_law_136 : decode cL_law 136 = .ok (.iload 4, 2) := by decide +kernel
theorem dL_law_138 : decode cL_law 138 = .ok (.iconst 1, 1) := by decide +kernel
theorem dL_law_139 : decode cL_law 139 = .ok (.iadd, 1) := by decide +kernel
theorem dL_law_140 : decode cL_law 140 = .ok (.iaload, 1) := by decide +kernel
theorem dL_law_141 : decode cL_law 141 = .ok (.aload_n 0, 1) := by decide +kernel
theorem dL_law_142 : decode cL_law 142 = .ok (.iload 4, 2) := by decide +kernel
theorem dL_law_144 : decode cL_law 144 = .ok (.iconst 2, 1) := by decide +kernel
theorem dL_law_145 : decode cL_law 145 = .ok (.iadd, 1) := by decide +kernel
theorem dL_law_146 : decode cL_law 146 = .ok (.iaload, 1) := by decide +kernel
theorem dL_law_147 : decode cL_law 147 = .ok (.aload_n 0, 1) := by decide +kernel
theorem dL_law_148 : decode cL_law 148 = .ok (.iload 4, 2) := by decide +kernel
theorem dL_law_150 : decode cL_law 150 = .ok (.iconst 3, 1) := by decide +kernel
theorem dL_law_151 : decode cL_law 151 = .ok (.iadd, 1) := by decide +kernel
theorem dL_law_152 : decode cL_law 152 = .ok (.iaload, 1) := by decide +kernel
theorem dL_law_153 : decode cL_law 153 = .ok (.aload_n 0, 1) := by decide +kernel
theorem dL_law_154 : decode cL_law 154 = .ok (.iload 4, 2) := by decide +kernel
theorem dL_law_156 : decode cL_law 156 = .ok (.iconst 4, 1) := by decide +kernel
theorem dL_law_157 : decode cL_law 157 = .ok (.iadd, 1) := by decide +kernel
theorem dL_law_158 : decode cL_law 158 = .ok (.iaload, 1) := by decide +kernel
theorem dL_law_159 : decode cL_law 159 = .ok (.aload_n 0, 1) := by decide +kernel
theorem dL_law_160 : decode cL_law 160 = .ok (.iload 4, 2) := by decide +kernel
theorem dL_law_162 : decode cL_law 162 = .ok (.iconst 5, 1) := by decide +kernel
theorem dL_law_163 : decode cL_law 163 = .ok (.iadd, 1) := by decide +kernel
theorem dL_law_164 : decode cL_law 164 = .ok (.iaload, 1) := by decide +kernel
theorem dL_law_165 : decode cL_law 165 = .ok (.invokevirtual 23, 3) := by decide +kernel
theorem dL_law_168 : decode cL_law 168 = .ok (.if_icmp .eq 414, 3) := by decide +kernel
theorem dL_law_171 : decode cL_law 171 = .ok (.iconst 0, 1) := by decide +kernel
theorem dL_law_172 : decode cL_law 172 = .ok (.ireturn, 1) := by decide +kernel
theorem dL_law_173 : decode cL_law 173 = .ok (.aload_n 1, 1) := by decide +kernel
theorem dL_law_174 : decode cL_law 174 = .ok (.aload_n 0, 1) := by decide +kernel
theorem dL_law_175 : decode cL_law 175 = .ok (.iload 4, 2) := by decide +kernel
theorem dL_law_177 : decode cL_law 177 = .ok (.iconst 1, 1) := by decide +kernel
theorem dL_law_178 : decode cL_law 178 = .ok (.iadd, 1) := by decide +kernel
theorem dL_law_179 : decode cL_law 179 = .ok (.iaload, 1) := by decide +kernel
theorem dL_law_180 : decode cL_law 180 = .ok (.invokevirtual 24, 3) := by decide +kernel
theorem dL_law_183 : decode cL_law 183 = .ok (.aload_n 2, 1) := by decide +kernel
theorem dL_law_184 : decode cL_law 184 = .ok (.aload_n 0, 1) := by decide +kernel
theorem dL_law_185 : decode cL_law 185 = .ok (.iload 4, 2) := by decide +kernel
theorem dL_law_187 : decode cL_law 187 = .ok (.iconst 1, 1) := by decide +kernel
theorem dL_law_188 : decode cL_law 188 = .ok (.iadd, 1) := by decide +kernel
theorem dL_law_189 : decode cL_law 189 = .ok (.iaload, 1) := by decide +kernel
theorem dL_law_190 : decode cL_law 190 = .ok (.invokevirtual 28, 3) := by decide +kernel
theorem dL_law_193 : decode cL_law 193 = .ok (.if_icmp .eq 389, 3) := by decide +kernel
theorem dL_law_196 : decode cL_law 196 = .ok (.iconst 0, 1) := by decide +kernel
theorem dL_law_197 : decode cL_law 197 = .ok (.ireturn, 1) := by decide +kernel
theorem dL_law_198 : decode cL_law 198 = .ok (.aload_n 1, 1) := by decide +kernel
theorem dL_law_199 : decode cL_law 199 = .ok (.aload_n 0, 1) := by decide +kernel
theorem dL_law_200 : decode cL_law 200 = .ok (.iload 4, 2) := by decide +kernel
theorem dL_law_202 : decode cL_law 202 = .ok (.iconst 1, 1) := by decide +kernel
theorem dL_law_203 : decode cL_law 203 = .ok (.iadd, 1) := by decide +kernel
theorem dL_law_204 : decode cL_law 204 = .ok (.iaload, 1) := by decide +kernel
theorem dL_law_205 : decode cL_law 205 = .ok (.invokevirtual 29, 3) := by decide +kernel
theorem dL_law_208 : decode cL_law 208 = .ok (.aload_n 2, 1) := by decide +kernel
theorem dL_law_209 : decode cL_law 209 = .ok (.aload_n 0, 1) := by decide +kernel
theorem dL_law_210 : decode cL_law 210 = .ok (.iload 4, 2) := by decide +kernel
theorem dL_law_212 : decode cL_law 212 = .ok (.iconst 1, 1) := by decide +kernel
theorem dL_law_213 : decode cL_law 213 = .ok (.iadd, 1) := by decide +kernel
theorem dL_law_214 : decode cL_law 214 = .ok (.iaload, 1) := by decide +kernel
theorem dL_law_215 : decode cL_law 215 = .ok (.invokevirtual 32, 3) := by decide +kernel
theorem dL_law_218 : decode cL_law 218 = .ok (.if_icmp .eq 364, 3) := by decide +kernel
theorem dL_law_221 : decode cL_law 221 = .ok (.iconst 0, 1) := by decide +kernel
theorem dL_law_222 : decode cL_law 222 = .ok (.ireturn, 1) := by decide +kernel
theorem dL_law_223 : decode cL_law 223 = .ok (.aload_n 1, 1) := by decide +kernel
theorem dL_law_224 : decode cL_law 224 = .ok (.aload_n 0, 1) := by decide +kernel
theorem dL_law_225 : decode cL_law 225 = .ok (.iload 4, 2) := by decide +kernel
theorem dL_law_227 : decode cL_law 227 = .ok (.iconst 1, 1) := by decide +kernel
theorem dL_law_228 : decode cL_law 228 = .ok (.iadd, 1) := by decide +kernel
theorem dL_law_229 : decode cL_law 229 = .ok (.iaload, 1) := by decide +kernel
theorem dL_law_230 : decode cL_law 230 = .ok (.aload_n 0, 1) := by decide +kernel
theorem dL_law_231 : decode cL_law 231 = .ok (.iload 4, 2) := by decide +kernel
theorem dL_law_233 : decode cL_law 233 = .ok (.iconst 2, 1) := by decide +kernel
theorem dL_law_234 : decode cL_law 234 = .ok (.iadd, 1) := by decide +kernel
theorem dL_law_235 : decode cL_law 235 = .ok (.iaload, 1) := by decide +kernel
theorem dL_law_236 : decode cL_law 236 = .ok (.i2l, 1) := by decide +kernel
theorem dL_law_237 : decode cL_law 237 = .ok (.bipush 32, 2) := by decide +kernel
theorem dL_law_239 : decode cL_law 239 = .ok (.lshl, 1) := by decide +kernel
theorem dL_law_240 : decode cL_law 240 = .ok (.aload_n 0, 1) := by decide +kernel
theorem dL_law_241 : decode cL_law 241 = .ok (.iload 4, 2) := by decide +kernel
theorem dL_law_243 : decode cL_law 243 = .ok (.iconst 3, 1) := by decide +kernel
theorem dL_law_244 : decode cL_law 244 = .ok (.iadd, 1) := by decide +kernel
theorem dL_law_245 : decode cL_law 245 = .ok (.iaload, 1) := by decide +kernel
theorem dL_law_246 : decode cL_law 246 = .ok (.i2l, 1) := by decide +kernel
theorem dL_law_247 : decode cL_law 247 = .ok (.ldc2_w 33, 3) := by decide +kernel
theorem dL_law_250 : decode cL_law 250 = .ok (.land, 1) := by decide +kernel
theorem dL_law_251 : decode cL_law 251 = .ok (.lor, 1) := by decide +kernel
theorem dL_law_252 : decode cL_law 252 = .ok (.invokevirtual 35, 3) := by decide +kernel
theorem dL_law_255 : decode cL_law 255 = .ok (.aload_n 2, 1) := by decide +kernel
theorem dL_law_256 : decode cL_law 256 = .ok (.aload_n 0, 1) := by decide +kernel
theorem dL_law_257 : decode cL_law 257 = .ok (.iload 4, 2) := by decide +kernel
theorem dL_law_259 : decode cL_law 259 = .ok (.iconst 1, 1) := by decide +kernel
theorem dL_law_260 : decode cL_law 260 = .ok (.iadd, 1) := by decide +kernel
theorem dL_law_261 : decode cL_law 261 = .ok (.iaload, 1) := by decide +kernel
theorem dL_law_262 : decode cL_law 262 = .ok (.aload_n 0, 1) := by decide +kernel
theorem dL_law_263 : decode cL_law 263 = .ok (.iload 4, 2) := by decide +kernel
theorem dL_law_265 : decode cL_law 265 = .ok (.iconst 2, 1) := by decide +kernel
theorem dL_law_266 : decode cL_law 266 = .ok (.iadd, 1) := by decide +kernel
theorem dL_law_267 : decode cL_law 267 = .ok (.iaload, 1) := by decide +kernel
theorem dL_law_268 : decode cL_law 268 = .ok (.i2l, 1) := by decide +kernel
theorem dL_law_269 : decode cL_law 269 = .ok (.bipush 32, 2) := by decide +kernel
theorem dL_law_271 : decode cL_law 271 = .ok (.lshl, 1) := by decide +kernel
theorem dL_law_272 : decode cL_law 272 = .ok (.aload_n 0, 1) := by decide +kernel
theorem dL_law_273 : decode cL_law 273 = .ok (.iload 4, 2) := by decide +kernel
theorem dL_law_275 : decode cL_law 275 = .ok (.iconst 3, 1) := by decide +kernel
theorem dL_law_276 : decode cL_law 276 = .ok (.iadd, 1) := by decide +kernel
theorem dL_law_277 : decode cL_law 277 = .ok (.iaload, 1) := by decide +kernel
theorem dL_law_278 : decode cL_law 278 = .ok (.i2l, 1) := by decide +kernel
theorem dL_law_279 : decode cL_law 279 = .ok (.ldc2_w 33, 3) := by decide +kernel
theorem dL_law_282 : decode cL_law 282 = .ok (.land, 1) := by decide +kernel
theorem dL_law_283 : decode cL_law 283 = .ok (.lor, 1) := by decide +kernel
theorem dL_law_284 : decode cL_law 284 = .ok (.invokevirtual 39, 3) := by decide +kernel
theorem dL_law_287 : decode cL_law 287 = .ok (.if_icmp .eq 295, 3) := by decide +kernel
theorem dL_law_290 : decode cL_law 290 = .ok (.iconst 0, 1) := by decide +kernel
theorem dL_law_291 : decode cL_law 291 = .ok (.ireturn, 1) := by decide +kernel
theorem dL_law_292 : decode cL_law 292 = .ok (.aload_n 1, 1) := by decide +kernel
theorem dL_law_293 : decode cL_law 293 = .ok (.aload_n 0, 1) := by decide +kernel
theorem dL_law_294 : decode cL_law 294 = .ok (.iload 4, 2) := by decide +kernel
theorem dL_law_296 : decode cL_law 296 = .ok (.iconst 1, 1) := by decide +kernel
theorem dL_law_297 : decode cL_law 297 = .ok (.iadd, 1) := by decide +kernel
theorem dL_law_298 : decode cL_law 298 = .ok (.iaload, 1) := by decide +kernel
theorem dL_law_299 : decode cL_law 299 = .ok (.aload_n 0, 1) := by decide +kernel
theorem dL_law_300 : decode cL_law 300 = .ok (.iload 4, 2) := by decide +kernel
theorem dL_law_302 : decode cL_law 302 = .ok (.iconst 2, 1) := by decide +kernel
theorem dL_law_303 : decode cL_law 303 = .ok (.iadd, 1) := by decide +kernel
theorem dL_law_304 : decode cL_law 304 = .ok (.iaload, 1) := by decide +kernel
theorem dL_law_305 : decode cL_law 305 = .ok (.aload_n 0, 1) := by decide +kernel
theorem dL_law_306 : decode cL_law 306 = .ok (.iload 4, 2) := by decide +kernel
theorem dL_law_308 : decode cL_law 308 = .ok (.iconst 3, 1) := by decide +kernel
theorem dL_law_309 : decode cL_law 309 = .ok (.iadd, 1) := by decide +kernel
theorem dL_law_310 : decode cL_law 310 = .ok (.iaload, 1) := by decide +kernel
theorem dL_law_311 : decode cL_law 311 = .ok (.aload_n 0, 1) := by decide +kernel
theorem dL_law_312 : decode cL_law 312 = .ok (.iload 4, 2) := by decide +kernel
theorem dL_law_314 : decode cL_law 314 = .ok (.iconst 4, 1) := by decide +kernel
theorem dL_law_315 : decode cL_law 315 = .ok (.iadd, 1) := by decide +kernel
theorem dL_law_316 : decode cL_law 316 = .ok (.iaload, 1) := by decide +kernel
theorem dL_law_317 : decode cL_law 317 = .ok (.invokevirtual 40, 3) := by decide +kernel
theorem dL_law_320 : decode cL_law 320 = .ok (.aload_n 2, 1) := by decide +kernel
theorem dL_law_321 : decode cL_law 321 = .ok (.aload_n 0, 1) := by decide +kernel
theorem dL_law_322 : decode cL_law 322 = .ok (.iload 4, 2) := by decide +kernel
theorem dL_law_324 : decode cL_law 324 = .ok (.iconst 1, 1) := by decide +kernel
theorem dL_law_325 : decode cL_law 325 = .ok (.iadd, 1) := by decide +kernel
theorem dL_law_326 : decode cL_law 326 = .ok (.iaload, 1) := by decide +kernel
theorem dL_law_327 : decode cL_law 327 = .ok (.aload_n 0, 1) := by decide +kernel
theorem dL_law_328 : decode cL_law 328 = .ok (.iload 4, 2) := by decide +kernel
theorem dL_law_330 : decode cL_law 330 = .ok (.iconst 2, 1) := by decide +kernel
theorem dL_law_331 : decode cL_law 331 = .ok (.iadd, 1) := by decide +kernel
theorem dL_law_332 : decode cL_law 332 = .ok (.iaload, 1) := by decide +kernel
theorem dL_law_333 : decode cL_law 333 = .ok (.aload_n 0, 1) := by decide +kernel
theorem dL_law_334 : decode cL_law 334 = .ok (.iload 4, 2) := by decide +kernel
theorem dL_law_336 : decode cL_law 336 = .ok (.iconst 3, 1) := by decide +kernel
theorem dL_law_337 : decode cL_law 337 = .ok (.iadd, 1) := by decide +kernel
theorem dL_law_338 : decode cL_law 338 = .ok (.iaload, 1) := by decide +kernel
theorem dL_law_339 : decode cL_law 339 = .ok (.aload_n 0, 1) := by decide +kernel
theorem dL_law_340 : decode cL_law 340 = .ok (.iload 4, 2) := by decide +kernel
theorem dL_law_342 : decode cL_law 342 = .ok (.iconst 4, 1) := by decide +kernel
theorem dL_law_343 : decode cL_law 343 = .ok (.iadd, 1) := by decide +kernel
theorem dL_law_344 : decode cL_law 344 = .ok (.iaload, 1) := by decide +kernel
theorem dL_law_345 : decode cL_law 345 = .ok (.invokevirtual 44, 3) := by decide +kernel
theorem dL_law_348 : decode cL_law 348 = .ok (.if_icmp .eq 234, 3) := by decide +kernel
theorem dL_law_351 : decode cL_law 351 = .ok (.iconst 0, 1) := by decide +kernel
theorem dL_law_352 : decode cL_law 352 = .ok (.ireturn, 1) := by decide +kernel
theorem dL_law_353 : decode cL_law 353 = .ok (.aload_n 1, 1) := by decide +kernel
theorem dL_law_354 : decode cL_law 354 = .ok (.aload_n 0, 1) := by decide +kernel
theorem dL_law_355 : decode cL_law 355 = .ok (.iload 4, 2) := by decide +kernel
theorem dL_law_357 : decode cL_law 357 = .ok (.iconst 1, 1) := by decide +kernel
theorem dL_law_358 : decode cL_law 358 = .ok (.iadd, 1) := by decide +kernel
theorem dL_law_359 : decode cL_law 359 = .ok (.iaload, 1) := by decide +kernel
theorem dL_law_360 : decode cL_law 360 = .ok (.aload_n 0, 1) := by decide +kernel
theorem dL_law_361 : decode cL_law 361 = .ok (.iload 4, 2) := by decide +kernel
theorem dL_law_363 : decode cL_law 363 = .ok (.iconst 2, 1) := by decide +kernel
theorem dL_law_364 : decode cL_law 364 = .ok (.iadd, 1) := by decide +kernel
theorem dL_law_365 : decode cL_law 365 = .ok (.iaload, 1) := by decide +kernel
theorem dL_law_366 : decode cL_law 366 = .ok (.aload_n 0, 1) := by decide +kernel
theorem dL_law_367 : decode cL_law 367 = .ok (.iload 4, 2) := by decide +kernel
theorem dL_law_369 : decode cL_law 369 = .ok (.iconst 3, 1) := by decide +kernel
theorem dL_law_370 : decode cL_law 370 = .ok (.iadd, 1) := by decide +kernel
theorem dL_law_371 : decode cL_law 371 = .ok (.iaload, 1) := by decide +kernel
theorem dL_law_372 : decode cL_law 372 = .ok (.invokevirtual 45, 3) := by decide +kernel
theorem dL_law_375 : decode cL_law 375 = .ok (.aload_n 2, 1) := by decide +kernel
theorem dL_law_376 : decode cL_law 376 = .ok (.aload_n 0, 1) := by decide +kernel
theorem dL_law_377 : decode cL_law 377 = .ok (.iload 4, 2) := by decide +kernel
theorem dL_law_379 : decode cL_law 379 = .ok (.iconst 1, 1) := by decide +kernel
theorem dL_law_380 : decode cL_law 380 = .ok (.iadd, 1) := by decide +kernel
theorem dL_law_381 : decode cL_law 381 = .ok (.iaload, 1) := by decide +kernel
theorem dL_law_382 : decode cL_law 382 = .ok (.aload_n 0, 1) := by decide +kernel
theorem dL_law_383 : decode cL_law 383 = .ok (.iload 4, 2) := by decide +kernel
theorem dL_law_385 : decode cL_law 385 = .ok (.iconst 2, 1) := by decide +kernel
theorem dL_law_386 : decode cL_law 386 = .ok (.iadd, 1) := by decide +kernel
theorem dL_law_387 : decode cL_law 387 = .ok (.iaload, 1) := by decide +kernel
theorem dL_law_388 : decode cL_law 388 = .ok (.aload_n 0, 1) := by decide +kernel
theorem dL_law_389 : decode cL_law 389 = .ok (.iload 4, 2) := by decide +kernel
theorem dL_law_391 : decode cL_law 391 = .ok (.iconst 3, 1) := by decide +kernel
theorem dL_law_392 : decode cL_law 392 = .ok (.iadd, 1) := by decide +kernel
theorem dL_law_393 : decode cL_law 393 = .ok (.iaload, 1) := by decide +kernel
theorem dL_law_394 : decode cL_law 394 = .ok (.invokevirtual 49, 3) := by decide +kernel
theorem dL_law_397 : decode cL_law 397 = .ok (.if_icmp .eq 185, 3) := by decide +kernel
theorem dL_law_400 : decode cL_law 400 = .ok (.iconst 0, 1) := by decide +kernel
theorem dL_law_401 : decode cL_law 401 = .ok (.ireturn, 1) := by decide +kernel
theorem dL_law_402 : decode cL_law 402 = .ok (.aload_n 1, 1) := by decide +kernel
theorem dL_law_403 : decode cL_law 403 = .ok (.aload_n 0, 1) := by decide +kernel
theorem dL_law_404 : decode cL_law 404 = .ok (.iload 4, 2) := by decide +kernel
theorem dL_law_406 : decode cL_law 406 = .ok (.iconst 1, 1) := by decide +kernel
theorem dL_law_407 : decode cL_law 407 = .ok (.iadd, 1) := by decide +kernel
theorem dL_law_408 : decode cL_law 408 = .ok (.iaload, 1) := by decide +kernel
theorem dL_law_409 : decode cL_law 409 = .ok (.aload_n 0, 1) := by decide +kernel
theorem dL_law_410 : decode cL_law 410 = .ok (.iload 4, 2) := by decide +kernel
theorem dL_law_412 : decode cL_law 412 = .ok (.iconst 2, 1) := by decide +kernel
theorem dL_law_413 : decode cL_law 413 = .ok (.iadd, 1) := by decide +kernel
theorem dL_law_414 : decode cL_law 414 = .ok (.iaload, 1) := by decide +kernel
theorem dL_law_415 : decode cL_law 415 = .ok (.invokevirtual 50, 3) := by decide +kernel
theorem dL_law_418 : decode cL_law 418 = .ok (.aload_n 2, 1) := by decide +kernel
theorem dL_law_419 : decode cL_law 419 = .ok (.aload_n 0, 1) := by decide +kernel
theorem dL_law_420 : decode cL_law 420 = .ok (.iload 4, 2) := by decide +kernel
theorem dL_law_422 : decode cL_law 422 = .ok (.iconst 1, 1) := by decide +kernel
theorem dL_law_423 : decode cL_law 423 = .ok (.iadd, 1) := by decide +kernel
theorem dL_law_424 : decode cL_law 424 = .ok (.iaload, 1) := by decide +kernel
theorem dL_law_425 : decode cL_law 425 = .ok (.aload_n 0, 1) := by decide +kernel
theorem dL_law_426 : decode cL_law 426 = .ok (.iload 4, 2) := by decide +kernel
theorem dL_law_428 : decode cL_law 428 = .ok (.iconst 2, 1) := by decide +kernel
theorem dL_law_429 : decode cL_law 429 = .ok (.iadd, 1) := by decide +kernel
theorem dL_law_430 : decode cL_law 430 = .ok (.iaload, 1) := by decide +kernel
theorem dL_law_431 : decode cL_law 431 = .ok (.invokevirtual 54, 3) := by decide +kernel
theorem dL_law_434 : decode cL_law 434 = .ok (.if_icmp .eq 148, 3) := by decide +kernel
theorem dL_law_437 : decode cL_law 437 = .ok (.iconst 0, 1) := by decide +kernel
theorem dL_law_438 : decode cL_law 438 = .ok (.ireturn, 1) := by decide +kernel
theorem dL_law_439 : decode cL_law 439 = .ok (.aload_n 1, 1) := by decide +kernel
theorem dL_law_440 : decode cL_law 440 = .ok (.aload_n 0, 1) := by decide +kernel
theorem dL_law_441 : decode cL_law 441 = .ok (.iload 4, 2) := by decide +kernel
theorem dL_law_443 : decode cL_law 443 = .ok (.iconst 1, 1) := by decide +kernel
theorem dL_law_444 : decode cL_law 444 = .ok (.iadd, 1) := by decide +kernel
theorem dL_law_445 : decode cL_law 445 = .ok (.iaload, 1) := by decide +kernel
theorem dL_law_446 : decode cL_law 446 = .ok (.aload_n 0, 1) := by decide +kernel
theorem dL_law_447 : decode cL_law 447 = .ok (.iload 4, 2) := by decide +kernel
theorem dL_law_449 : decode cL_law 449 = .ok (.iconst 2, 1) := by decide +kernel
theorem dL_law_450 : decode cL_law 450 = .ok (.iadd, 1) := by decide +kernel
theorem dL_law_451 : decode cL_law 451 = .ok (.iaload, 1) := by decide +kernel
theorem dL_law_452 : decode cL_law 452 = .ok (.invokevirtual 55, 3) := by decide +kernel
theorem dL_law_455 : decode cL_law 455 = .ok (.aload_n 2, 1) := by decide +kernel
theorem dL_law_456 : decode cL_law 456 = .ok (.aload_n 0, 1) := by decide +kernel
theorem dL_law_457 : decode cL_law 457 = .ok (.iload 4, 2) := by decide +kernel
theorem dL_law_459 : decode cL_law 459 = .ok (.iconst 1, 1) := by decide +kernel
theorem dL_law_460 : decode cL_law 460 = .ok (.iadd, 1) := by decide +kernel
theorem dL_law_461 : decode cL_law 461 = .ok (.iaload, 1) := by decide +kernel
theorem dL_law_462 : decode cL_law 462 = .ok (.aload_n 0, 1) := by decide +kernel
theorem dL_law_463 : decode cL_law 463 = .ok (.iload 4, 2) := by decide +kernel
theorem dL_law_465 : decode cL_law 465 = .ok (.iconst 2, 1) := by decide +kernel
theorem dL_law_466 : decode cL_law 466 = .ok (.iadd, 1) := by decide +kernel
theorem dL_law_467 : decode cL_law 467 = .ok (.iaload, 1) := by decide +kernel
theorem dL_law_468 : decode cL_law 468 = .ok (.invokevirtual 58, 3) := by decide +kernel
theorem dL_law_471 : decode cL_law 471 = .ok (.if_icmp .eq 111, 3) := by decide +kernel
theorem dL_law_474 : decode cL_law 474 = .ok (.iconst 0, 1) := by decide +kernel
theorem dL_law_475 : decode cL_law 475 = .ok (.ireturn, 1) := by decide +kernel
theorem dL_law_476 : decode cL_law 476 = .ok (.aload_n 1, 1) := by decide +kernel
theorem dL_law_477 : decode cL_law 477 = .ok (.aload_n 0, 1) := by decide +kernel
theorem dL_law_478 : decode cL_law 478 = .ok (.iload 4, 2) := by decide +kernel
theorem dL_law_480 : decode cL_law 480 = .ok (.iconst 1, 1) := by decide +kernel
theorem dL_law_481 : decode cL_law 481 = .ok (.iadd, 1) := by decide +kernel
theorem dL_law_482 : decode cL_law 482 = .ok (.iaload, 1) := by decide +kernel
theorem dL_law_483 : decode cL_law 483 = .ok (.aload_n 3, 1) := by decide +kernel
theorem dL_law_484 : decode cL_law 484 = .ok (.invokestatic 59, 3) := by decide +kernel
theorem dL_law_487 : decode cL_law 487 = .ok (.istore 5, 2) := by decide +kernel
theorem dL_law_489 : decode cL_law 489 = .ok (.aload_n 2, 1) := by decide +kernel
theorem dL_law_490 : decode cL_law 490 = .ok (.aload_n 0, 1) := by decide +kernel
theorem dL_law_491 : decode cL_law 491 = .ok (.iload 4, 2) := by decide +kernel
theorem dL_law_493 : decode cL_law 493 = .ok (.iconst 1, 1) := by decide +kernel
theorem dL_law_494 : decode cL_law 494 = .ok (.iadd, 1) := by decide +kernel
theorem dL_law_495 : decode cL_law 495 = .ok (.iaload, 1) := by decide +kernel
theorem dL_law_496 : decode cL_law 496 = .ok (.invokevirtual 64, 3) := by decide +kernel
theorem dL_law_499 : decode cL_law 499 = .ok (.istore 6, 2) := by decide +kernel
theorem dL_law_501 : decode cL_law 501 = .ok (.aload_n 2, 1) := by decide +kernel
theorem dL_law_502 : decode cL_law 502 = .ok (.invokevirtual 65, 3) := by decide +kernel
theorem dL_law_505 : decode cL_law 505 = .ok (.iload 5, 2) := by decide +kernel
theorem dL_law_507 : decode cL_law 507 = .ok (.if_icmp .eq 5, 3) := by decide +kernel
theorem dL_law_510 : decode cL_law 510 = .ok (.iconst 0, 1) := by decide +kernel
theorem dL_law_511 : decode cL_law 511 = .ok (.ireturn, 1) := by decide +kernel
theorem dL_law_512 : decode cL_law 512 = .ok (.iload 5, 2) := by decide +kernel
theorem dL_law_514 : decode cL_law 514 = .ok (.ifCond .ne 15, 3) := by decide +kernel
theorem dL_law_517 : decode cL_law 517 = .ok (.aload_n 3, 1) := by decide +kernel
theorem dL_law_518 : decode cL_law 518 = .ok (.iconst 0, 1) := by decide +kernel
theorem dL_law_519 : decode cL_law 519 = .ok (.laload, 1) := by decide +kernel
theorem dL_law_520 : decode cL_law 520 = .ok (.iload 6, 2) := by decide +kernel
theorem dL_law_522 : decode cL_law 522 = .ok (.i2l, 1) := by decide +kernel
theorem dL_law_523 : decode cL_law 523 = .ok (.lcmp, 1) := by decide +kernel
theorem dL_law_524 : decode cL_law 524 = .ok (.ifCond .eq 5, 3) := by decide +kernel
theorem dL_law_527 : decode cL_law 527 = .ok (.iconst 0, 1) := by decide +kernel
theorem dL_law_528 : decode cL_law 528 = .ok (.ireturn, 1) := by decide +kernel
theorem dL_law_529 : decode cL_law 529 = .ok (.goto 53, 3) := by decide +kernel
theorem dL_law_532 : decode cL_law 532 = .ok (.aload_n 1, 1) := by decide +kernel
theorem dL_law_533 : decode cL_law 533 = .ok (.aload_n 0, 1) := by decide +kernel
theorem dL_law_534 : decode cL_law 534 = .ok (.iload 4, 2) := by decide +kernel
theorem dL_law_536 : decode cL_law 536 = .ok (.iconst 1, 1) := by decide +kernel
theorem dL_law_537 : decode cL_law 537 = .ok (.iadd, 1) := by decide +kernel
theorem dL_law_538 : decode cL_law 538 = .ok (.iaload, 1) := by decide +kernel
theorem dL_law_539 : decode cL_law 539 = .ok (.invokevirtual 69, 3) := by decide +kernel
theorem dL_law_542 : decode cL_law 542 = .ok (.aload_n 2, 1) := by decide +kernel
theorem dL_law_543 : decode cL_law 543 = .ok (.aload_n 0, 1) := by decide +kernel
theorem dL_law_544 : decode cL_law 544 = .ok (.iload 4, 2) := by decide +kernel
theorem dL_law_546 : decode cL_law 546 = .ok (.iconst 1, 1) := by decide +kernel
theorem dL_law_547 : decode cL_law 547 = .ok (.iadd, 1) := by decide +kernel
theorem dL_law_548 : decode cL_law 548 = .ok (.iaload, 1) := by decide +kernel
theorem dL_law_549 : decode cL_law 549 = .ok (.invokevirtual 72, 3) := by decide +kernel
theorem dL_law_552 : decode cL_law 552 = .ok (.if_icmp .eq 30, 3) := by decide +kernel
theorem dL_law_555 : decode cL_law 555 = .ok (.iconst 0, 1) := by decide +kernel
theorem dL_law_556 : decode cL_law 556 = .ok (.ireturn, 1) := by decide +kernel
theorem dL_law_557 : decode cL_law 557 = .ok (.aload_n 1, 1) := by decide +kernel
theorem dL_law_558 : decode cL_law 558 = .ok (.aload_n 0, 1) := by decide +kernel
theorem dL_law_559 : decode cL_law 559 = .ok (.iload 4, 2) := by decide +kernel
theorem dL_law_561 : decode cL_law 561 = .ok (.iconst 1, 1) := by decide +kernel
theorem dL_law_562 : decode cL_law 562 = .ok (.iadd, 1) := by decide +kernel
theorem dL_law_563 : decode cL_law 563 = .ok (.iaload, 1) := by decide +kernel
theorem dL_law_564 : decode cL_law 564 = .ok (.invokevirtual 73, 3) := by decide +kernel
theorem dL_law_567 : decode cL_law 567 = .ok (.aload_n 2, 1) := by decide +kernel
theorem dL_law_568 : decode cL_law 568 = .ok (.aload_n 0, 1) := by decide +kernel
theorem dL_law_569 : decode cL_law 569 = .ok (.iload 4, 2) := by decide +kernel
theorem dL_law_571 : decode cL_law 571 = .ok (.iconst 1, 1) := by decide +kernel
theorem dL_law_572 : decode cL_law 572 = .ok (.iadd, 1) := by decide +kernel
theorem dL_law_573 : decode cL_law 573 = .ok (.iaload, 1) := by decide +kernel
theorem dL_law_574 : decode cL_law 574 = .ok (.invokevirtual 76, 3) := by decide +kernel
theorem dL_law_577 : decode cL_law 577 = .ok (.if_icmp .eq 5, 3) := by decide +kernel
theorem dL_law_580 : decode cL_law 580 = .ok (.iconst 0, 1) := by decide +kernel
theorem dL_law_581 : decode cL_law 581 = .ok (.ireturn, 1) := by decide +kernel
theorem dL_law_582 : decode cL_law 582 = .ok (.iinc 4 6, 3) := by decide +kernel
theorem dL_law_585 : decode cL_law 585 = .ok (.goto (-562), 3) := by decide +kernel
theorem dL_law_588 : decode cL_law 588 = .ok (.iconst 1, 1) := by decide +kernel
theorem dL_law_589 : decode cL_law 589 = .ok (.ireturn, 1) := by decide +kernel
