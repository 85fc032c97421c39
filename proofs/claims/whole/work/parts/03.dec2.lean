theorem dX11_innLine_18 : decode cX11_innLine 18 = .ok (.getfield 23, 3) := by decide +kernel
theorem dX11_innLine_21 : decode cX11_innLine 21 = .ok (.iconst 1, 1) := by decide +kernel
theorem dX11_innLine_22 : decode cX11_innLine 22 = .ok (.aload_n 0, 1) := by decide +kernel
theorem dX11_innLine_23 : decode cX11_innLine 23 = .ok (.ldc 212, 2) := by decide +kernel
theorem dX11_innLine_25 : decode cX11_innLine 25 = .ok (.iconst 1, 1) := by decide +kernel
theorem dX11_innLine_26 : decode cX11_innLine 26 = .ok (.bipush 6, 2) := by decide +kernel
theorem dX11_innLine_28 : decode cX11_innLine 28 = .ok (.invokevirtual 208, 3) := by decide +kernel
theorem dX11_innLine_31 : decode cX11_innLine 31 = .ok (.iastore, 1) := by decide +kernel
theorem dX11_innLine_32 : decode cX11_innLine 32 = .ok (.aload_n 0, 1) := by decide +kernel
theorem dX11_innLine_33 : decode cX11_innLine 33 = .ok (.ldc 214, 2) := by decide +kernel
theorem dX11_innLine_35 : decode cX11_innLine 35 = .ok (.invokevirtual 147, 3) := by decide +kernel
theorem dX11_innLine_38 : decode cX11_innLine 38 = .ok (.aload_n 0, 1) := by decide +kernel
theorem dX11_innLine_39 : decode cX11_innLine 39 = .ok (.ldc 216, 2) := by decide +kernel
theorem dX11_innLine_41 : decode cX11_innLine 41 = .ok (.invokevirtual 129, 3) := by decide +kernel
theorem dX11_innLine_44 : decode cX11_innLine 44 = .ok (.ifCond .eq 7, 3) := by decide +kernel
theorem dX11_innLine_47 : decode cX11_innLine 47 = .ok (.iconst 0, 1) := by decide +kernel
theorem dX11_innLine_48 : decode cX11_innLine 48 = .ok (.goto 30, 3) := by decide +kernel
theorem dX11_innLine_51 : decode cX11_innLine 51 = .ok (.aload_n 0, 1) := by decide +kernel
theorem dX11_innLine_52 : decode cX11_innLine 52 = .ok (.ldc 218, 2) := by decide +kernel
theorem dX11_innLine_54 : decode cX11_innLine 54 = .ok (.invokevirtual 129, 3) := by decide +kernel
theorem dX11_innLine_57 : decode cX11_innLine 57 = .ok (.ifCond .eq 7, 3) := by decide +kernel
theorem dX11_innLine_60 : decode cX11_innLine 60 = .ok (.iconst 1, 1) := by decide +kernel
theorem dX11_innLine_61 : decode cX11_innLine 61 = .ok (.goto 17, 3) := by decide +kernel
theorem dX11_innLine_64 : decode cX11_innLine 64 = .ok (.aload_n 0, 1) := by decide +kernel
theorem dX11_innLine_65 : decode cX11_innLine 65 = .ok (.ldc 220, 2) := by decide +kernel
theorem dX11_innLine_67 : decode cX11_innLine 67 = .ok (.invokevirtual 129, 3) := by decide +kernel
theorem dX11_innLine_70 : decode cX11_innLine 70 = .ok (.ifCond .eq 7, 3) := by decide +kernel
theorem dX11_innLine_73 : decode cX11_innLine 73 = .ok (.iconst 2, 1) := by decide +kernel
theorem dX11_innLine_74 : decode cX11_innLine 74 = .ok (.goto 4, 3) := by decide +kernel
theorem dX11_innLine_77 : decode cX11_innLine 77 = .ok (.iconst (-1), 1) := by decide +kernel
theorem dX11_innLine_78 : decode cX11_innLine 78 = .ok (.istore_n 2, 1) := by decide +kernel
theorem dX11_innLine_79 : decode cX11_innLine 79 = .ok (.iload_n 2, 1) := by decide +kernel
theorem dX11_innLine_80 : decode cX11_innLine 80 = .ok (.ifCond .ge 12, 3) := by decide +kernel
theorem dX11_innLine_83 : decode cX11_innLine 83 = .ok (.aload_n 0, 1) := by decide +kernel
theorem dX11_innLine_84 : decode cX11_innLine 84 = .ok (.iconst 1, 1) := by decide +kernel
theorem dX11_innLine_85 : decode cX11_innLine 85 = .ok (.aload_n 0, 1) := by decide +kernel
theorem dX11_innLine_86 : decode cX11_innLine 86 = .ok (.getfield 93, 3) := by decide +kernel
theorem dX11_innLine_89 : decode cX11_innLine 89 = .ok (.invokevirtual 139, 3) := by decide +kernel
theorem dX11_innLine_92 : decode cX11_innLine 92 = .ok (.aload_n 0, 1) := by decide +kernel
theorem dX11_innLine_93 : decode cX11_innLine 93 = .ok (.getfield 112, 3) := by decide +kernel
theorem dX11_innLine_96 : decode cX11_innLine 96 = .ok (.ifCond .eq 4, 3) := by decide +kernel
theorem dX11_innLine_99 : decode cX11_innLine 99 = .ok (.return_, 1) := by decide +kernel
theorem dX11_innLine_100 : decode cX11_innLine 100 = .ok (.aload_n 0, 1) := by decide +kernel
theorem dX11_innLine_101 : decode cX11_innLine 101 = .ok (.invokevirtual 133, 3) := by decide +kernel
theorem dX11_innLine_104 : decode cX11_innLine 104 = .ok (.aload_n 0, 1) := by decide +kernel
theorem dX11_innLine_105 : decode cX11_innLine 105 = .ok (.getfield 23, 3) := by decide +kernel
theorem dX11_innLine_108 : decode cX11_innLine 108 = .ok (.iconst 2, 1) := by decide +kernel
theorem dX11_innLine_109 : decode cX11_innLine 109 = .ok (.iload_n 2, 1) := by decide +kernel
theorem dX11_innLine_110 : decode cX11_innLine 110 = .ok (.iastore, 1) := by decide +kernel
theorem dX11_innLine_111 : decode cX11_innLine 111 = .ok (.aload_n 0, 1) := by decide +kernel
theorem dX11_innLine_112 : decode cX11_innLine 112 = .ok (.getfield 23, 3) := by decide +kernel
theorem dX11_innLine_115 : decode cX11_innLine 115 = .ok (.iconst 0, 1) := by decide +kernel
theorem dX11_innLine_116 : decode cX11_innLine 116 = .ok (.iload_n 1, 1) := by decide +kernel
theorem dX11_innLine_117 : decode cX11_innLine 117 = .ok (.iastore, 1) := by decide +kernel
theorem dX11_innLine_118 : decode cX11_innLine 118 = .ok (.return_, 1) := by decide +kernel
theorem dX11_wordLine_0 : decode cX11_wordLine 0 = .ok (.aload_n 0, 1) := by decide +kernel
theorem dX11_wordLine_1 : decode cX11_wordLine 1 = .ok (.getfield 112, 3) := by decide +kernel
theorem dX11_wordLine_4 : decode cX11_wordLine 4 = .ok (.ifCond .eq 4, 3) := by decide +kernel
theorem dX11_wordLine_7 : decode cX11_wordLine 7 = .ok (.return_, 1) := by decide +kernel
theorem dX11_wordLine_8 : decode cX11_wordLine 8 = .ok (.aload_n 0, 1) := by decide +kernel
theorem dX11_wordLine_9 : decode cX11_wordLine 9 = .ok (.getfield 23, 3) := by decide +kernel
theorem dX11_wordLine_12 : decode cX11_wordLine 12 = .ok (.iconst 3, 1) := by decide +kernel
theorem dX11_wordLine_13 : decode cX11_wordLine 13 = .ok (.iaload, 1) := by decide +kernel
theorem dX11_wordLine_14 : decode cX11_wordLine 14 = .ok (.istore_n 1, 1) := by decide +kernel
theorem dX11_wordLine_15 : decode cX11_wordLine 15 = .ok (.aload_n 0, 1) := by decide +kernel
theorem dX11_wordLine_16 : decode cX11_wordLine 16 = .ok (.invokevirtual 222, 3) := by decide +kernel
theorem dX11_wordLine_19 : decode cX11_wordLine 19 = .ok (.aload_n 0, 1) := by decide +kernel
theorem dX11_wordLine_20 : decode cX11_wordLine 20 = .ok (.getfield 112, 3) := by decide +kernel
theorem dX11_wordLine_23 : decode cX11_wordLine 23 = .ok (.ifCond .ne 26, 3) := by decide +kernel
theorem dX11_wordLine_26 : decode cX11_wordLine 26 = .ok (.aload_n 0, 1) := by decide +kernel
theorem dX11_wordLine_27 : decode cX11_wordLine 27 = .ok (.iload_n 1, 1) := by decide +kernel
theorem dX11_wordLine_28 : decode cX11_wordLine 28 = .ok (.bipush 7, 2) := by decide +kernel
theorem dX11_wordLine_30 : decode cX11_wordLine 30 = .ok (.bipush 31, 2) := by decide +kernel
theorem dX11_wordLine_32 : decode cX11_wordLine 32 = .ok (.bipush 6, 2) := by decide +kernel
theorem dX11_wordLine_34 : decode cX11_wordLine 34 = .ok (.invokevirtual 225, 3) := by decide +kernel
theorem dX11_wordLine_37 : decode cX11_wordLine 37 = .ok (.ifCond .lt 12, 3) := by decide +kernel
theorem dX11_wordLine_40 : decode cX11_wordLine 40 = .ok (.aload_n 0, 1) := by decide +kernel
theorem dX11_wordLine_41 : decode cX11_wordLine 41 = .ok (.iconst 3, 1) := by decide +kernel
theorem dX11_wordLine_42 : decode cX11_wordLine 42 = .ok (.aload_n 0, 1) := by decide +kernel
theorem dX11_wordLine_43 : decode cX11_wordLine 43 = .ok (.getfield 93, 3) := by decide +kernel
theorem dX11_wordLine_46 : decode cX11_wordLine 46 = .ok (.invokevirtual 139, 3) := by decide +kernel
theorem dX11_wordLine_49 : decode cX11_wordLine 49 = .ok (.aload_n 0, 1) := by decide +kernel
theorem dX11_wordLine_50 : decode cX11_wordLine 50 = .ok (.getfield 112, 3) := by decide +kernel
theorem dX11_wordLine_53 : decode cX11_wordLine 53 = .ok (.ifCond .ne 21, 3) := by decide +kernel
theorem dX11_wordLine_56 : decode cX11_wordLine 56 = .ok (.aload_n 0, 1) := by decide +kernel
theorem dX11_wordLine_57 : decode cX11_wordLine 57 = .ok (.getfield 96, 3) := by decide +kernel
theorem dX11_wordLine_60 : decode cX11_wordLine 60 = .ok (.bipush 6, 2) := by decide +kernel
theorem dX11_wordLine_62 : decode cX11_wordLine 62 = .ok (.if_icmp .le 12, 3) := by decide +kernel
theorem dX11_wordLine_65 : decode cX11_wordLine 65 = .ok (.aload_n 0, 1) := by decide +kernel
theorem dX11_wordLine_66 : decode cX11_wordLine 66 = .ok (.iconst 4, 1) := by decide +kernel
theorem dX11_wordLine_67 : decode cX11_wordLine 67 = .ok (.aload_n 0, 1) := by decide +kernel
theorem dX11_wordLine_68 : decode cX11_wordLine 68 = .ok (.getfield 93, 3) := by decide +kernel
theorem dX11_wordLine_71 : decode cX11_wordLine 71 = .ok (.invokevirtual 139, 3) := by decide +kernel
theorem dX11_wordLine_74 : decode cX11_wordLine 74 = .ok (.aload_n 0, 1) := by decide +kernel
theorem dX11_wordLine_75 : decode cX11_wordLine 75 = .ok (.getfield 112, 3) := by decide +kernel
theorem dX11_wordLine_78 : decode cX11_wordLine 78 = .ok (.ifCond .eq 4, 3) := by decide +kernel
theorem dX11_wordLine_81 : decode cX11_wordLine 81 = .ok (.return_, 1) := by decide +kernel
theorem dX11_wordLine_82 : decode cX11_wordLine 82 = .ok (.iconst 0, 1) := by decide +kernel
theorem dX11_wordLine_83 : decode cX11_wordLine 83 = .ok (.istore_n 2, 1) := by decide +kernel
theorem dX11_wordLine_84 : decode cX11_wordLine 84 = .ok (.iload_n 2, 1) := by decide +kernel
theorem dX11_wordLine_85 : decode cX11_wordLine 85 = .ok (.aload_n 0, 1) := by decide +kernel
theorem dX11_wordLine_86 : decode cX11_wordLine 86 = .ok (.getfield 96, 3) := by decide +kernel
theorem dX11_wordLine_89 : decode cX11_wordLine 89 = .ok (.if_icmp .ge 29, 3) := by decide +kernel
theorem dX11_wordLine_92 : decode cX11_wordLine 92 = .ok (.aload_n 0, 1) := by decide +kernel
theorem dX11_wordLine_93 : decode cX11_wordLine 93 = .ok (.getfield 23, 3) := by decide +kernel
theorem dX11_wordLine_96 : decode cX11_wordLine 96 = .ok (.bipush 31, 2) := by decide +kernel
theorem dX11_wordLine_98 : decode cX11_wordLine 98 = .ok (.bipush 6, 2) := by decide +kernel
theorem dX11_wordLine_100 : decode cX11_wordLine 100 = .ok (.iload_n 1, 1) := by decide +kernel
theorem dX11_wordLine_101 : decode cX11_wordLine 101 = .ok (.imul, 1) := by decide +kernel
theorem dX11_wordLine_102 : decode cX11_wordLine 102 = .ok (.iadd, 1) := by decide +kernel
theorem dX11_wordLine_103 : decode cX11_wordLine 103 = .ok (.iload_n 2, 1) := by decide +kernel
theorem dX11_wordLine_104 : decode cX11_wordLine 104 = .ok (.iadd, 1) := by decide +kernel
theorem dX11_wordLine_105 : decode cX11_wordLine 105 = .ok (.aload_n 0, 1) := by decide +kernel
theorem dX11_wordLine_106 : decode cX11_wordLine 106 = .ok (.getfield 17, 3) := by decide +kernel
theorem dX11_wordLine_109 : decode cX11_wordLine 109 = .ok (.iload_n 2, 1) := by decide +kernel
theorem dX11_wordLine_110 : decode cX11_wordLine 110 = .ok (.iaload, 1) := by decide +kernel
theorem dX11_wordLine_111 : decode cX11_wordLine 111 = .ok (.iastore, 1) := by decide +kernel
theorem dX11_wordLine_112 : decode cX11_wordLine 112 = .ok (.iinc 2 1, 3) := by decide +kernel
theorem dX11_wordLine_115 : decode cX11_wordLine 115 = .ok (.goto (-31), 3) := by decide +kernel
theorem dX11_wordLine_118 : decode cX11_wordLine 118 = .ok (.aload_n 0, 1) := by decide +kernel
theorem dX11_wordLine_119 : decode cX11_wordLine 119 = .ok (.getfield 23, 3) := by decide +kernel
theorem dX11_wordLine_122 : decode cX11_wordLine 122 = .ok (.bipush 7, 2) := by decide +kernel
theorem dX11_wordLine_124 : decode cX11_wordLine 124 = .ok (.iload_n 1, 1) := by decide +kernel
theorem dX11_wordLine_125 : decode cX11_wordLine 125 = .ok (.iadd, 1) := by decide +kernel
theorem dX11_wordLine_126 : decode cX11_wordLine 126 = .ok (.aload_n 0, 1) := by decide +kernel
theorem dX11_wordLine_127 : decode cX11_wordLine 127 = .ok (.getfield 96, 3) := by decide +kernel
theorem dX11_wordLine_130 : decode cX11_wordLine 130 = .ok (.iastore, 1) := by decide +kernel
theorem dX11_wordLine_131 : decode cX11_wordLine 131 = .ok (.aload_n 0, 1) := by decide +kernel
theorem dX11_wordLine_132 : decode cX11_wordLine 132 = .ok (.invokevirtual 133, 3) := by decide +kernel
theorem dX11_wordLine_135 : decode cX11_wordLine 135 = .ok (.aload_n 0, 1) := by decide +kernel
theorem dX11_wordLine_136 : decode cX11_wordLine 136 = .ok (.getfield 23, 3) := by decide +kernel
theorem dX11_wordLine_139 : decode cX11_wordLine 139 = .ok (.sipush 175, 3) := by decide +kernel
theorem dX11_wordLine_142 : decode cX11_wordLine 142 = .ok (.iload_n 1, 1) := by decide +kernel
theorem dX11_wordLine_143 : decode cX11_wordLine 143 = .ok (.iadd, 1) := by decide +kernel
theorem dX11_wordLine_144 : decode cX11_wordLine 144 = .ok (.aload_n 0, 1) := by decide +kernel
theorem dX11_wordLine_145 : decode cX11_wordLine 145 = .ok (.ldc 229, 2) := by decide +kernel
theorem dX11_wordLine_147 : decode cX11_wordLine 147 = .ok (.iconst 0, 1) := by decide +kernel
theorem dX11_wordLine_148 : decode cX11_wordLine 148 = .ok (.bipush 99, 2) := by decide +kernel
theorem dX11_wordLine_150 : decode cX11_wordLine 150 = .ok (.invokevirtual 208, 3) := by decide +kernel
theorem dX11_wordLine_153 : decode cX11_wordLine 153 = .ok (.iastore, 1) := by decide +kernel
theorem dX11_wordLine_154 : decode cX11_wordLine 154 = .ok (.aload_n 0, 1) := by decide +kernel
theorem dX11_wordLine_155 : decode cX11_wordLine 155 = .ok (.ldc 231, 2) := by decide +kernel
theorem dX11_wordLine_157 : decode cX11_wordLine 157 = .ok (.invokevirtual 136, 3) := by decide +kernel
theorem dX11_wordLine_160 : decode cX11_wordLine 160 = .ok (.ifCond .eq 14, 3) := by decide +kernel
theorem dX11_wordLine_163 : decode cX11_wordLine 163 = .ok (.aload_n 0, 1) := by decide +kernel
theorem dX11_wordLine_164 : decode cX11_wordLine 164 = .ok (.getfield 23, 3) := by decide +kernel
theorem dX11_wordLine_167 : decode cX11_wordLine 167 = .ok (.sipush 199, 3) := by decide +kernel
theorem dX11_wordLine_170 : decode cX11_wordLine 170 = .ok (.iload_n 1, 1) := by decide +kernel
theorem dX11_wordLine_171 : decode cX11_wordLine 171 = .ok (.iadd, 1) := by decide +kernel
theorem dX11_wordLine_172 : decode cX11_wordLine 172 = .ok (.iconst 1, 1) := by decide +kernel
theorem dX11_wordLine_173 : decode cX11_wordLine 173 = .ok (.iastore, 1) := by decide +kernel
theorem dX11_wordLine_174 : decode cX11_wordLine 174 = .ok (.aload_n 0, 1) := by decide +kernel
theorem dX11_wordLine_175 : decode cX11_wordLine 175 = .ok (.getfield 112, 3) := by decide +kernel
theorem dX11_wordLine_178 : decode cX11_wordLine 178 = .ok (.ifCond .ne 13, 3) := by decide +kernel
theorem dX11_wordLine_181 : decode cX11_wordLine 181 = .ok (.aload_n 0, 1) := by decide +kernel
theorem dX11_wordLine_182 : decode cX11_wordLine 182 = .ok (.getfield 23, 3) := by decide +kernel
theorem dX11_wordLine_185 : decode cX11_wordLine 185 = .ok (.iconst 3, 1) := by decide +kernel
theorem dX11_wordLine_186 : decode cX11_wordLine 186 = .ok (.dup2, 1) := by decide +kernel
theorem dX11_wordLine_187 : decode cX11_wordLine 187 = .ok (.iaload, 1) := by decide +kernel
theorem dX11_wordLine_188 : decode cX11_wordLine 188 = .ok (.iconst 1, 1) := by decide +kernel
theorem dX11_wordLine_189 : decode cX11_wordLine 189 = .ok (.iadd, 1) := by decide +kernel
theorem dX11_wordLine_190 : decode cX11_wordLine 190 = .ok (.iastore, 1) := by decide +kernel
theorem dX11_wordLine_191 : decode cX11_wordLine 191 = .ok (.return_, 1) := by decide +kernel
theorem dX11_guestLine_0 : decode cX11_guestLine 0 = .ok (.aload_n 0, 1) := by decide +kernel
theorem dX11_guestLine_1 : decode cX11_guestLine 1 = .ok (.getfield 112, 3) := by decide +kernel
theorem dX11_guestLine_4 : decode cX11_guestLine 4 = .ok (.ifCond .ne 7, 3) := by decide +kernel
theorem dX11_guestLine_7 : decode cX11_guestLine 7 = .ok (.iconst 1, 1) := by decide +kernel
theorem dX11_guestLine_8 : decode cX11_guestLine 8 = .ok (.goto 4, 3) := by decide +kernel
theorem dX11_guestLine_11 : decode cX11_guestLine 11 = .ok (.iconst 0, 1) := by decide +kernel
theorem dX11_guestLine_12 : decode cX11_guestLine 12 = .ok (.istore_n 1, 1) := by decide +kernel
theorem dX11_guestLine_13 : decode cX11_guestLine 13 = .ok (.iload_n 1, 1) := by decide +kernel
theorem dX11_guestLine_14 : decode cX11_guestLine 14 = .ok (.ifCond .eq 168, 3) := by decide +kernel
theorem dX11_guestLine_17 : decode cX11_guestLine 17 = .ok (.aload_n 0, 1) := by decide +kernel
theorem dX11_guestLine_18 : decode cX11_guestLine 18 = .ok (.invokevirtual 222, 3) := by decide +kernel
theorem dX11_guestLine_21 : decode cX11_guestLine 21 = .ok (.aload_n 0, 1) := by decide +kernel
theorem dX11_guestLine_22 : decode cX11_guestLine 22 = .ok (.getfield 23, 3) := by decide +kernel
theorem dX11_guestLine_25 : decode cX11_guestLine 25 = .ok (.iconst 4, 1) := by decide +kernel
theorem dX11_guestLine_26 : decode cX11_guestLine 26 = .ok (.iaload, 1) := by decide +kernel
theorem dX11_guestLine_27 : decode cX11_guestLine 27 = .ok (.istore_n 2, 1) := by decide +kernel
theorem dX11_guestLine_28 : decode cX11_guestLine 28 = .ok (.aload_n 0, 1) := by decide +kernel
theorem dX11_guestLine_29 : decode cX11_guestLine 29 = .ok (.getfield 112, 3) := by decide +kernel
theorem dX11_guestLine_32 : decode cX11_guestLine 32 = .ok (.ifCond .ne 28, 3) := by decide +kernel
theorem dX11_guestLine_35 : decode cX11_guestLine 35 = .ok (.aload_n 0, 1) := by decide +kernel
theorem dX11_guestLine_36 : decode cX11_guestLine 36 = .ok (.iload_n 2, 1) := by decide +kernel
theorem dX11_guestLine_37 : decode cX11_guestLine 37 = .ok (.sipush 223, 3) := by decide +kernel
theorem dX11_guestLine_40 : decode cX11_guestLine 40 = .ok (.sipush 231, 3) := by decide +kernel
theorem dX11_guestLine_43 : decode cX11_guestLine 43 = .ok (.bipush 8, 2) := by decide +kernel
theorem dX11_guestLine_45 : decode cX11_guestLine 45 = .ok (.invokevirtual 225, 3) := by decide +kernel
theorem dX11_guestLine_48 : decode cX11_guestLine 48 = .ok (.ifCond .lt 12, 3) := by decide +kernel
theorem dX11_guestLine_51 : decode cX11_guestLine 51 = .ok (.aload_n 0, 1) := by decide +kernel
theorem dX11_guestLine_52 : decode cX11_guestLine 52 = .ok (.iconst 3, 1) := by decide +kernel
theorem dX11_guestLine_53 : decode cX11_guestLine 53 = .ok (.aload_n 0, 1) := by decide +kernel
theorem dX11_guestLine_54 : decode cX11_guestLine 54 = .ok (.getfield 93, 3) := by decide +kernel
theorem dX11_guestLine_57 : decode cX11_guestLine 57 = .ok (.invokevirtual 139, 3) := by decide +kernel
theorem dX11_guestLine_60 : decode cX11_guestLine 60 = .ok (.aload_n 0, 1) := by decide +kernel
theorem dX11_guestLine_61 : decode cX11_guestLine 61 = .ok (.getfield 112, 3) := by decide +kernel
theorem dX11_guestLine_64 : decode cX11_guestLine 64 = .ok (.ifCond .ne 18, 3) := by decide +kernel
theorem dX11_guestLine_67 : decode cX11_guestLine 67 = .ok (.iload_n 2, 1) := by decide +kernel
theorem dX11_guestLine_68 : decode cX11_guestLine 68 = .ok (.bipush 8, 2) := by decide +kernel
theorem dX11_guestLine_70 : decode cX11_guestLine 70 = .ok (.if_icmp .ne 12, 3) := by decide +kernel
theorem dX11_guestLine_73 : decode cX11_guestLine 73 = .ok (.aload_n 0, 1) := by decide +kernel
theorem dX11_guestLine_74 : decode cX11_guestLine 74 = .ok (.iconst 5, 1) := by decide +kernel
theorem dX11_guestLine_75 : decode cX11_guestLine 75 = .ok (.aload_n 0, 1) := by decide +kernel
theorem dX11_guestLine_76 : decode cX11_guestLine 76 = .ok (.getfield 93, 3) := by decide +kernel
theorem dX11_guestLine_79 : decode cX11_guestLine 79 = .ok (.invokevirtual 139, 3) := by decide +kernel
theorem dX11_guestLine_82 : decode cX11_guestLine 82 = .ok (.aload_n 0, 1) := by decide +kernel
theorem dX11_guestLine_83 : decode cX11_guestLine 83 = .ok (.getfield 112, 3) := by decide +kernel
theorem dX11_guestLine_86 : decode cX11_guestLine 86 = .ok (.ifCond .eq 4, 3) := by decide +kernel
theorem dX11_guestLine_89 : decode cX11_guestLine 89 = .ok (.return_, 1) := by decide +kernel
theorem dX11_guestLine_90 : decode cX11_guestLine 90 = .ok (.iconst 0, 1) := by decide +kernel
theorem dX11_guestLine_91 : decode cX11_guestLine 91 = .ok (.istore_n 3, 1) := by decide +kernel
theorem dX11_guestLine_92 : decode cX11_guestLine 92 = .ok (.iload_n 3, 1) := by decide +kernel
theorem dX11_guestLine_93 : decode cX11_guestLine 93 = .ok (.aload_n 0, 1) := by decide +kernel
theorem dX11_guestLine_94 : decode cX11_guestLine 94 = .ok (.getfield 96, 3) := by decide +kernel
theorem dX11_guestLine_97 : decode cX11_guestLine 97 = .ok (.if_icmp .ge 30, 3) := by decide +kernel
theorem dX11_guestLine_100 : decode cX11_guestLine 100 = .ok (.aload_n 0, 1) := by decide +kernel
theorem dX11_guestLine_101 : decode cX11_guestLine 101 = .ok (.getfield 23, 3) := by decide +kernel
theorem dX11_guestLine_104 : decode cX11_guestLine 104 = .ok (.sipush 231, 3) := by decide +kernel
theorem dX11_guestLine_107 : decode cX11_guestLine 107 = .ok (.bipush 8, 2) := by decide +kernel
theorem dX11_guestLine_109 : decode cX11_guestLine 109 = .ok (.iload_n 2, 1) := by decide +kernel
theorem dX11_guestLine_110 : decode cX11_guestLine 110 = .ok (.imul, 1) := by decide +kernel
theorem dX11_guestLine_111 : decode cX11_guestLine 111 = .ok (.iadd, 1) := by decide +kernel
theorem dX11_guestLine_112 : decode cX11_guestLine 112 = .ok (.iload_n 3, 1) := by decide +kernel
theorem dX11_guestLine_113 : decode cX11_guestLine 113 = .ok (.iadd, 1) := by decide +kernel
theorem dX11_guestLine_114 : decode cX11_guestLine 114 = .ok (.aload_n 0, 1) := by decide +kernel
theorem dX11_guestLine_115 : decode cX11_guestLine 115 = .ok (.getfield 17, 3) := by decide +kernel
theorem dX11_guestLine_118 : decode cX11_guestLine 118 = .ok (.iload_n 3, 1) := by decide +kernel
theorem dX11_guestLine_119 : decode cX11_guestLine 119 = .ok (.iaload, 1) := by decide +kernel
theorem dX11_guestLine_120 : decode cX11_guestLine 120 = .ok (.iastore, 1) := by decide +kernel
theorem dX11_guestLine_121 : decode cX11_guestLine 121 = .ok (.iinc 3 1, 3) := by decide +kernel
theorem dX11_guestLine_124 : decode cX11_guestLine 124 = .ok (.goto (-32), 3) := by decide +kernel
theorem dX11_guestLine_127 : decode cX11_guestLine 127 = .ok (.aload_n 0, 1) := by decide +kernel
theorem dX11_guestLine_128 : decode cX11_guestLine 128 = .ok (.getfield 23, 3) := by decide +kernel
theorem dX11_guestLine_131 : decode cX11_guestLine 131 = .ok (.sipush 223, 3) := by decide +kernel
theorem dX11_guestLine_134 : decode cX11_guestLine 134 = .ok (.iload_n 2, 1) := by decide +kernel
theorem dX11_guestLine_135 : decode cX11_guestLine 135 = .ok (.iadd, 1) := by decide +kernel
theorem dX11_guestLine_136 : decode cX11_guestLine 136 = .ok (.aload_n 0, 1) := by decide +kernel
theorem dX11_guestLine_137 : decode cX11_guestLine 137 = .ok (.getfield 96, 3) := by decide +kernel
theorem dX11_guestLine_140 : decode cX11_guestLine 140 = .ok (.iastore, 1) := by decide +kernel
theorem dX11_guestLine_141 : decode cX11_guestLine 141 = .ok (.aload_n 0, 1) := by decide +kernel
theorem dX11_guestLine_142 : decode cX11_guestLine 142 = .ok (.getfield 23, 3) := by decide +kernel
theorem dX11_guestLine_145 : decode cX11_guestLine 145 = .ok (.sipush 295, 3) := by decide +kernel
theorem dX11_guestLine_148 : decode cX11_guestLine 148 = .ok (.iload_n 2, 1) := by decide +kernel
theorem dX11_guestLine_149 : decode cX11_guestLine 149 = .ok (.iadd, 1) := by decide +kernel
theorem dX11_guestLine_150 : decode cX11_guestLine 150 = .ok (.aload_n 0, 1) := by decide +kernel
theorem dX11_guestLine_151 : decode cX11_guestLine 151 = .ok (.getfield 17, 3) := by decide +kernel
theorem dX11_guestLine_154 : decode cX11_guestLine 154 = .ok (.iconst 0, 1) := by decide +kernel
theorem dX11_guestLine_155 : decode cX11_guestLine 155 = .ok (.iaload, 1) := by decide +kernel
theorem dX11_guestLine_156 : decode cX11_guestLine 156 = .ok (.bipush 97, 2) := by decide +kernel
theorem dX11_guestLine_158 : decode cX11_guestLine 158 = .ok (.isub, 1) := by decide +kernel
theorem dX11_guestLine_159 : decode cX11_guestLine 159 = .ok (.iastore, 1) := by decide +kernel
theorem dX11_guestLine_160 : decode cX11_guestLine 160 = .ok (.aload_n 0, 1) := by decide +kernel
theorem dX11_guestLine_161 : decode cX11_guestLine 161 = .ok (.getfield 23, 3) := by decide +kernel
theorem dX11_guestLine_164 : decode cX11_guestLine 164 = .ok (.iconst 4, 1) := by decide +kernel
theorem dX11_guestLine_165 : decode cX11_guestLine 165 = .ok (.dup2, 1) := by decide +kernel
theorem dX11_guestLine_166 : decode cX11_guestLine 166 = .ok (.iaload, 1) := by decide +kernel
theorem dX11_guestLine_167 : decode cX11_guestLine 167 = .ok (.iconst 1, 1) := by decide +kernel
theorem dX11_guestLine_168 : decode cX11_guestLine 168 = .ok (.iadd, 1) := by decide +kernel
theorem dX11_guestLine_169 : decode cX11_guestLine 169 = .ok (.iastore, 1) := by decide +kernel
theorem dX11_guestLine_170 : decode cX11_guestLine 170 = .ok (.aload_n 0, 1) := by decide +kernel
theorem dX11_guestLine_171 : decode cX11_guestLine 171 = .ok (.invokevirtual 133, 3) := by decide +kernel
theorem dX11_guestLine_174 : decode cX11_guestLine 174 = .ok (.aload_n 0, 1) := by decide +kernel
theorem dX11_guestLine_175 : decode cX11_guestLine 175 = .ok (.invokevirtual 233, 3) := by decide +kernel
theorem dX11_guestLine_178 : decode cX11_guestLine 178 = .ok (.istore_n 1, 1) := by decide +kernel
theorem dX11_guestLine_179 : decode cX11_guestLine 179 = .ok (.goto (-166), 3) := by decide +kernel
theorem dX11_guestLine_182 : decode cX11_guestLine 182 = .ok (.return_, 1) := by decide +kernel
theorem dX11_likelyLine_0 : decode cX11_likelyLine 0 = .ok (.aload_n 0, 1) := by decide +kernel
theorem dX11_likelyLine_1 : decode cX11_likelyLine 1 = .ok (.getfield 112, 3) := by decide +kernel
theorem dX11_likelyLine_4 : decode cX11_likelyLine 4 = .ok (.ifCond .eq 4, 3) := by decide +kernel
theorem dX11_likelyLine_7 : decode cX11_likelyLine 7 = .ok (.return_, 1) := by decide +kernel
theorem dX11_likelyLine_8 : decode cX11_likelyLine 8 = .ok (.aload_n 0, 1) := by decide +kernel
theorem dX11_likelyLine_9 : decode cX11_likelyLine 9 = .ok (.getfield 23, 3) := by decide +kernel
theorem dX11_likelyLine_12 : decode cX11_likelyLine 12 = .ok (.iconst 5, 1) := by decide +kernel
theorem dX11_likelyLine_13 : decode cX11_likelyLine 13 = .ok (.iaload, 1) := by decide +kernel
theorem dX11_likelyLine_14 : decode cX11_likelyLine 14 = .ok (.istore_n 1, 1) := by decide +kernel
theorem dX11_likelyLine_15 : decode cX11_likelyLine 15 = .ok (.aload_n 0, 1) := by decide +kernel
theorem dX11_likelyLine_16 : decode cX11_likelyLine 16 = .ok (.invokevirtual 222, 3) := by decide +kernel
theorem dX11_likelyLine_19 : decode cX11_likelyLine 19 = .ok (.aload_n 0, 1) := by decide +kernel
theorem dX11_likelyLine_20 : decode cX11_likelyLine 20 = .ok (.getfield 112, 3) := by decide +kernel
theorem dX11_likelyLine_23 : decode cX11_likelyLine 23 = .ok (.ifCond .eq 4, 3) := by decide +kernel
theorem dX11_likelyLine_26 : decode cX11_likelyLine 26 = .ok (.return_, 1) := by decide +kernel
theorem dX11_likelyLine_27 : decode cX11_likelyLine 27 = .ok (.iconst 0, 1) := by decide +kernel
theorem dX11_likelyLine_28 : decode cX11_likelyLine 28 = .ok (.istore_n 2, 1) := by decide +kernel
theorem dX11_likelyLine_29 : decode cX11_likelyLine 29 = .ok (.iconst 0, 1) := by decide +kernel
theorem dX11_likelyLine_30 : decode cX11_likelyLine 30 = .ok (.istore_n 3, 1) := by decide +kernel
theorem dX11_likelyLine_31 : decode cX11_likelyLine 31 = .ok (.iload_n 3, 1) := by decide +kernel
theorem dX11_likelyLine_32 : decode cX11_likelyLine 32 = .ok (.iload_n 1, 1) := by decide +kernel
theorem dX11_likelyLine_33 : decode cX11_likelyLine 33 = .ok (.if_icmp .ge 49, 3) := by decide +kernel
theorem dX11_likelyLine_36 : decode cX11_likelyLine 36 = .ok (.iload_n 2, 1) := by decide +kernel
theorem dX11_likelyLine_37 : decode cX11_likelyLine 37 = .ok (.ifCond .ne 33, 3) := by decide +kernel
theorem dX11_likelyLine_40 : decode cX11_likelyLine 40 = .ok (.aload_n 0, 1) := by decide +kernel
theorem dX11_likelyLine_41 : decode cX11_likelyLine 41 = .ok (.getfield 96, 3) := by decide +kernel
theorem dX11_likelyLine_44 : decode cX11_likelyLine 44 = .ok (.iconst 1, 1) := by decide +kernel
theorem dX11_likelyLine_45 : decode cX11_likelyLine 45 = .ok (.if_icmp .ne 29, 3) := by decide +kernel
theorem dX11_likelyLine_48 : decode cX11_likelyLine 48 = .ok (.aload_n 0, 1) := by decide +kernel
theorem dX11_likelyLine_49 : decode cX11_likelyLine 49 = .ok (.getfield 23, 3) := by decide +kernel
theorem dX11_likelyLine_52 : decode cX11_likelyLine 52 = .ok (.sipush 303, 3) := by decide +kernel
theorem dX11_likelyLine_55 : decode cX11_likelyLine 55 = .ok (.iload_n 3, 1) := by decide +kernel
theorem dX11_likelyLine_56 : decode cX11_likelyLine 56 = .ok (.iadd, 1) := by decide +kernel
theorem dX11_likelyLine_57 : decode cX11_likelyLine 57 = .ok (.iaload, 1) := by decide +kernel
theorem dX11_likelyLine_58 : decode cX11_likelyLine 58 = .ok (.aload_n 0, 1) := by decide +kernel
theorem dX11_likelyLine_59 : decode cX11_likelyLine 59 = .ok (.getfield 17, 3) := by decide +kernel
theorem dX11_likelyLine_62 : decode cX11_likelyLine 62 = .ok (.iconst 0, 1) := by decide +kernel
theorem dX11_likelyLine_63 : decode cX11_likelyLine 63 = .ok (.iaload, 1) := by decide +kernel
theorem dX11_likelyLine_64 : decode cX11_likelyLine 64 = .ok (.bipush 97, 2) := by decide +kernel
theorem dX11_likelyLine_66 : decode cX11_likelyLine 66 = .ok (.isub, 1) := by decide +kernel
theorem dX11_likelyLine_67 : decode cX11_likelyLine 67 = .ok (.if_icmp .ne 7, 3) := by decide +kernel
theorem dX11_likelyLine_70 : decode cX11_likelyLine 70 = .ok (.iconst 1, 1) := by decide +kernel
theorem dX11_likelyLine_71 : decode cX11_likelyLine 71 = .ok (.goto 4, 3) := by decide +kernel
theorem dX11_likelyLine_74 : decode cX11_likelyLine 74 = .ok (.iconst 0, 1) := by decide +kernel
theorem dX11_likelyLine_75 : decode cX11_likelyLine 75 = .ok (.istore_n 2, 1) := by decide +kernel
theorem dX11_likelyLine_76 : decode cX11_likelyLine 76 = .ok (.iinc 3 1, 3) := by decide +kernel
theorem dX11_likelyLine_79 : decode cX11_likelyLine 79 = .ok (.goto (-48), 3) := by decide +kernel
theorem dX11_likelyLine_82 : decode cX11_likelyLine 82 = .ok (.iload_n 2, 1) := by decide +kernel
theorem dX11_likelyLine_83 : decode cX11_likelyLine 83 = .ok (.ifCond .eq 12, 3) := by decide +kernel
theorem dX11_likelyLine_86 : decode cX11_likelyLine 86 = .ok (.aload_n 0, 1) := by decide +kernel
theorem dX11_likelyLine_87 : decode cX11_likelyLine 87 = .ok (.iconst 3, 1) := by decide +kernel
theorem dX11_likelyLine_88 : decode cX11_likelyLine 88 = .ok (.aload_n 0, 1) := by decide +kernel
theorem dX11_likelyLine_89 : decode cX11_likelyLine 89 = .ok (.getfield 93, 3) := by decide +kernel
theorem dX11_likelyLine_92 : decode cX11_likelyLine 92 = .ok (.invokevirtual 139, 3) := by decide +kernel
theorem dX11_likelyLine_95 : decode cX11_likelyLine 95 = .ok (.aload_n 0, 1) := by decide +kernel
theorem dX11_likelyLine_96 : decode cX11_likelyLine 96 = .ok (.getfield 112, 3) := by decide +kernel
theorem dX11_likelyLine_99 : decode cX11_likelyLine 99 = .ok (.ifCond .ne 20, 3) := by decide +kernel
theorem dX11_likelyLine_102 : decode cX11_likelyLine 102 = .ok (.aload_n 0, 1) := by decide +kernel
theorem dX11_likelyLine_103 : decode cX11_likelyLine 103 = .ok (.getfield 96, 3) := by decide +kernel
theorem dX11_likelyLine_106 : decode cX11_likelyLine 106 = .ok (.iconst 1, 1) := by decide +kernel
theorem dX11_likelyLine_107 : decode cX11_likelyLine 107 = .ok (.if_icmp .le 12, 3) := by decide +kernel
theorem dX11_likelyLine_110 : decode cX11_likelyLine 110 = .ok (.aload_n 0, 1) := by decide +kernel
theorem dX11_likelyLine_111 : decode cX11_likelyLine 111 = .ok (.iconst 4, 1) := by decide +kernel
theorem dX11_likelyLine_112 : decode cX11_likelyLine 112 = .ok (.aload_n 0, 1) := by decide +kernel
theorem dX11_likelyLine_113 : decode cX11_likelyLine 113 = .ok (.getfield 93, 3) := by decide +kernel
theorem dX11_likelyLine_116 : decode cX11_likelyLine 116 = .ok (.invokevirtual 139, 3) := by decide +kernel
theorem dX11_likelyLine_119 : decode cX11_likelyLine 119 = .ok (.aload_n 0, 1) := by decide +kernel
theorem dX11_likelyLine_120 : decode cX11_likelyLine 120 = .ok (.getfield 112, 3) := by decide +kernel
theorem dX11_likelyLine_123 : decode cX11_likelyLine 123 = .ok (.ifCond .eq 4, 3) := by decide +kernel
theorem dX11_likelyLine_126 : decode cX11_likelyLine 126 = .ok (.return_, 1) := by decide +kernel
theorem dX11_likelyLine_127 : decode cX11_likelyLine 127 = .ok (.aload_n 0, 1) := by decide +kernel
theorem dX11_likelyLine_128 : decode cX11_likelyLine 128 = .ok (.getfield 23, 3) := by decide +kernel
theorem dX11_likelyLine_131 : decode cX11_likelyLine 131 = .ok (.sipush 303, 3) := by decide +kernel
theorem dX11_likelyLine_134 : decode cX11_likelyLine 134 = .ok (.iload_n 1, 1) := by decide +kernel
theorem dX11_likelyLine_135 : decode cX11_likelyLine 135 = .ok (.iadd, 1) := by decide +kernel
theorem dX11_likelyLine_136 : decode cX11_likelyLine 136 = .ok (.aload_n 0, 1) := by decide +kernel
theorem dX11_likelyLine_137 : decode cX11_likelyLine 137 = .ok (.getfield 17, 3) := by decide +kernel
theorem dX11_likelyLine_140 : decode cX11_likelyLine 140 = .ok (.iconst 0, 1) := by decide +kernel
theorem dX11_likelyLine_141 : decode cX11_likelyLine 141 = .ok (.iaload, 1) := by decide +kernel
theorem dX11_likelyLine_142 : decode cX11_likelyLine 142 = .ok (.bipush 97, 2) := by decide +kernel
theorem dX11_likelyLine_144 : decode cX11_likelyLine 144 = .ok (.isub, 1) := by decide +kernel
theorem dX11_likelyLine_145 : decode cX11_likelyLine 145 = .ok (.iastore, 1) := by decide +kernel
theorem dX11_likelyLine_146 : decode cX11_likelyLine 146 = .ok (.aload_n 0, 1) := by decide +kernel
theorem dX11_likelyLine_147 : decode cX11_likelyLine 147 = .ok (.invokevirtual 133, 3) := by decide +kernel
theorem dX11_likelyLine_150 : decode cX11_likelyLine 150 = .ok (.aload_n 0, 1) := by decide +kernel
theorem dX11_likelyLine_151 : decode cX11_likelyLine 151 = .ok (.getfield 23, 3) := by decide +kernel
theorem dX11_likelyLine_154 : decode cX11_likelyLine 154 = .ok (.sipush 309, 3) := by decide +kernel
theorem dX11_likelyLine_157 : decode cX11_likelyLine 157 = .ok (.iload_n 1, 1) := by decide +kernel
theorem dX11_likelyLine_158 : decode cX11_likelyLine 158 = .ok (.iadd, 1) := by decide +kernel
theorem dX11_likelyLine_159 : decode cX11_likelyLine 159 = .ok (.aload_n 0, 1) := by decide +kernel
theorem dX11_likelyLine_160 : decode cX11_likelyLine 160 = .ok (.iconst 1, 1) := by decide +kernel
theorem dX11_likelyLine_161 : decode cX11_likelyLine 161 = .ok (.bipush 9, 2) := by decide +kernel
theorem dX11_likelyLine_163 : decode cX11_likelyLine 163 = .ok (.invokevirtual 151, 3) := by decide +kernel
theorem dX11_likelyLine_166 : decode cX11_likelyLine 166 = .ok (.iastore, 1) := by decide +kernel
theorem dX11_likelyLine_167 : decode cX11_likelyLine 167 = .ok (.aload_n 0, 1) := by decide +kernel
theorem dX11_likelyLine_168 : decode cX11_likelyLine 168 = .ok (.getfield 112, 3) := by decide +kernel
theorem dX11_likelyLine_171 : decode cX11_likelyLine 171 = .ok (.ifCond .ne 13, 3) := by decide +kernel
theorem dX11_likelyLine_174 : decode cX11_likelyLine 174 = .ok (.aload_n 0, 1) := by decide +kernel
theorem dX11_likelyLine_175 : decode cX11_likelyLine 175 = .ok (.getfield 23, 3) := by decide +kernel
theorem dX11_likelyLine_178 : decode cX11_likelyLine 178 = .ok (.iconst 5, 1) := by decide +kernel
theorem dX11_likelyLine_179 : decode cX11_likelyLine 179 = .ok (.dup2, 1) := by decide +kernel
theorem dX11_likelyLine_180 : decode cX11_likelyLine 180 = .ok (.iaload, 1) := by decide +kernel
theorem dX11_likelyLine_181 : decode cX11_likelyLine 181 = .ok (.iconst 1, 1) := by decide +kernel
theorem dX11_likelyLine_182 : decode cX11_likelyLine 182 = .ok (.iadd, 1) := by decide +kernel
theorem dX11_likelyLine_183 : decode cX11_likelyLine 183 = .ok (.iastore, 1) := by decide +kernel
theorem dX11_likelyLine_184 : decode cX11_likelyLine 184 = .ok (.return_, 1) := by decide +kernel
theorem dX11_seenLine_0 : decode cX11_seenLine 0 = .ok (.aload_n 0, 1) := by decide +kernel
theorem dX11_seenLine_1 : decode cX11_seenLine 1 = .ok (.getfield 112, 3) := by decide +kernel
theorem dX11_seenLine_4 : decode cX11_seenLine 4 = .ok (.ifCond .eq 4, 3) := by decide +kernel
theorem dX11_seenLine_7 : decode cX11_seenLine 7 = .ok (.return_, 1) := by decide +kernel
theorem dX11_seenLine_8 : decode cX11_seenLine 8 = .ok (.aload_n 0, 1) := by decide +kernel
theorem dX11_seenLine_9 : decode cX11_seenLine 9 = .ok (.getfield 23, 3) := by decide +kernel
theorem dX11_seenLine_12 : decode cX11_seenLine 12 = .ok (.sipush 321, 3) := by decide +kernel
theorem dX11_seenLine_15 : decode cX11_seenLine 15 = .ok (.iconst 1, 1) := by decide +kernel
theorem dX11_seenLine_16 : decode cX11_seenLine 16 = .ok (.iastore, 1) := by decide +kernel
theorem dX11_seenLine_17 : decode cX11_seenLine 17 = .ok (.iconst 1, 1) := by decide +kernel
theorem dX11_seenLine_18 : decode cX11_seenLine 18 = .ok (.istore_n 1, 1) := by decide +kernel
theorem dX11_seenLine_19 : decode cX11_seenLine 19 = .ok (.iload_n 1, 1) := by decide +kernel
theorem dX11_seenLine_20 : decode cX11_seenLine 20 = .ok (.ifCond .eq 131, 3) := by decide +kernel
theorem dX11_seenLine_23 : decode cX11_seenLine 23 = .ok (.aload_n 0, 1) := by decide +kernel
theorem dX11_seenLine_24 : decode cX11_seenLine 24 = .ok (.invokevirtual 222, 3) := by decide +kernel
theorem dX11_seenLine_27 : decode cX11_seenLine 27 = .ok (.aload_n 0, 1) := by decide +kernel
theorem dX11_seenLine_28 : decode cX11_seenLine 28 = .ok (.getfield 112, 3) := by decide +kernel
theorem dX11_seenLine_31 : decode cX11_seenLine 31 = .ok (.ifCond .eq 7, 3) := by decide +kernel
theorem dX11_seenLine_34 : decode cX11_seenLine 34 = .ok (.iconst (-1), 1) := by decide +kernel
theorem dX11_seenLine_35 : decode cX11_seenLine 35 = .ok (.goto 19, 3) := by decide +kernel
theorem dX11_seenLine_38 : decode cX11_seenLine 38 = .ok (.aload_n 0, 1) := by decide +kernel
theorem dX11_seenLine_39 : decode cX11_seenLine 39 = .ok (.aload_n 0, 1) := by decide +kernel
theorem dX11_seenLine_40 : decode cX11_seenLine 40 = .ok (.getfield 23, 3) := by decide +kernel
theorem dX11_seenLine_43 : decode cX11_seenLine 43 = .ok (.iconst 3, 1) := by decide +kernel
theorem dX11_seenLine_44 : decode cX11_seenLine 44 = .ok (.iaload, 1) := by decide +kernel
theorem dX11_seenLine_45 : decode cX11_seenLine 45 = .ok (.bipush 7, 2) := by decide +kernel
theorem dX11_seenLine_47 : decode cX11_seenLine 47 = .ok (.bipush 31, 2) := by decide +kernel
theorem dX11_seenLine_49 : decode cX11_seenLine 49 = .ok (.bipush 6, 2) := by decide +kernel
theorem dX11_seenLine_51 : decode cX11_seenLine 51 = .ok (.invokevirtual 225, 3) := by decide +kernel
theorem dX11_seenLine_54 : decode cX11_seenLine 54 = .ok (.istore_n 2, 1) := by decide +kernel
theorem dX11_seenLine_55 : decode cX11_seenLine 55 = .ok (.aload_n 0, 1) := by decide +kernel
theorem dX11_seenLine_56 : decode cX11_seenLine 56 = .ok (.getfield 112, 3) := by decide +kernel
theorem dX11_seenLine_59 : decode cX11_seenLine 59 = .ok (.ifCond .ne 16, 3) := by decide +kernel
theorem dX11_seenLine_62 : decode cX11_seenLine 62 = .ok (.iload_n 2, 1) := by decide +kernel
theorem dX11_seenLine_63 : decode cX11_seenLine 63 = .ok (.ifCond .ge 12, 3) := by decide +kernel
theorem dX11_seenLine_66 : decode cX11_seenLine 66 = .ok (.aload_n 0, 1) := by decide +kernel
theorem dX11_seenLine_67 : decode cX11_seenLine 67 = .ok (.iconst 2, 1) := by decide +kernel
theorem dX11_seenLine_68 : decode cX11_seenLine 68 = .ok (.aload_n 0, 1) := by decide +kernel
theorem dX11_seenLine_69 : decode cX11_seenLine 69 = .ok (.getfield 93, 3) := by decide +kernel
theorem dX11_seenLine_72 : decode cX11_seenLine 72 = .ok (.invokevirtual 139, 3) := by decide +kernel
theorem dX11_seenLine_75 : decode cX11_seenLine 75 = .ok (.aload_n 0, 1) := by decide +kernel
theorem dX11_seenLine_76 : decode cX11_seenLine 76 = .ok (.getfield 112, 3) := by decide +kernel
theorem dX11_seenLine_79 : decode cX11_seenLine 79 = .ok (.ifCond .ne 24, 3) := by decide +kernel
theorem dX11_seenLine_82 : decode cX11_seenLine 82 = .ok (.aload_n 0, 1) := by decide +kernel
theorem dX11_seenLine_83 : decode cX11_seenLine 83 = .ok (.getfield 23, 3) := by decide +kernel
theorem dX11_seenLine_86 : decode cX11_seenLine 86 = .ok (.bipush 6, 2) := by decide +kernel
theorem dX11_seenLine_88 : decode cX11_seenLine 88 = .ok (.iaload, 1) := by decide +kernel
theorem dX11_seenLine_89 : decode cX11_seenLine 89 = .ok (.bipush 6, 2) := by decide +kernel
theorem dX11_seenLine_91 : decode cX11_seenLine 91 = .ok (.if_icmp .ne 12, 3) := by decide +kernel
theorem dX11_seenLine_94 : decode cX11_seenLine 94 = .ok (.aload_n 0, 1) := by decide +kernel
theorem dX11_seenLine_95 : decode cX11_seenLine 95 = .ok (.iconst 5, 1) := by decide +kernel
theorem dX11_seenLine_96 : decode cX11_seenLine 96 = .ok (.aload_n 0, 1) := by decide +kernel
theorem dX11_seenLine_97 : decode cX11_seenLine 97 = .ok (.getfield 93, 3) := by decide +kernel
theorem dX11_seenLine_100 : decode cX11_seenLine 100 = .ok (.invokevirtual 139, 3) := by decide +kernel
theorem dX11_seenLine_103 : decode cX11_seenLine 103 = .ok (.aload_n 0, 1) := by decide +kernel
theorem dX11_seenLine_104 : decode cX11_seenLine 104 = .ok (.getfield 112, 3) := by decide +kernel
theorem dX11_seenLine_107 : decode cX11_seenLine 107 = .ok (.ifCond .eq 4, 3) := by decide +kernel
theorem dX11_seenLine_110 : decode cX11_seenLine 110 = .ok (.return_, 1) := by decide +kernel
theorem dX11_seenLine_111 : decode cX11_seenLine 111 = .ok (.aload_n 0, 1) := by decide +kernel
theorem dX11_seenLine_112 : decode cX11_seenLine 112 = .ok (.getfield 23, 3) := by decide +kernel
theorem dX11_seenLine_115 : decode cX11_seenLine 115 = .ok (.sipush 315, 3) := by decide +kernel
theorem dX11_seenLine_118 : decode cX11_seenLine 118 = .ok (.aload_n 0, 1) := by decide +kernel
theorem dX11_seenLine_119 : decode cX11_seenLine 119 = .ok (.getfield 23, 3) := by decide +kernel
theorem dX11_seenLine_122 : decode cX11_seenLine 122 = .ok (.bipush 6, 2) := by decide +kernel
theorem dX11_seenLine_124 : decode cX11_seenLine 124 = .ok (.iaload, 1) := by decide +kernel
theorem dX11_seenLine_125 : decode cX11_seenLine 125 = .ok (.iadd, 1) := by decide +kernel
theorem dX11_seenLine_126 : decode cX11_seenLine 126 = .ok (.iload_n 2, 1) := by decide +kernel
theorem dX11_seenLine_127 : decode cX11_seenLine 127 = .ok (.iastore, 1) := by decide +kernel
theorem dX11_seenLine_128 : decode cX11_seenLine 128 = .ok (.aload_n 0, 1) := by decide +kernel
theorem dX11_seenLine_129 : decode cX11_seenLine 129 = .ok (.getfield 23, 3) := by decide +kernel
theorem dX11_seenLine_132 : decode cX11_seenLine 132 = .ok (.bipush 6, 2) := by decide +kernel
theorem dX11_seenLine_134 : decode cX11_seenLine 134 = .ok (.dup2, 1) := by decide +kernel
theorem dX11_seenLine_135 : decode cX11_seenLine 135 = .ok (.iaload, 1) := by decide +kernel
theorem dX11_seenLine_136 : decode cX11_seenLine 136 = .ok (.iconst 1, 1) := by decide +kernel
theorem dX11_seenLine_137 : decode cX11_seenLine 137 = .ok (.iadd, 1) := by decide +kernel
theorem dX11_seenLine_138 : decode cX11_seenLine 138 = .ok (.iastore, 1) := by decide +kernel
theorem dX11_seenLine_139 : decode cX11_seenLine 139 = .ok (.aload_n 0, 1) := by decide +kernel
theorem dX11_seenLine_140 : decode cX11_seenLine 140 = .ok (.invokevirtual 133, 3) := by decide +kernel
theorem dX11_seenLine_143 : decode cX11_seenLine 143 = .ok (.aload_n 0, 1) := by decide +kernel
theorem dX11_seenLine_144 : decode cX11_seenLine 144 = .ok (.invokevirtual 233, 3) := by decide +kernel
theorem dX11_seenLine_147 : decode cX11_seenLine 147 = .ok (.istore_n 1, 1) := by decide +kernel
theorem dX11_seenLine_148 : decode cX11_seenLine 148 = .ok (.goto (-129), 3) := by decide +kernel
theorem dX11_seenLine_151 : decode cX11_seenLine 151 = .ok (.return_, 1) := by decide +kernel
theorem dX11_fault_0 : decode cX11_fault 0 = .ok (.aload_n 0, 1) := by decide +kernel
theorem dX11_fault_1 : decode cX11_fault 1 = .ok (.iconst 0, 1) := by decide +kernel
theorem dX11_fault_2 : decode cX11_fault 2 = .ok (.putfield 74, 3) := by decide +kernel
theorem dX11_fault_5 : decode cX11_fault 5 = .ok (.aload_n 0, 1) := by decide +kernel
theorem dX11_fault_6 : decode cX11_fault 6 = .ok (.getfield 116, 3) := by decide +kernel
theorem dX11_fault_9 : decode cX11_fault 9 = .ok (.ireturn, 1) := by decide +kernel
theorem dX11_where_0 : decode cX11_where 0 = .ok (.aload_n 0, 1) := by decide +kernel
theorem dX11_where_1 : decode cX11_where 1 = .ok (.iconst 0, 1) := by decide +kernel
theorem dX11_where_2 : decode cX11_where 2 = .ok (.putfield 74, 3) := by decide +kernel
theorem dX11_where_5 : decode cX11_where 5 = .ok (.aload_n 0, 1) := by decide +kernel
theorem dX11_where_6 : decode cX11_where 6 = .ok (.getfield 77, 3) := by decide +kernel
theorem dX11_where_9 : decode cX11_where 9 = .ok (.iconst 4, 1) := by decide +kernel
theorem dX11_where_10 : decode cX11_where 10 = .ok (.if_icmp .ne 10, 3) := by decide +kernel
theorem dX11_where_13 : decode cX11_where 13 = .ok (.aload_n 0, 1) := by decide +kernel
theorem dX11_where_14 : decode cX11_where 14 = .ok (.getfield 13, 3) := by decide +kernel
theorem dX11_where_17 : decode cX11_where 17 = .ok (.goto 4, 3) := by decide +kernel
theorem dX11_where_20 : decode cX11_where 20 = .ok (.iconst (-1), 1) := by decide +kernel
theorem dX11_where_21 : decode cX11_where 21 = .ok (.ireturn, 1) := by decide +kernel
theorem dX11_isWordThere_0 : decode cX11_isWordThere 0 = .ok (.aload_n 0, 1) := by decide +kernel
theorem dX11_isWordThere_1 : decode cX11_isWordThere 1 = .ok (.getfield 164, 3) := by decide +kernel
theorem dX11_isWordThere_4 : decode cX11_isWordThere 4 = .ok (.ifCond .eq 23, 3) := by decide +kernel
theorem dX11_isWordThere_7 : decode cX11_isWordThere 7 = .ok (.iload_n 1, 1) := by decide +kernel
theorem dX11_isWordThere_8 : decode cX11_isWordThere 8 = .ok (.iconst 0, 1) := by decide +kernel
theorem dX11_isWordThere_9 : decode cX11_isWordThere 9 = .ok (.aload_n 0, 1) := by decide +kernel
theorem dX11_isWordThere_10 : decode cX11_isWordThere 10 = .ok (.getfield 20, 3) := by decide +kernel
theorem dX11_isWordThere_13 : decode cX11_isWordThere 13 = .ok (.iconst 3, 1) := by decide +kernel
theorem dX11_isWordThere_14 : decode cX11_isWordThere 14 = .ok (.iaload, 1) := by decide +kernel
theorem dX11_isWordThere_15 : decode cX11_isWordThere 15 = .ok (.iconst 1, 1) := by decide +kernel
theorem dX11_isWordThere_16 : decode cX11_isWordThere 16 = .ok (.isub, 1) := by decide +kernel
theorem dX11_isWordThere_17 : decode cX11_isWordThere 17 = .ok (.invokestatic 143, 3) := by decide +kernel
theorem dX11_isWordThere_20 : decode cX11_isWordThere 20 = .ok (.ifCond .eq 7, 3) := by decide +kernel
theorem dX11_isWordThere_23 : decode cX11_isWordThere 23 = .ok (.iconst 1, 1) := by decide +kernel
theorem dX11_isWordThere_24 : decode cX11_isWordThere 24 = .ok (.goto 4, 3) := by decide +kernel
theorem dX11_isWordThere_27 : decode cX11_isWordThere 27 = .ok (.iconst 0, 1) := by decide +kernel
theorem dX11_isWordThere_28 : decode cX11_isWordThere 28 = .ok (.ireturn, 1) := by decide +kernel
theorem dX11_isGuest_0 : decode cX11_isGuest 0 = .ok (.aload_n 0, 1) := by decide +kernel
theorem dX11_isGuest_1 : decode cX11_isGuest 1 = .ok (.getfield 164, 3) := by decide +kernel
theorem dX11_isGuest_4 : decode cX11_isGuest 4 = .ok (.ifCond .eq 23, 3) := by decide +kernel
theorem dX11_isGuest_7 : decode cX11_isGuest 7 = .ok (.iload_n 1, 1) := by decide +kernel
theorem dX11_isGuest_8 : decode cX11_isGuest 8 = .ok (.iconst 0, 1) := by decide +kernel
theorem dX11_isGuest_9 : decode cX11_isGuest 9 = .ok (.aload_n 0, 1) := by decide +kernel
theorem dX11_isGuest_10 : decode cX11_isGuest 10 = .ok (.getfield 20, 3) := by decide +kernel
theorem dX11_isGuest_13 : decode cX11_isGuest 13 = .ok (.iconst 4, 1) := by decide +kernel
theorem dX11_isGuest_14 : decode cX11_isGuest 14 = .ok (.iaload, 1) := by decide +kernel
theorem dX11_isGuest_15 : decode cX11_isGuest 15 = .ok (.iconst 1, 1) := by decide +kernel
theorem dX11_isGuest_16 : decode cX11_isGuest 16 = .ok (.isub, 1) := by decide +kernel
theorem dX11_isGuest_17 : decode cX11_isGuest 17 = .ok (.invokestatic 143, 3) := by decide +kernel
theorem dX11_isGuest_20 : decode cX11_isGuest 20 = .ok (.ifCond .eq 7, 3) := by decide +kernel
theorem dX11_isGuest_23 : decode cX11_isGuest 23 = .ok (.iconst 1, 1) := by decide +kernel
theorem dX11_isGuest_24 : decode cX11_isGuest 24 = .ok (.goto 4, 3) := by decide +kernel
theorem dX11_isGuest_27 : decode cX11_isGuest 27 = .ok (.iconst 0, 1) := by decide +kernel
theorem dX11_isGuest_28 : decode cX11_isGuest 28 = .ok (.ireturn, 1) := by decide +kernel
theorem dX11_isTable_0 : decode cX11_isTable 0 = .ok (.aload_n 0, 1) := by decide +kernel
theorem dX11_isTable_1 : decode cX11_isTable 1 = .ok (.getfield 164, 3) := by decide +kernel
theorem dX11_isTable_4 : decode cX11_isTable 4 = .ok (.ifCond .eq 23, 3) := by decide +kernel
theorem dX11_isTable_7 : decode cX11_isTable 7 = .ok (.iload_n 1, 1) := by decide +kernel
theorem dX11_isTable_8 : decode cX11_isTable 8 = .ok (.iconst 0, 1) := by decide +kernel
theorem dX11_isTable_9 : decode cX11_isTable 9 = .ok (.aload_n 0, 1) := by decide +kernel
theorem dX11_isTable_10 : decode cX11_isTable 10 = .ok (.getfield 20, 3) := by decide +kernel
theorem dX11_isTable_13 : decode cX11_isTable 13 = .ok (.iconst 0, 1) := by decide +kernel
theorem dX11_isTable_14 : decode cX11_isTable 14 = .ok (.iaload, 1) := by decide +kernel
theorem dX11_isTable_15 : decode cX11_isTable 15 = .ok (.iconst 1, 1) := by decide +kernel
theorem dX11_isTable_16 : decode cX11_isTable 16 = .ok (.isub, 1) := by decide +kernel
theorem dX11_isTable_17 : decode cX11_isTable 17 = .ok (.invokestatic 143, 3) := by decide +kernel
theorem dX11_isTable_20 : decode cX11_isTable 20 = .ok (.ifCond .eq 7, 3) := by decide +kernel
theorem dX11_isTable_23 : decode cX11_isTable 23 = .ok (.iconst 1, 1) := by decide +kernel
theorem dX11_isTable_24 : decode cX11_isTable 24 = .ok (.goto 4, 3) := by decide +kernel
theorem dX11_isTable_27 : decode cX11_isTable 27 = .ok (.iconst 0, 1) := by decide +kernel
theorem dX11_isTable_28 : decode cX11_isTable 28 = .ok (.ireturn, 1) := by decide +kernel
theorem dX11_isGood_0 : decode cX11_isGood 0 = .ok (.aload_n 0, 1) := by decide +kernel
theorem dX11_isGood_1 : decode cX11_isGood 1 = .ok (.getfield 20, 3) := by decide +kernel
theorem dX11_isGood_4 : decode cX11_isGood 4 = .ok (.sipush 199, 3) := by decide +kernel
theorem dX11_isGood_7 : decode cX11_isGood 7 = .ok (.iload_n 1, 1) := by decide +kernel
theorem dX11_isGood_8 : decode cX11_isGood 8 = .ok (.iadd, 1) := by decide +kernel
theorem dX11_isGood_9 : decode cX11_isGood 9 = .ok (.iaload, 1) := by decide +kernel
theorem dX11_isGood_10 : decode cX11_isGood 10 = .ok (.ifCond .ne 25, 3) := by decide +kernel
theorem dX11_isGood_13 : decode cX11_isGood 13 = .ok (.aload_n 0, 1) := by decide +kernel
theorem dX11_isGood_14 : decode cX11_isGood 14 = .ok (.getfield 20, 3) := by decide +kernel
theorem dX11_isGood_17 : decode cX11_isGood 17 = .ok (.bipush 7, 2) := by decide +kernel
theorem dX11_isGood_19 : decode cX11_isGood 19 = .ok (.iload_n 1, 1) := by decide +kernel
theorem dX11_isGood_20 : decode cX11_isGood 20 = .ok (.iadd, 1) := by decide +kernel
theorem dX11_isGood_21 : decode cX11_isGood 21 = .ok (.iaload, 1) := by decide +kernel
theorem dX11_isGood_22 : decode cX11_isGood 22 = .ok (.aload_n 0, 1) := by decide +kernel
theorem dX11_isGood_23 : decode cX11_isGood 23 = .ok (.getfield 20, 3) := by decide +kernel
theorem dX11_isGood_26 : decode cX11_isGood 26 = .ok (.iconst 1, 1) := by decide +kernel
theorem dX11_isGood_27 : decode cX11_isGood 27 = .ok (.iaload, 1) := by decide +kernel
theorem dX11_isGood_28 : decode cX11_isGood 28 = .ok (.if_icmp .gt 7, 3) := by decide +kernel
theorem dX11_isGood_31 : decode cX11_isGood 31 = .ok (.iconst 1, 1) := by decide +kernel
theorem dX11_isGood_32 : decode cX11_isGood 32 = .ok (.goto 4, 3) := by decide +kernel
theorem dX11_isGood_35 : decode cX11_isGood 35 = .ok (.iconst 0, 1) := by decide +kernel
theorem dX11_isGood_36 : decode cX11_isGood 36 = .ok (.ireturn, 1) := by decide +kernel
theorem dX11_letterAt_0 : decode cX11_letterAt 0 = .ok (.aload_n 0, 1) := by decide +kernel
theorem dX11_letterAt_1 : decode cX11_letterAt 1 = .ok (.getfield 20, 3) := by decide +kernel
theorem dX11_letterAt_4 : decode cX11_letterAt 4 = .ok (.bipush 31, 2) := by decide +kernel
theorem dX11_letterAt_6 : decode cX11_letterAt 6 = .ok (.bipush 6, 2) := by decide +kernel
theorem dX11_letterAt_8 : decode cX11_letterAt 8 = .ok (.iload_n 1, 1) := by decide +kernel
theorem dX11_letterAt_9 : decode cX11_letterAt 9 = .ok (.imul, 1) := by decide +kernel
theorem dX11_letterAt_10 : decode cX11_letterAt 10 = .ok (.iadd, 1) := by decide +kernel
theorem dX11_letterAt_11 : decode cX11_letterAt 11 = .ok (.iload_n 2, 1) := by decide +kernel
theorem dX11_letterAt_12 : decode cX11_letterAt 12 = .ok (.iadd, 1) := by decide +kernel
theorem dX11_letterAt_13 : decode cX11_letterAt 13 = .ok (.iaload, 1) := by decide +kernel
theorem dX11_letterAt_14 : decode cX11_letterAt 14 = .ok (.bipush 97, 2) := by decide +kernel
theorem dX11_letterAt_16 : decode cX11_letterAt 16 = .ok (.isub, 1) := by decide +kernel
theorem dX11_letterAt_17 : decode cX11_letterAt 17 = .ok (.ireturn, 1) := by decide +kernel
theorem dX11_layGrows_0 : decode cX11_layGrows 0 = .ok (.iconst 0, 1) := by decide +kernel
theorem dX11_layGrows_1 : decode cX11_layGrows 1 = .ok (.istore_n 1, 1) := by decide +kernel
theorem dX11_layGrows_2 : decode cX11_layGrows 2 = .ok (.iload_n 1, 1) := by decide +kernel
theorem dX11_layGrows_3 : decode cX11_layGrows 3 = .ok (.bipush 24, 2) := by decide +kernel
theorem dX11_layGrows_5 : decode cX11_layGrows 5 = .ok (.if_icmp .gt 40, 3) := by decide +kernel
theorem dX11_layGrows_8 : decode cX11_layGrows 8 = .ok (.iconst 0, 1) := by decide +kernel
theorem dX11_layGrows_9 : decode cX11_layGrows 9 = .ok (.istore_n 2, 1) := by decide +kernel
theorem dX11_layGrows_10 : decode cX11_layGrows 10 = .ok (.iload_n 2, 1) := by decide +kernel
theorem dX11_layGrows_11 : decode cX11_layGrows 11 = .ok (.bipush 24, 2) := by decide +kernel
theorem dX11_layGrows_13 : decode cX11_layGrows 13 = .ok (.if_icmp .ge 26, 3) := by decide +kernel
theorem dX11_layGrows_16 : decode cX11_layGrows 16 = .ok (.aload_n 0, 1) := by decide +kernel
theorem dX11_layGrows_17 : decode cX11_layGrows 17 = .ok (.getfield 32, 3) := by decide +kernel
theorem dX11_layGrows_20 : decode cX11_layGrows 20 = .ok (.bipush 24, 2) := by decide +kernel
theorem dX11_layGrows_22 : decode cX11_layGrows 22 = .ok (.iload_n 1, 1) := by decide +kernel
theorem dX11_layGrows_23 : decode cX11_layGrows 23 = .ok (.imul, 1) := by decide +kernel
theorem dX11_layGrows_24 : decode cX11_layGrows 24 = .ok (.iload_n 2, 1) := by decide +kernel
theorem dX11_layGrows_25 : decode cX11_layGrows 25 = .ok (.iadd, 1) := by decide +kernel
theorem dX11_layGrows_26 : decode cX11_layGrows 26 = .ok (.aload_n 0, 1) := by decide +kernel
theorem dX11_layGrows_27 : decode cX11_layGrows 27 = .ok (.iload_n 1, 1) := by decide +kernel
theorem dX11_layGrows_28 : decode cX11_layGrows 28 = .ok (.iload_n 2, 1) := by decide +kernel
theorem dX11_layGrows_29 : decode cX11_layGrows 29 = .ok (.invokevirtual 237, 3) := by decide +kernel
theorem dX11_layGrows_32 : decode cX11_layGrows 32 = .ok (.iastore, 1) := by decide +kernel
theorem dX11_layGrows_33 : decode cX11_layGrows 33 = .ok (.iinc 2 1, 3) := by decide +kernel
theorem dX11_layGrows_36 : decode cX11_layGrows 36 = .ok (.goto (-26), 3) := by decide +kernel
theorem dX11_layGrows_39 : decode cX11_layGrows 39 = .ok (.iinc 1 1, 3) := by decide +kernel
theorem dX11_layGrows_42 : decode cX11_layGrows 42 = .ok (.goto (-40), 3) := by decide +kernel
theorem dX11_layGrows_45 : decode cX11_layGrows 45 = .ok (.bipush 6, 2) := by decide +kernel
theorem dX11_layGrows_47 : decode cX11_layGrows 47 = .ok (.istore_n 1, 1) := by decide +kernel
theorem dX11_layGrows_48 : decode cX11_layGrows 48 = .ok (.iload_n 1, 1) := by decide +kernel
theorem dX11_layGrows_49 : decode cX11_layGrows 49 = .ok (.ifCond .lt 190, 3) := by decide +kernel
theorem dX11_layGrows_52 : decode cX11_layGrows 52 = .ok (.iconst 0, 1) := by decide +kernel
theorem dX11_layGrows_53 : decode cX11_layGrows 53 = .ok (.istore_n 2, 1) := by decide +kernel
theorem dX11_layGrows_54 : decode cX11_layGrows 54 = .ok (.iload_n 2, 1) := by decide +kernel
theorem dX11_layGrows_55 : decode cX11_layGrows 55 = .ok (.bipush 24, 2) := by decide +kernel
theorem dX11_layGrows_57 : decode cX11_layGrows 57 = .ok (.if_icmp .gt 176, 3) := by decide +kernel
theorem dX11_layGrows_60 : decode cX11_layGrows 60 = .ok (.iload_n 2, 1) := by decide +kernel
theorem dX11_layGrows_61 : decode cX11_layGrows 61 = .ok (.bipush 24, 2) := by decide +kernel
theorem dX11_layGrows_63 : decode cX11_layGrows 63 = .ok (.if_icmp .eq 26, 3) := by decide +kernel
theorem dX11_layGrows_66 : decode cX11_layGrows 66 = .ok (.iload_n 2, 1) := by decide +kernel
theorem dX11_layGrows_67 : decode cX11_layGrows 67 = .ok (.aload_n 0, 1) := by decide +kernel
theorem dX11_layGrows_68 : decode cX11_layGrows 68 = .ok (.getfield 20, 3) := by decide +kernel
theorem dX11_layGrows_71 : decode cX11_layGrows 71 = .ok (.iconst 3, 1) := by decide +kernel
theorem dX11_layGrows_72 : decode cX11_layGrows 72 = .ok (.iaload, 1) := by decide +kernel
theorem dX11_layGrows_73 : decode cX11_layGrows 73 = .ok (.if_icmp .ge 154, 3) := by decide +kernel
theorem dX11_layGrows_76 : decode cX11_layGrows 76 = .ok (.aload_n 0, 1) := by decide +kernel
theorem dX11_layGrows_77 : decode cX11_layGrows 77 = .ok (.getfield 20, 3) := by decide +kernel
theorem dX11_layGrows_80 : decode cX11_layGrows 80 = .ok (.bipush 7, 2) := by decide +kernel
theorem dX11_layGrows_82 : decode cX11_layGrows 82 = .ok (.iload_n 2, 1) := by decide +kernel
theorem dX11_layGrows_83 : decode cX11_layGrows 83 = .ok (.iadd, 1) := by decide +kernel
theorem dX11_layGrows_84 : decode cX11_layGrows 84 = .ok (.iaload, 1) := by decide +kernel
theorem dX11_layGrows_85 : decode cX11_layGrows 85 = .ok (.iload_n 1, 1) := by decide +kernel
theorem dX11_layGrows_86 : decode cX11_layGrows 86 = .ok (.if_icmp .ne 141, 3) := by decide +kernel
theorem dX11_layGrows_89 : decode cX11_layGrows 89 = .ok (.iload_n 2, 1) := by decide +kernel
theorem dX11_layGrows_90 : decode cX11_layGrows 90 = .ok (.bipush 24, 2) := by decide +kernel
theorem dX11_layGrows_92 : decode cX11_layGrows 92 = .ok (.if_icmp .ne 10, 3) := by decide +kernel
theorem dX11_layGrows_95 : decode cX11_layGrows 95 = .ok (.iload_n 1, 1) := by decide +kernel
theorem dX11_layGrows_96 : decode cX11_layGrows 96 = .ok (.ifCond .le 6, 3) := by decide +kernel
theorem dX11_layGrows_99 : decode cX11_layGrows 99 = .ok (.goto 128, 3) := by decide +kernel
theorem dX11_layGrows_102 : decode cX11_layGrows 102 = .ok (.iconst 0, 1) := by decide +kernel
theorem dX11_layGrows_103 : decode cX11_layGrows 103 = .ok (.istore_n 3, 1) := by decide +kernel
theorem dX11_layGrows_104 : decode cX11_layGrows 104 = .ok (.iconst 0, 1) := by decide +kernel
theorem dX11_layGrows_105 : decode cX11_layGrows 105 = .ok (.istore 4, 2) := by decide +kernel
theorem dX11_layGrows_107 : decode cX11_layGrows 107 = .ok (.iconst 0, 1) := by decide +kernel
theorem dX11_layGrows_108 : decode cX11_layGrows 108 = .ok (.istore 5, 2) := by decide +kernel
theorem dX11_layGrows_110 : decode cX11_layGrows 110 = .ok (.iload 5, 2) := by decide +kernel
theorem dX11_layGrows_112 : decode cX11_layGrows 112 = .ok (.aload_n 0, 1) := by decide +kernel
theorem dX11_layGrows_113 : decode cX11_layGrows 113 = .ok (.getfield 20, 3) := by decide +kernel
theorem dX11_layGrows_116 : decode cX11_layGrows 116 = .ok (.iconst 3, 1) := by decide +kernel
theorem dX11_layGrows_117 : decode cX11_layGrows 117 = .ok (.iaload, 1) := by decide +kernel
theorem dX11_layGrows_118 : decode cX11_layGrows 118 = .ok (.if_icmp .ge 68, 3) := by decide +kernel
theorem dX11_layGrows_121 : decode cX11_layGrows 121 = .ok (.aload_n 0, 1) := by decide +kernel
theorem dX11_layGrows_122 : decode cX11_layGrows 122 = .ok (.getfield 32, 3) := by decide +kernel
theorem dX11_layGrows_125 : decode cX11_layGrows 125 = .ok (.bipush 24, 2) := by decide +kernel
theorem dX11_layGrows_127 : decode cX11_layGrows 127 = .ok (.iload_n 2, 1) := by decide +kernel
theorem dX11_layGrows_128 : decode cX11_layGrows 128 = .ok (.imul, 1) := by decide +kernel
theorem dX11_layGrows_129 : decode cX11_layGrows 129 = .ok (.iload 5, 2) := by decide +kernel
theorem dX11_layGrows_131 : decode cX11_layGrows 131 = .ok (.iadd, 1) := by decide +kernel
theorem dX11_layGrows_132 : decode cX11_layGrows 132 = .ok (.iaload, 1) := by decide +kernel
theorem dX11_layGrows_133 : decode cX11_layGrows 133 = .ok (.ifCond .ge 6, 3) := by decide +kernel
theorem dX11_layGrows_136 : decode cX11_layGrows 136 = .ok (.goto 44, 3) := by decide +kernel
theorem dX11_layGrows_139 : decode cX11_layGrows 139 = .ok (.aload_n 0, 1) := by decide +kernel
theorem dX11_layGrows_140 : decode cX11_layGrows 140 = .ok (.getfield 35, 3) := by decide +kernel
theorem dX11_layGrows_143 : decode cX11_layGrows 143 = .ok (.iload 5, 2) := by decide +kernel
theorem dX11_layGrows_145 : decode cX11_layGrows 145 = .ok (.iaload, 1) := by decide +kernel
theorem dX11_layGrows_146 : decode cX11_layGrows 146 = .ok (.iconst 1, 1) := by decide +kernel
theorem dX11_layGrows_147 : decode cX11_layGrows 147 = .ok (.iadd, 1) := by decide +kernel
theorem dX11_layGrows_148 : decode cX11_layGrows 148 = .ok (.iload_n 3, 1) := by decide +kernel
theorem dX11_layGrows_149 : decode cX11_layGrows 149 = .ok (.if_icmp .le 15, 3) := by decide +kernel
theorem dX11_layGrows_152 : decode cX11_layGrows 152 = .ok (.aload_n 0, 1) := by decide +kernel
theorem dX11_layGrows_153 : decode cX11_layGrows 153 = .ok (.getfield 35, 3) := by decide +kernel
theorem dX11_layGrows_156 : decode cX11_layGrows 156 = .ok (.iload 5, 2) := by decide +kernel
theorem dX11_layGrows_158 : decode cX11_layGrows 158 = .ok (.iaload, 1) := by decide +kernel
theorem dX11_layGrows_159 : decode cX11_layGrows 159 = .ok (.iconst 1, 1) := by decide +kernel
theorem dX11_layGrows_160 : decode cX11_layGrows 160 = .ok (.iadd, 1) := by decide +kernel
theorem dX11_layGrows_161 : decode cX11_layGrows 161 = .ok (.goto 4, 3) := by decide +kernel
theorem dX11_layGrows_164 : decode cX11_layGrows 164 = .ok (.iload_n 3, 1) := by decide +kernel
theorem dX11_layGrows_165 : decode cX11_layGrows 165 = .ok (.istore_n 3, 1) := by decide +kernel
theorem dX11_layGrows_166 : decode cX11_layGrows 166 = .ok (.iload 4, 2) := by decide +kernel
theorem dX11_layGrows_168 : decode cX11_layGrows 168 = .ok (.iconst 1, 1) := by decide +kernel
theorem dX11_layGrows_169 : decode cX11_layGrows 169 = .ok (.aload_n 0, 1) := by decide +kernel
theorem dX11_layGrows_170 : decode cX11_layGrows 170 = .ok (.getfield 38, 3) := by decide +kernel
theorem dX11_layGrows_173 : decode cX11_layGrows 173 = .ok (.iload 5, 2) := by decide +kernel
theorem dX11_layGrows_175 : decode cX11_layGrows 175 = .ok (.iaload, 1) := by decide +kernel
theorem dX11_layGrows_176 : decode cX11_layGrows 176 = .ok (.ishl, 1) := by decide +kernel
theorem dX11_layGrows_177 : decode cX11_layGrows 177 = .ok (.ior, 1) := by decide +kernel
theorem dX11_layGrows_178 : decode cX11_layGrows 178 = .ok (.istore 4, 2) := by decide +kernel
theorem dX11_layGrows_180 : decode cX11_layGrows 180 = .ok (.iinc 5 1, 3) := by decide +kernel
theorem dX11_layGrows_183 : decode cX11_layGrows 183 = .ok (.goto (-73), 3) := by decide +kernel
theorem dX11_layGrows_186 : decode cX11_layGrows 186 = .ok (.iconst 0, 1) := by decide +kernel
theorem dX11_layGrows_187 : decode cX11_layGrows 187 = .ok (.istore 5, 2) := by decide +kernel
theorem dX11_layGrows_189 : decode cX11_layGrows 189 = .ok (.iload 4, 2) := by decide +kernel
theorem dX11_layGrows_191 : decode cX11_layGrows 191 = .ok (.iload 5, 2) := by decide +kernel
theorem dX11_layGrows_193 : decode cX11_layGrows 193 = .ok (.ishr, 1) := by decide +kernel
theorem dX11_layGrows_194 : decode cX11_layGrows 194 = .ok (.iconst 1, 1) := by decide +kernel
theorem dX11_layGrows_195 : decode cX11_layGrows 195 = .ok (.iand, 1) := by decide +kernel
theorem dX11_layGrows_196 : decode cX11_layGrows 196 = .ok (.iconst 1, 1) := by decide +kernel
theorem dX11_layGrows_197 : decode cX11_layGrows 197 = .ok (.if_icmp .ne 9, 3) := by decide +kernel
theorem dX11_layGrows_200 : decode cX11_layGrows 200 = .ok (.iinc 5 1, 3) := by decide +kernel
theorem dX11_layGrows_203 : decode cX11_layGrows 203 = .ok (.goto (-14), 3) := by decide +kernel
theorem dX11_layGrows_206 : decode cX11_layGrows 206 = .ok (.aload_n 0, 1) := by decide +kernel
theorem dX11_layGrows_207 : decode cX11_layGrows 207 = .ok (.getfield 38, 3) := by decide +kernel
theorem dX11_layGrows_210 : decode cX11_layGrows 210 = .ok (.iload_n 2, 1) := by decide +kernel
theorem dX11_layGrows_211 : decode cX11_layGrows 211 = .ok (.iload 5, 2) := by decide +kernel
theorem dX11_layGrows_213 : decode cX11_layGrows 213 = .ok (.iastore, 1) := by decide +kernel
theorem dX11_layGrows_214 : decode cX11_layGrows 214 = .ok (.iload_n 2, 1) := by decide +kernel
theorem dX11_layGrows_215 : decode cX11_layGrows 215 = .ok (.bipush 24, 2) := by decide +kernel
theorem dX11_layGrows_217 : decode cX11_layGrows 217 = .ok (.if_icmp .eq 10, 3) := by decide +kernel
theorem dX11_layGrows_220 : decode cX11_layGrows 220 = .ok (.aload_n 0, 1) := by decide +kernel
theorem dX11_layGrows_221 : decode cX11_layGrows 221 = .ok (.getfield 35, 3) := by decide +kernel
theorem dX11_layGrows_224 : decode cX11_layGrows 224 = .ok (.iload_n 2, 1) := by decide +kernel
theorem dX11_layGrows_225 : decode cX11_layGrows 225 = .ok (.iload_n 3, 1) := by decide +kernel
theorem dX11_layGrows_226 : decode cX11_layGrows 226 = .ok (.iastore, 1) := by decide +kernel
theorem dX11_layGrows_227 : decode cX11_layGrows 227 = .ok (.iinc 2 1, 3) := by decide +kernel
theorem dX11_layGrows_230 : decode cX11_layGrows 230 = .ok (.goto (-176), 3) := by decide +kernel
theorem dX11_layGrows_233 : decode cX11_layGrows 233 = .ok (.iinc 1 (-1), 3) := by decide +kernel
theorem dX11_layGrows_236 : decode cX11_layGrows 236 = .ok (.goto (-188), 3) := by decide +kernel
theorem dX11_layGrows_239 : decode cX11_layGrows 239 = .ok (.iconst 1, 1) := by decide +kernel
theorem dX11_layGrows_240 : decode cX11_layGrows 240 = .ok (.istore_n 1, 1) := by decide +kernel
theorem dX11_layGrows_241 : decode cX11_layGrows 241 = .ok (.iload_n 1, 1) := by decide +kernel
theorem dX11_layGrows_242 : decode cX11_layGrows 242 = .ok (.bipush 6, 2) := by decide +kernel
theorem dX11_layGrows_244 : decode cX11_layGrows 244 = .ok (.if_icmp .gt 109, 3) := by decide +kernel
theorem dX11_layGrows_247 : decode cX11_layGrows 247 = .ok (.iconst 0, 1) := by decide +kernel
theorem dX11_layGrows_248 : decode cX11_layGrows 248 = .ok (.istore_n 2, 1) := by decide +kernel
theorem dX11_layGrows_249 : decode cX11_layGrows 249 = .ok (.iload_n 2, 1) := by decide +kernel
theorem dX11_layGrows_250 : decode cX11_layGrows 250 = .ok (.aload_n 0, 1) := by decide +kernel
theorem dX11_layGrows_251 : decode cX11_layGrows 251 = .ok (.getfield 20, 3) := by decide +kernel
theorem dX11_layGrows_254 : decode cX11_layGrows 254 = .ok (.iconst 3, 1) := by decide +kernel
theorem dX11_layGrows_255 : decode cX11_layGrows 255 = .ok (.iaload, 1) := by decide +kernel
theorem dX11_layGrows_256 : decode cX11_layGrows 256 = .ok (.if_icmp .ge 91, 3) := by decide +kernel
theorem dX11_layGrows_259 : decode cX11_layGrows 259 = .ok (.aload_n 0, 1) := by decide +kernel
theorem dX11_layGrows_260 : decode cX11_layGrows 260 = .ok (.getfield 20, 3) := by decide +kernel
theorem dX11_layGrows_263 : decode cX11_layGrows 263 = .ok (.bipush 7, 2) := by decide +kernel
theorem dX11_layGrows_265 : decode cX11_layGrows 265 = .ok (.iload_n 2, 1) := by decide +kernel
theorem dX11_layGrows_266 : decode cX11_layGrows 266 = .ok (.iadd, 1) := by decide +kernel
theorem dX11_layGrows_267 : decode cX11_layGrows 267 = .ok (.iaload, 1) := by decide +kernel
theorem dX11_layGrows_268 : decode cX11_layGrows 268 = .ok (.iload_n 1, 1) := by decide +kernel
theorem dX11_layGrows_269 : decode cX11_layGrows 269 = .ok (.if_icmp .eq 6, 3) := by decide +kernel
theorem dX11_layGrows_272 : decode cX11_layGrows 272 = .ok (.goto 69, 3) := by decide +kernel
theorem dX11_layGrows_275 : decode cX11_layGrows 275 = .ok (.aload_n 0, 1) := by decide +kernel
theorem dX11_layGrows_276 : decode cX11_layGrows 276 = .ok (.getfield 41, 3) := by decide +kernel
theorem dX11_layGrows_279 : decode cX11_layGrows 279 = .ok (.iload_n 2, 1) := by decide +kernel
theorem dX11_layGrows_280 : decode cX11_layGrows 280 = .ok (.iload_n 1, 1) := by decide +kernel
theorem dX11_layGrows_281 : decode cX11_layGrows 281 = .ok (.iastore, 1) := by decide +kernel
theorem dX11_layGrows_282 : decode cX11_layGrows 282 = .ok (.iconst 0, 1) := by decide +kernel
theorem dX11_layGrows_283 : decode cX11_layGrows 283 = .ok (.istore_n 3, 1) := by decide +kernel
theorem dX11_layGrows_284 : decode cX11_layGrows 284 = .ok (.iload_n 3, 1) := by decide +kernel
theorem dX11_layGrows_285 : decode cX11_layGrows 285 = .ok (.aload_n 0, 1) := by decide +kernel
theorem dX11_layGrows_286 : decode cX11_layGrows 286 = .ok (.getfield 20, 3) := by decide +kernel
theorem dX11_layGrows_289 : decode cX11_layGrows 289 = .ok (.iconst 3, 1) := by decide +kernel
theorem dX11_layGrows_290 : decode cX11_layGrows 290 = .ok (.iaload, 1) := by decide +kernel
theorem dX11_layGrows_291 : decode cX11_layGrows 291 = .ok (.if_icmp .ge 50, 3) := by decide +kernel
theorem dX11_layGrows_294 : decode cX11_layGrows 294 = .ok (.aload_n 0, 1) := by decide +kernel
theorem dX11_layGrows_295 : decode cX11_layGrows 295 = .ok (.getfield 32, 3) := by decide +kernel
theorem dX11_layGrows_298 : decode cX11_layGrows 298 = .ok (.bipush 24, 2) := by decide +kernel
theorem dX11_layGrows_300 : decode cX11_layGrows 300 = .ok (.iload_n 3, 1) := by decide +kernel
theorem dX11_layGrows_301 : decode cX11_layGrows 301 = .ok (.imul, 1) := by decide +kernel
theorem dX11_layGrows_302 : decode cX11_layGrows 302 = .ok (.iload_n 2, 1) := by decide +kernel
theorem dX11_layGrows_303 : decode cX11_layGrows 303 = .ok (.iadd, 1) := by decide +kernel
theorem dX11_layGrows_304 : decode cX11_layGrows 304 = .ok (.iaload, 1) := by decide +kernel
theorem dX11_layGrows_305 : decode cX11_layGrows 305 = .ok (.ifCond .lt 30, 3) := by decide +kernel
theorem dX11_layGrows_308 : decode cX11_layGrows 308 = .ok (.aload_n 0, 1) := by decide +kernel
theorem dX11_layGrows_309 : decode cX11_layGrows 309 = .ok (.getfield 41, 3) := by decide +kernel
theorem dX11_layGrows_312 : decode cX11_layGrows 312 = .ok (.iload_n 3, 1) := by decide +kernel
theorem dX11_layGrows_313 : decode cX11_layGrows 313 = .ok (.iaload, 1) := by decide +kernel
theorem dX11_layGrows_314 : decode cX11_layGrows 314 = .ok (.aload_n 0, 1) := by decide +kernel
theorem dX11_layGrows_315 : decode cX11_layGrows 315 = .ok (.getfield 41, 3) := by decide +kernel
theorem dX11_layGrows_318 : decode cX11_layGrows 318 = .ok (.iload_n 2, 1) := by decide +kernel
theorem dX11_layGrows_319 : decode cX11_layGrows 319 = .ok (.iaload, 1) := by decide +kernel
theorem dX11_layGrows_320 : decode cX11_layGrows 320 = .ok (.if_icmp .ge 15, 3) := by decide +kernel
theorem dX11_layGrows_323 : decode cX11_layGrows 323 = .ok (.aload_n 0, 1) := by decide +kernel
theorem dX11_layGrows_324 : decode cX11_layGrows 324 = .ok (.getfield 41, 3) := by decide +kernel
theorem dX11_layGrows_327 : decode cX11_layGrows 327 = .ok (.iload_n 2, 1) := by decide +kernel
theorem dX11_layGrows_328 : decode cX11_layGrows 328 = .ok (.aload_n 0, 1) := by decide +kernel
theorem dX11_layGrows_329 : decode cX11_layGrows 329 = .ok (.getfield 41, 3) := by decide +kernel
theorem dX11_layGrows_332 : decode cX11_layGrows 332 = .ok (.iload_n 3, 1) := by decide +kernel
theorem dX11_layGrows_333 : decode cX11_layGrows 333 = .ok (.iaload, 1) := by decide +kernel
theorem dX11_layGrows_334 : decode cX11_layGrows 334 = .ok (.iastore, 1) := by decide +kernel
theorem dX11_layGrows_335 : decode cX11_layGrows 335 = .ok (.iinc 3 1, 3) := by decide +kernel
theorem dX11_layGrows_338 : decode cX11_layGrows 338 = .ok (.goto (-54), 3) := by decide +kernel
theorem dX11_layGrows_341 : decode cX11_layGrows 341 = .ok (.iinc 2 1, 3) := by decide +kernel
theorem dX11_layGrows_344 : decode cX11_layGrows 344 = .ok (.goto (-95), 3) := by decide +kernel
theorem dX11_layGrows_347 : decode cX11_layGrows 347 = .ok (.iinc 1 1, 3) := by decide +kernel
theorem dX11_layGrows_350 : decode cX11_layGrows 350 = .ok (.goto (-109), 3) := by decide +kernel
theorem dX11_layGrows_353 : decode cX11_layGrows 353 = .ok (.return_, 1) := by decide +kernel
theorem dX11_growth_0 : decode cX11_growth 0 = .ok (.iload_n 2, 1) := by decide +kernel
theorem dX11_growth_1 : decode cX11_growth 1 = .ok (.aload_n 0, 1) := by decide +kernel
theorem dX11_growth_2 : decode cX11_growth 2 = .ok (.getfield 20, 3) := by decide +kernel
theorem dX11_growth_5 : decode cX11_growth 5 = .ok (.iconst 3, 1) := by decide +kernel
theorem dX11_growth_6 : decode cX11_growth 6 = .ok (.iaload, 1) := by decide +kernel
theorem dX11_growth_7 : decode cX11_growth 7 = .ok (.if_icmp .ge 11, 3) := by decide +kernel
theorem dX11_growth_10 : decode cX11_growth 10 = .ok (.aload_n 0, 1) := by decide +kernel
theorem dX11_growth_11 : decode cX11_growth 11 = .ok (.iload_n 2, 1) := by decide +kernel
theorem dX11_growth_12 : decode cX11_growth 12 = .ok (.invokevirtual 240, 3) := by decide +kernel
theorem dX11_growth_15 : decode cX11_growth 15 = .ok (.ifCond .ne 5, 3) := by decide +kernel
theorem dX11_growth_18 : decode cX11_growth 18 = .ok (.iconst (-1), 1) := by decide +kernel
theorem dX11_growth_19 : decode cX11_growth 19 = .ok (.ireturn, 1) := by decide +kernel
theorem dX11_growth_20 : decode cX11_growth 20 = .ok (.iload_n 1, 1) := by decide +kernel
theorem dX11_growth_21 : decode cX11_growth 21 = .ok (.bipush 24, 2) := by decide +kernel
theorem dX11_growth_23 : decode cX11_growth 23 = .ok (.if_icmp .ne 27, 3) := by decide +kernel
theorem dX11_growth_26 : decode cX11_growth 26 = .ok (.aload_n 0, 1) := by decide +kernel
theorem dX11_growth_27 : decode cX11_growth 27 = .ok (.getfield 20, 3) := by decide +kernel
theorem dX11_growth_30 : decode cX11_growth 30 = .ok (.bipush 7, 2) := by decide +kernel
theorem dX11_growth_32 : decode cX11_growth 32 = .ok (.iload_n 2, 1) := by decide +kernel
theorem dX11_growth_33 : decode cX11_growth 33 = .ok (.iadd, 1) := by decide +kernel
theorem dX11_growth_34 : decode cX11_growth 34 = .ok (.iaload, 1) := by decide +kernel
theorem dX11_growth_35 : decode cX11_growth 35 = .ok (.iconst 1, 1) := by decide +kernel
theorem dX11_growth_36 : decode cX11_growth 36 = .ok (.if_icmp .ne 12, 3) := by decide +kernel
theorem dX11_growth_39 : decode cX11_growth 39 = .ok (.aload_n 0, 1) := by decide +kernel
theorem dX11_growth_40 : decode cX11_growth 40 = .ok (.iload_n 2, 1) := by decide +kernel
theorem dX11_growth_41 : decode cX11_growth 41 = .ok (.iconst 0, 1) := by decide +kernel
theorem dX11_growth_42 : decode cX11_growth 42 = .ok (.invokevirtual 243, 3) := by decide +kernel
theorem dX11_growth_45 : decode cX11_growth 45 = .ok (.goto 4, 3) := by decide +kernel
theorem dX11_growth_48 : decode cX11_growth 48 = .ok (.iconst (-1), 1) := by decide +kernel
theorem dX11_growth_49 : decode cX11_growth 49 = .ok (.ireturn, 1) := by decide +kernel
theorem dX11_growth_50 : decode cX11_growth 50 = .ok (.iload_n 1, 1) := by decide +kernel
theorem dX11_growth_51 : decode cX11_growth 51 = .ok (.aload_n 0, 1) := by decide +kernel
theorem dX11_growth_52 : decode cX11_growth 52 = .ok (.getfield 20, 3) := by decide +kernel
theorem dX11_growth_55 : decode cX11_growth 55 = .ok (.iconst 3, 1) := by decide +kernel
theorem dX11_growth_56 : decode cX11_growth 56 = .ok (.iaload, 1) := by decide +kernel
theorem dX11_growth_57 : decode cX11_growth 57 = .ok (.if_icmp .ge 34, 3) := by decide +kernel
theorem dX11_growth_60 : decode cX11_growth 60 = .ok (.aload_n 0, 1) := by decide +kernel
theorem dX11_growth_61 : decode cX11_growth 61 = .ok (.iload_n 1, 1) := by decide +kernel
theorem dX11_growth_62 : decode cX11_growth 62 = .ok (.invokevirtual 240, 3) := by decide +kernel
theorem dX11_growth_65 : decode cX11_growth 65 = .ok (.ifCond .eq 26, 3) := by decide +kernel
theorem dX11_growth_68 : decode cX11_growth 68 = .ok (.aload_n 0, 1) := by decide +kernel
theorem dX11_growth_69 : decode cX11_growth 69 = .ok (.getfield 20, 3) := by decide +kernel
theorem dX11_growth_72 : decode cX11_growth 72 = .ok (.bipush 7, 2) := by decide +kernel
theorem dX11_growth_74 : decode cX11_growth 74 = .ok (.iload_n 2, 1) := by decide +kernel
theorem dX11_growth_75 : decode cX11_growth 75 = .ok (.iadd, 1) := by decide +kernel
theorem dX11_growth_76 : decode cX11_growth 76 = .ok (.iaload, 1) := by decide +kernel
theorem dX11_growth_77 : decode cX11_growth 77 = .ok (.aload_n 0, 1) := by decide +kernel
theorem dX11_growth_78 : decode cX11_growth 78 = .ok (.getfield 20, 3) := by decide +kernel
theorem dX11_growth_81 : decode cX11_growth 81 = .ok (.bipush 7, 2) := by decide +kernel
theorem dX11_growth_83 : decode cX11_growth 83 = .ok (.iload_n 1, 1) := by decide +kernel
theorem dX11_growth_84 : decode cX11_growth 84 = .ok (.iadd, 1) := by decide +kernel
theorem dX11_growth_85 : decode cX11_growth 85 = .ok (.iaload, 1) := by decide +kernel
theorem dX11_growth_86 : decode cX11_growth 86 = .ok (.iconst 1, 1) := by decide +kernel
theorem dX11_growth_87 : decode cX11_growth 87 = .ok (.iadd, 1) := by decide +kernel
theorem dX11_growth_88 : decode cX11_growth 88 = .ok (.if_icmp .eq 5, 3) := by decide +kernel
theorem dX11_growth_91 : decode cX11_growth 91 = .ok (.iconst (-1), 1) := by decide +kernel
theorem dX11_growth_92 : decode cX11_growth 92 = .ok (.ireturn, 1) := by decide +kernel
theorem dX11_growth_93 : decode cX11_growth 93 = .ok (.aload_n 0, 1) := by decide +kernel
theorem dX11_growth_94 : decode cX11_growth 94 = .ok (.getfield 20, 3) := by decide +kernel
theorem dX11_growth_97 : decode cX11_growth 97 = .ok (.bipush 7, 2) := by decide +kernel
theorem dX11_growth_99 : decode cX11_growth 99 = .ok (.iload_n 2, 1) := by decide +kernel
theorem dX11_growth_100 : decode cX11_growth 100 = .ok (.iadd, 1) := by decide +kernel
theorem dX11_growth_101 : decode cX11_growth 101 = .ok (.iaload, 1) := by decide +kernel
theorem dX11_growth_102 : decode cX11_growth 102 = .ok (.istore_n 3, 1) := by decide +kernel
theorem dX11_growth_103 : decode cX11_growth 103 = .ok (.iconst 0, 1) := by decide +kernel
theorem dX11_growth_104 : decode cX11_growth 104 = .ok (.istore 4, 2) := by decide +kernel
theorem dX11_growth_106 : decode cX11_growth 106 = .ok (.iload 4, 2) := by decide +kernel
theorem dX11_growth_108 : decode cX11_growth 108 = .ok (.iload_n 3, 1) := by decide +kernel
theorem dX11_growth_109 : decode cX11_growth 109 = .ok (.if_icmp .ge 72, 3) := by decide +kernel
theorem dX11_growth_112 : decode cX11_growth 112 = .ok (.aload_n 0, 1) := by decide +kernel
theorem dX11_growth_113 : decode cX11_growth 113 = .ok (.getfield 20, 3) := by decide +kernel
theorem dX11_growth_116 : decode cX11_growth 116 = .ok (.iconst 2, 1) := by decide +kernel
theorem dX11_growth_117 : decode cX11_growth 117 = .ok (.iaload, 1) := by decide +kernel
theorem dX11_growth_118 : decode cX11_growth 118 = .ok (.ifCond .eq 26, 3) := by decide +kernel
theorem dX11_growth_121 : decode cX11_growth 121 = .ok (.iload 4, 2) := by decide +kernel
theorem dX11_growth_123 : decode cX11_growth 123 = .ok (.iload_n 3, 1) := by decide +kernel
theorem dX11_growth_124 : decode cX11_growth 124 = .ok (.iconst 1, 1) := by decide +kernel
theorem dX11_growth_125 : decode cX11_growth 125 = .ok (.isub, 1) := by decide +kernel
theorem dX11_growth_126 : decode cX11_growth 126 = .ok (.if_icmp .eq 18, 3) := by decide +kernel
theorem dX11_growth_129 : decode cX11_growth 129 = .ok (.aload_n 0, 1) := by decide +kernel
theorem dX11_growth_130 : decode cX11_growth 130 = .ok (.getfield 20, 3) := by decide +kernel
theorem dX11_growth_133 : decode cX11_growth 133 = .ok (.iconst 2, 1) := by decide +kernel
theorem dX11_growth_134 : decode cX11_growth 134 = .ok (.iaload, 1) := by decide +kernel
theorem dX11_growth_135 : decode cX11_growth 135 = .ok (.iconst 1, 1) := by decide +kernel
theorem dX11_growth_136 : decode cX11_growth 136 = .ok (.if_icmp .ne 12, 3) := by decide +kernel
theorem dX11_growth_139 : decode cX11_growth 139 = .ok (.iload 4, 2) := by decide +kernel
theorem dX11_growth_141 : decode cX11_growth 141 = .ok (.ifCond .ne 7, 3) := by decide +kernel
theorem dX11_growth_144 : decode cX11_growth 144 = .ok (.iconst 1, 1) := by decide +kernel
theorem dX11_growth_145 : decode cX11_growth 145 = .ok (.goto 4, 3) := by decide +kernel
theorem dX11_growth_148 : decode cX11_growth 148 = .ok (.iconst 0, 1) := by decide +kernel
theorem dX11_growth_149 : decode cX11_growth 149 = .ok (.istore 5, 2) := by decide +kernel
theorem dX11_growth_151 : decode cX11_growth 151 = .ok (.iload 5, 2) := by decide +kernel
theorem dX11_growth_153 : decode cX11_growth 153 = .ok (.ifCond .eq 22, 3) := by decide +kernel
theorem dX11_growth_156 : decode cX11_growth 156 = .ok (.aload_n 0, 1) := by decide +kernel
theorem dX11_growth_157 : decode cX11_growth 157 = .ok (.iload_n 2, 1) := by decide +kernel
theorem dX11_growth_158 : decode cX11_growth 158 = .ok (.iload 4, 2) := by decide +kernel
theorem dX11_growth_160 : decode cX11_growth 160 = .ok (.iload_n 1, 1) := by decide +kernel
theorem dX11_growth_161 : decode cX11_growth 161 = .ok (.invokevirtual 246, 3) := by decide +kernel
theorem dX11_growth_164 : decode cX11_growth 164 = .ok (.ifCond .eq 11, 3) := by decide +kernel
theorem dX11_growth_167 : decode cX11_growth 167 = .ok (.aload_n 0, 1) := by decide +kernel
theorem dX11_growth_168 : decode cX11_growth 168 = .ok (.iload_n 2, 1) := by decide +kernel
theorem dX11_growth_169 : decode cX11_growth 169 = .ok (.iload 4, 2) := by decide +kernel
theorem dX11_growth_171 : decode cX11_growth 171 = .ok (.invokevirtual 243, 3) := by decide +kernel
theorem dX11_growth_174 : decode cX11_growth 174 = .ok (.ireturn, 1) := by decide +kernel
theorem dX11_growth_175 : decode cX11_growth 175 = .ok (.iinc 4 1, 3) := by decide +kernel
theorem dX11_growth_178 : decode cX11_growth 178 = .ok (.goto (-72), 3) := by decide +kernel
theorem dX11_growth_181 : decode cX11_growth 181 = .ok (.iconst (-1), 1) := by decide +kernel
theorem dX11_growth_182 : decode cX11_growth 182 = .ok (.ireturn, 1) := by decide +kernel
theorem dX11_isWithout_0 : decode cX11_isWithout 0 = .ok (.iconst 1, 1) := by decide +kernel
theorem dX11_isWithout_1 : decode cX11_isWithout 1 = .ok (.istore 4, 2) := by decide +kernel
theorem dX11_isWithout_3 : decode cX11_isWithout 3 = .ok (.iconst 0, 1) := by decide +kernel
theorem dX11_isWithout_4 : decode cX11_isWithout 4 = .ok (.istore 5, 2) := by decide +kernel
theorem dX11_isWithout_6 : decode cX11_isWithout 6 = .ok (.iload 5, 2) := by decide +kernel
theorem dX11_isWithout_8 : decode cX11_isWithout 8 = .ok (.aload_n 0, 1) := by decide +kernel
theorem dX11_isWithout_9 : decode cX11_isWithout 9 = .ok (.getfield 20, 3) := by decide +kernel
theorem dX11_isWithout_12 : decode cX11_isWithout 12 = .ok (.bipush 7, 2) := by decide +kernel
theorem dX11_isWithout_14 : decode cX11_isWithout 14 = .ok (.iload_n 3, 1) := by decide +kernel
theorem dX11_isWithout_15 : decode cX11_isWithout 15 = .ok (.iadd, 1) := by decide +kernel
theorem dX11_isWithout_16 : decode cX11_isWithout 16 = .ok (.iaload, 1) := by decide +kernel
theorem dX11_isWithout_17 : decode cX11_isWithout 17 = .ok (.if_icmp .ge 51, 3) := by decide +kernel
theorem dX11_isWithout_20 : decode cX11_isWithout 20 = .ok (.iload 4, 2) := by decide +kernel
theorem dX11_isWithout_22 : decode cX11_isWithout 22 = .ok (.ifCond .eq 37, 3) := by decide +kernel
theorem dX11_isWithout_25 : decode cX11_isWithout 25 = .ok (.aload_n 0, 1) := by decide +kernel
theorem dX11_isWithout_26 : decode cX11_isWithout 26 = .ok (.iload_n 1, 1) := by decide +kernel
theorem dX11_isWithout_27 : decode cX11_isWithout 27 = .ok (.iload 5, 2) := by decide +kernel
theorem dX11_isWithout_29 : decode cX11_isWithout 29 = .ok (.iload_n 2, 1) := by decide +kernel
theorem dX11_isWithout_30 : decode cX11_isWithout 30 = .ok (.if_icmp .ge 8, 3) := by decide +kernel
theorem dX11_isWithout_33 : decode cX11_isWithout 33 = .ok (.iload 5, 2) := by decide +kernel
theorem dX11_isWithout_35 : decode cX11_isWithout 35 = .ok (.goto 7, 3) := by decide +kernel
theorem dX11_isWithout_38 : decode cX11_isWithout 38 = .ok (.iload 5, 2) := by decide +kernel
theorem dX11_isWithout_40 : decode cX11_isWithout 40 = .ok (.iconst 1, 1) := by decide +kernel
theorem dX11_isWithout_41 : decode cX11_isWithout 41 = .ok (.iadd, 1) := by decide +kernel
theorem dX11_isWithout_42 : decode cX11_isWithout 42 = .ok (.invokevirtual 243, 3) := by decide +kernel
theorem dX11_isWithout_45 : decode cX11_isWithout 45 = .ok (.aload_n 0, 1) := by decide +kernel
theorem dX11_isWithout_46 : decode cX11_isWithout 46 = .ok (.iload_n 3, 1) := by decide +kernel
theorem dX11_isWithout_47 : decode cX11_isWithout 47 = .ok (.iload 5, 2) := by decide +kernel
theorem dX11_isWithout_49 : decode cX11_isWithout 49 = .ok (.invokevirtual 243, 3) := by decide +kernel
theorem dX11_isWithout_52 : decode cX11_isWithout 52 = .ok (.if_icmp .ne 7, 3) := by decide +kernel
theorem dX11_isWithout_55 : decode cX11_isWithout 55 = .ok (.iconst 1, 1) := by decide +kernel
theorem dX11_isWithout_56 : decode cX11_isWithout 56 = .ok (.goto 4, 3) := by decide +kernel
theorem dX11_isWithout_59 : decode cX11_isWithout 59 = .ok (.iconst 0, 1) := by decide +kernel
theorem dX11_isWithout_60 : decode cX11_isWithout 60 = .ok (.istore 4, 2) := by decide +kernel
theorem dX11_isWithout_62 : decode cX11_isWithout 62 = .ok (.iinc 5 1, 3) := by decide +kernel
theorem dX11_isWithout_65 : decode cX11_isWithout 65 = .ok (.goto (-59), 3) := by decide +kernel
theorem dX11_isWithout_68 : decode cX11_isWithout 68 = .ok (.iload 4, 2) := by decide +kernel
theorem dX11_isWithout_70 : decode cX11_isWithout 70 = .ok (.ireturn, 1) := by decide +kernel
theorem dX11_word_0 : decode cX11_word 0 = .ok (.aload_n 0, 1) := by decide +kernel
theorem dX11_word_1 : decode cX11_word 1 = .ok (.invokevirtual 155, 3) := by decide +kernel
theorem dX11_word_4 : decode cX11_word 4 = .ok (.aload_n 0, 1) := by decide +kernel
theorem dX11_word_5 : decode cX11_word 5 = .ok (.iload_n 1, 1) := by decide +kernel
theorem dX11_word_6 : decode cX11_word 6 = .ok (.invokevirtual 249, 3) := by decide +kernel
theorem dX11_word_9 : decode cX11_word 9 = .ok (.ifCond .ne 9, 3) := by decide +kernel
theorem dX11_word_12 : decode cX11_word 12 = .ok (.aload_n 0, 1) := by decide +kernel
theorem dX11_word_13 : decode cX11_word 13 = .ok (.iconst 1, 1) := by decide +kernel
theorem dX11_word_14 : decode cX11_word 14 = .ok (.invokevirtual 158, 3) := by decide +kernel
theorem dX11_word_17 : decode cX11_word 17 = .ok (.ireturn, 1) := by decide +kernel
theorem dX11_word_18 : decode cX11_word 18 = .ok (.iload_n 2, 1) := by decide +kernel
theorem dX11_word_19 : decode cX11_word 19 = .ok (.tableswitch 75 0 3 #[29, 39, 50, 61], 29) := by decide +kernel
theorem dX11_word_48 : decode cX11_word 48 = .ok (.aload_n 0, 1) := by decide +kernel
theorem dX11_word_49 : decode cX11_word 49 = .ok (.getfield 20, 3) := by decide +kernel
theorem dX11_word_52 : decode cX11_word 52 = .ok (.bipush 7, 2) := by decide +kernel
theorem dX11_word_54 : decode cX11_word 54 = .ok (.iload_n 1, 1) := by decide +kernel
theorem dX11_word_55 : decode cX11_word 55 = .ok (.iadd, 1) := by decide +kernel
theorem dX11_word_56 : decode cX11_word 56 = .ok (.iaload, 1) := by decide +kernel
theorem dX11_word_57 : decode cX11_word 57 = .ok (.ireturn, 1) := by decide +kernel
theorem dX11_word_58 : decode cX11_word 58 = .ok (.aload_n 0, 1) := by decide +kernel
theorem dX11_word_59 : decode cX11_word 59 = .ok (.getfield 20, 3) := by decide +kernel
theorem dX11_word_62 : decode cX11_word 62 = .ok (.sipush 175, 3) := by decide +kernel
theorem dX11_word_65 : decode cX11_word 65 = .ok (.iload_n 1, 1) := by decide +kernel
theorem dX11_word_66 : decode cX11_word 66 = .ok (.iadd, 1) := by decide +kernel
theorem dX11_word_67 : decode cX11_word 67 = .ok (.iaload, 1) := by decide +kernel
theorem dX11_word_68 : decode cX11_word 68 = .ok (.ireturn, 1) := by decide +kernel
theorem dX11_word_69 : decode cX11_word 69 = .ok (.aload_n 0, 1) := by decide +kernel
theorem dX11_word_70 : decode cX11_word 70 = .ok (.getfield 20, 3) := by decide +kernel
theorem dX11_word_73 : decode cX11_word 73 = .ok (.sipush 199, 3) := by decide +kernel
theorem dX11_word_76 : decode cX11_word 76 = .ok (.iload_n 1, 1) := by decide +kernel
theorem dX11_word_77 : decode cX11_word 77 = .ok (.iadd, 1) := by decide +kernel
theorem dX11_word_78 : decode cX11_word 78 = .ok (.iaload, 1) := by decide +kernel
theorem dX11_word_79 : decode cX11_word 79 = .ok (.ireturn, 1) := by decide +kernel
theorem dX11_word_80 : decode cX11_word 80 = .ok (.aload_n 0, 1) := by decide +kernel
theorem dX11_word_81 : decode cX11_word 81 = .ok (.iload_n 1, 1) := by decide +kernel
theorem dX11_word_82 : decode cX11_word 82 = .ok (.invokevirtual 240, 3) := by decide +kernel
theorem dX11_word_85 : decode cX11_word 85 = .ok (.ifCond .eq 7, 3) := by decide +kernel
theorem dX11_word_88 : decode cX11_word 88 = .ok (.iconst 1, 1) := by decide +kernel
theorem dX11_word_89 : decode cX11_word 89 = .ok (.goto 4, 3) := by decide +kernel
theorem dX11_word_92 : decode cX11_word 92 = .ok (.iconst 0, 1) := by decide +kernel
theorem dX11_word_93 : decode cX11_word 93 = .ok (.ireturn, 1) := by decide +kernel
theorem dX11_word_94 : decode cX11_word 94 = .ok (.aload_n 0, 1) := by decide +kernel
theorem dX11_word_95 : decode cX11_word 95 = .ok (.iconst 1, 1) := by decide +kernel
theorem dX11_word_96 : decode cX11_word 96 = .ok (.invokevirtual 158, 3) := by decide +kernel
theorem dX11_word_99 : decode cX11_word 99 = .ok (.ireturn, 1) := by decide +kernel
theorem dX11_letter_0 : decode cX11_letter 0 = .ok (.aload_n 0, 1) := by decide +kernel
theorem dX11_letter_1 : decode cX11_letter 1 = .ok (.invokevirtual 155, 3) := by decide +kernel
theorem dX11_letter_4 : decode cX11_letter 4 = .ok (.aload_n 0, 1) := by decide +kernel
theorem dX11_letter_5 : decode cX11_letter 5 = .ok (.iload_n 1, 1) := by decide +kernel
theorem dX11_letter_6 : decode cX11_letter 6 = .ok (.invokevirtual 249, 3) := by decide +kernel
theorem dX11_letter_9 : decode cX11_letter 9 = .ok (.ifCond .eq 31, 3) := by decide +kernel
theorem dX11_letter_12 : decode cX11_letter 12 = .ok (.iload_n 2, 1) := by decide +kernel
theorem dX11_letter_13 : decode cX11_letter 13 = .ok (.iconst 0, 1) := by decide +kernel
theorem dX11_letter_14 : decode cX11_letter 14 = .ok (.aload_n 0, 1) := by decide +kernel
theorem dX11_letter_15 : decode cX11_letter 15 = .ok (.getfield 20, 3) := by decide +kernel
theorem dX11_letter_18 : decode cX11_letter 18 = .ok (.bipush 7, 2) := by decide +kernel
theorem dX11_letter_20 : decode cX11_letter 20 = .ok (.iload_n 1, 1) := by decide +kernel
theorem dX11_letter_21 : decode cX11_letter 21 = .ok (.iadd, 1) := by decide +kernel
theorem dX11_letter_22 : decode cX11_letter 22 = .ok (.iaload, 1) := by decide +kernel
theorem dX11_letter_23 : decode cX11_letter 23 = .ok (.iconst 1, 1) := by decide +kernel
theorem dX11_letter_24 : decode cX11_letter 24 = .ok (.isub, 1) := by decide +kernel
theorem dX11_letter_25 : decode cX11_letter 25 = .ok (.invokestatic 143, 3) := by decide +kernel
theorem dX11_letter_28 : decode cX11_letter 28 = .ok (.ifCond .eq 12, 3) := by decide +kernel
theorem dX11_letter_31 : decode cX11_letter 31 = .ok (.aload_n 0, 1) := by decide +kernel
theorem dX11_letter_32 : decode cX11_letter 32 = .ok (.iload_n 1, 1) := by decide +kernel
theorem dX11_letter_33 : decode cX11_letter 33 = .ok (.iload_n 2, 1) := by decide +kernel
theorem dX11_letter_34 : decode cX11_letter 34 = .ok (.invokevirtual 243, 3) := by decide +kernel
theorem dX11_letter_37 : decode cX11_letter 37 = .ok (.goto 8, 3) := by decide +kernel
theorem dX11_letter_40 : decode cX11_letter 40 = .ok (.aload_n 0, 1) := by decide +kernel
theorem dX11_letter_41 : decode cX11_letter 41 = .ok (.iconst 1, 1) := by decide +kernel
theorem dX11_letter_42 : decode cX11_letter 42 = .ok (.invokevirtual 158, 3) := by decide +kernel
theorem dX11_letter_45 : decode cX11_letter 45 = .ok (.ireturn, 1) := by decide +kernel
theorem dX11_grows_0 : decode cX11_grows 0 = .ok (.aload_n 0, 1) := by decide +kernel
theorem dX11_grows_1 : decode cX11_grows 1 = .ok (.invokevirtual 155, 3) := by decide +kernel
theorem dX11_grows_4 : decode cX11_grows 4 = .ok (.aload_n 0, 1) := by decide +kernel
theorem dX11_grows_5 : decode cX11_grows 5 = .ok (.iload_n 1, 1) := by decide +kernel
theorem dX11_grows_6 : decode cX11_grows 6 = .ok (.invokevirtual 249, 3) := by decide +kernel
theorem dX11_grows_9 : decode cX11_grows 9 = .ok (.ifCond .eq 11, 3) := by decide +kernel
theorem dX11_grows_12 : decode cX11_grows 12 = .ok (.aload_n 0, 1) := by decide +kernel
theorem dX11_grows_13 : decode cX11_grows 13 = .ok (.iload_n 2, 1) := by decide +kernel
theorem dX11_grows_14 : decode cX11_grows 14 = .ok (.invokevirtual 249, 3) := by decide +kernel
theorem dX11_grows_17 : decode cX11_grows 17 = .ok (.ifCond .ne 9, 3) := by decide +kernel
theorem dX11_grows_20 : decode cX11_grows 20 = .ok (.aload_n 0, 1) := by decide +kernel
theorem dX11_grows_21 : decode cX11_grows 21 = .ok (.iconst 1, 1) := by decide +kernel
theorem dX11_grows_22 : decode cX11_grows 22 = .ok (.invokevirtual 158, 3) := by decide +kernel
theorem dX11_grows_25 : decode cX11_grows 25 = .ok (.ireturn, 1) := by decide +kernel
theorem dX11_grows_26 : decode cX11_grows 26 = .ok (.aload_n 0, 1) := by decide +kernel
theorem dX11_grows_27 : decode cX11_grows 27 = .ok (.iload_n 1, 1) := by decide +kernel
theorem dX11_grows_28 : decode cX11_grows 28 = .ok (.invokevirtual 240, 3) := by decide +kernel
theorem dX11_grows_31 : decode cX11_grows 31 = .ok (.ifCond .eq 11, 3) := by decide +kernel
theorem dX11_grows_34 : decode cX11_grows 34 = .ok (.aload_n 0, 1) := by decide +kernel
theorem dX11_grows_35 : decode cX11_grows 35 = .ok (.iload_n 2, 1) := by decide +kernel
theorem dX11_grows_36 : decode cX11_grows 36 = .ok (.invokevirtual 240, 3) := by decide +kernel
theorem dX11_grows_39 : decode cX11_grows 39 = .ok (.ifCond .ne 9, 3) := by decide +kernel
theorem dX11_grows_42 : decode cX11_grows 42 = .ok (.aload_n 0, 1) := by decide +kernel
theorem dX11_grows_43 : decode cX11_grows 43 = .ok (.iconst 5, 1) := by decide +kernel
theorem dX11_grows_44 : decode cX11_grows 44 = .ok (.invokevirtual 158, 3) := by decide +kernel
theorem dX11_grows_47 : decode cX11_grows 47 = .ok (.ireturn, 1) := by decide +kernel
theorem dX11_grows_48 : decode cX11_grows 48 = .ok (.aload_n 0, 1) := by decide +kernel
theorem dX11_grows_49 : decode cX11_grows 49 = .ok (.getfield 32, 3) := by decide +kernel
theorem dX11_grows_52 : decode cX11_grows 52 = .ok (.bipush 24, 2) := by decide +kernel
theorem dX11_grows_54 : decode cX11_grows 54 = .ok (.iload_n 1, 1) := by decide +kernel
theorem dX11_grows_55 : decode cX11_grows 55 = .ok (.imul, 1) := by decide +kernel
theorem dX11_grows_56 : decode cX11_grows 56 = .ok (.iload_n 2, 1) := by decide +kernel
theorem dX11_grows_57 : decode cX11_grows 57 = .ok (.iadd, 1) := by decide +kernel
theorem dX11_grows_58 : decode cX11_grows 58 = .ok (.iaload, 1) := by decide +kernel
theorem dX11_grows_59 : decode cX11_grows 59 = .ok (.istore_n 3, 1) := by decide +kernel
theorem dX11_grows_60 : decode cX11_grows 60 = .ok (.iload_n 3, 1) := by decide +kernel
theorem dX11_grows_61 : decode cX11_grows 61 = .ok (.ifCond .ge 8, 3) := by decide +kernel
theorem dX11_grows_64 : decode cX11_grows 64 = .ok (.bipush (-2), 2) := by decide +kernel
theorem dX11_grows_66 : decode cX11_grows 66 = .ok (.goto 4, 3) := by decide +kernel
theorem dX11_grows_69 : decode cX11_grows 69 = .ok (.iload_n 3, 1) := by decide +kernel
theorem dX11_grows_70 : decode cX11_grows 70 = .ok (.ireturn, 1) := by decide +kernel
theorem dX11_chain_0 : decode cX11_chain 0 = .ok (.aload_n 0, 1) := by decide +kernel
theorem dX11_chain_1 : decode cX11_chain 1 = .ok (.invokevirtual 155, 3) := by decide +kernel
theorem dX11_chain_4 : decode cX11_chain 4 = .ok (.aload_n 0, 1) := by decide +kernel
theorem dX11_chain_5 : decode cX11_chain 5 = .ok (.iload_n 1, 1) := by decide +kernel
theorem dX11_chain_6 : decode cX11_chain 6 = .ok (.invokevirtual 249, 3) := by decide +kernel
theorem dX11_chain_9 : decode cX11_chain 9 = .ok (.ifCond .ne 9, 3) := by decide +kernel
theorem dX11_chain_12 : decode cX11_chain 12 = .ok (.aload_n 0, 1) := by decide +kernel
theorem dX11_chain_13 : decode cX11_chain 13 = .ok (.iconst 1, 1) := by decide +kernel
theorem dX11_chain_14 : decode cX11_chain 14 = .ok (.invokevirtual 158, 3) := by decide +kernel
theorem dX11_chain_17 : decode cX11_chain 17 = .ok (.ireturn, 1) := by decide +kernel
theorem dX11_chain_18 : decode cX11_chain 18 = .ok (.aload_n 0, 1) := by decide +kernel
theorem dX11_chain_19 : decode cX11_chain 19 = .ok (.iload_n 1, 1) := by decide +kernel
theorem dX11_chain_20 : decode cX11_chain 20 = .ok (.invokevirtual 240, 3) := by decide +kernel
theorem dX11_chain_23 : decode cX11_chain 23 = .ok (.ifCond .eq 12, 3) := by decide +kernel
theorem dX11_chain_26 : decode cX11_chain 26 = .ok (.aload_n 0, 1) := by decide +kernel
theorem dX11_chain_27 : decode cX11_chain 27 = .ok (.getfield 35, 3) := by decide +kernel
theorem dX11_chain_30 : decode cX11_chain 30 = .ok (.iload_n 1, 1) := by decide +kernel
theorem dX11_chain_31 : decode cX11_chain 31 = .ok (.iaload, 1) := by decide +kernel
theorem dX11_chain_32 : decode cX11_chain 32 = .ok (.goto 8, 3) := by decide +kernel
theorem dX11_chain_35 : decode cX11_chain 35 = .ok (.aload_n 0, 1) := by decide +kernel
theorem dX11_chain_36 : decode cX11_chain 36 = .ok (.iconst 5, 1) := by decide +kernel
theorem dX11_chain_37 : decode cX11_chain 37 = .ok (.invokevirtual 158, 3) := by decide +kernel
theorem dX11_chain_40 : decode cX11_chain 40 = .ok (.ireturn, 1) := by decide +kernel
theorem dX11_rises_0 : decode cX11_rises 0 = .ok (.aload_n 0, 1) := by decide +kernel
theorem dX11_rises_1 : decode cX11_rises 1 = .ok (.invokevirtual 155, 3) := by decide +kernel
theorem dX11_rises_4 : decode cX11_rises 4 = .ok (.aload_n 0, 1) := by decide +kernel
theorem dX11_rises_5 : decode cX11_rises 5 = .ok (.iload_n 1, 1) := by decide +kernel
theorem dX11_rises_6 : decode cX11_rises 6 = .ok (.invokevirtual 249, 3) := by decide +kernel
theorem dX11_rises_9 : decode cX11_rises 9 = .ok (.ifCond .ne 9, 3) := by decide +kernel
theorem dX11_rises_12 : decode cX11_rises 12 = .ok (.aload_n 0, 1) := by decide +kernel
theorem dX11_rises_13 : decode cX11_rises 13 = .ok (.iconst 1, 1) := by decide +kernel
theorem dX11_rises_14 : decode cX11_rises 14 = .ok (.invokevirtual 158, 3) := by decide +kernel
theorem dX11_rises_17 : decode cX11_rises 17 = .ok (.ireturn, 1) := by decide +kernel
theorem dX11_rises_18 : decode cX11_rises 18 = .ok (.aload_n 0, 1) := by decide +kernel
theorem dX11_rises_19 : decode cX11_rises 19 = .ok (.iload_n 1, 1) := by decide +kernel
theorem dX11_rises_20 : decode cX11_rises 20 = .ok (.invokevirtual 240, 3) := by decide +kernel
theorem dX11_rises_23 : decode cX11_rises 23 = .ok (.ifCond .eq 12, 3) := by decide +kernel
theorem dX11_rises_26 : decode cX11_rises 26 = .ok (.aload_n 0, 1) := by decide +kernel
theorem dX11_rises_27 : decode cX11_rises 27 = .ok (.getfield 41, 3) := by decide +kernel
theorem dX11_rises_30 : decode cX11_rises 30 = .ok (.iload_n 1, 1) := by decide +kernel
theorem dX11_rises_31 : decode cX11_rises 31 = .ok (.iaload, 1) := by decide +kernel
theorem dX11_rises_32 : decode cX11_rises 32 = .ok (.goto 8, 3) := by decide +kernel
theorem dX11_rises_35 : decode cX11_rises 35 = .ok (.aload_n 0, 1) := by decide +kernel
theorem dX11_rises_36 : decode cX11_rises 36 = .ok (.iconst 5, 1) := by decide +kernel
theorem dX11_rises_37 : decode cX11_rises 37 = .ok (.invokevirtual 158, 3) := by decide +kernel
theorem dX11_rises_40 : decode cX11_rises 40 = .ok (.ireturn, 1) := by decide +kernel
theorem dX11_grundy_0 : decode cX11_grundy 0 = .ok (.aload_n 0, 1) := by decide +kernel
theorem dX11_grundy_1 : decode cX11_grundy 1 = .ok (.invokevirtual 155, 3) := by decide +kernel
theorem dX11_grundy_4 : decode cX11_grundy 4 = .ok (.aload_n 0, 1) := by decide +kernel
theorem dX11_grundy_5 : decode cX11_grundy 5 = .ok (.getfield 164, 3) := by decide +kernel
theorem dX11_grundy_8 : decode cX11_grundy 8 = .ok (.ifCond .eq 16, 3) := by decide +kernel
theorem dX11_grundy_11 : decode cX11_grundy 11 = .ok (.iload_n 1, 1) := by decide +kernel
theorem dX11_grundy_12 : decode cX11_grundy 12 = .ok (.iconst (-1), 1) := by decide +kernel
theorem dX11_grundy_13 : decode cX11_grundy 13 = .ok (.if_icmp .eq 17, 3) := by decide +kernel
theorem dX11_grundy_16 : decode cX11_grundy 16 = .ok (.aload_n 0, 1) := by decide +kernel
theorem dX11_grundy_17 : decode cX11_grundy 17 = .ok (.iload_n 1, 1) := by decide +kernel
theorem dX11_grundy_18 : decode cX11_grundy 18 = .ok (.invokevirtual 249, 3) := by decide +kernel
theorem dX11_grundy_21 : decode cX11_grundy 21 = .ok (.ifCond .ne 9, 3) := by decide +kernel
theorem dX11_grundy_24 : decode cX11_grundy 24 = .ok (.aload_n 0, 1) := by decide +kernel
theorem dX11_grundy_25 : decode cX11_grundy 25 = .ok (.iconst 1, 1) := by decide +kernel
theorem dX11_grundy_26 : decode cX11_grundy 26 = .ok (.invokevirtual 158, 3) := by decide +kernel
theorem dX11_grundy_29 : decode cX11_grundy 29 = .ok (.ireturn, 1) := by decide +kernel
theorem dX11_grundy_30 : decode cX11_grundy 30 = .ok (.iload_n 1, 1) := by decide +kernel
theorem dX11_grundy_31 : decode cX11_grundy 31 = .ok (.iconst (-1), 1) := by decide +kernel
theorem dX11_grundy_32 : decode cX11_grundy 32 = .ok (.if_icmp .ne 11, 3) := by decide +kernel
theorem dX11_grundy_35 : decode cX11_grundy 35 = .ok (.aload_n 0, 1) := by decide +kernel
theorem dX11_grundy_36 : decode cX11_grundy 36 = .ok (.getfield 38, 3) := by decide +kernel
theorem dX11_grundy_39 : decode cX11_grundy 39 = .ok (.bipush 24, 2) := by decide +kernel
theorem dX11_grundy_41 : decode cX11_grundy 41 = .ok (.iaload, 1) := by decide +kernel
theorem dX11_grundy_42 : decode cX11_grundy 42 = .ok (.ireturn, 1) := by decide +kernel
theorem dX11_grundy_43 : decode cX11_grundy 43 = .ok (.aload_n 0, 1) := by decide +kernel
theorem dX11_grundy_44 : decode cX11_grundy 44 = .ok (.iload_n 1, 1) := by decide +kernel
theorem dX11_grundy_45 : decode cX11_grundy 45 = .ok (.invokevirtual 240, 3) := by decide +kernel
theorem dX11_grundy_48 : decode cX11_grundy 48 = .ok (.ifCond .eq 12, 3) := by decide +kernel
theorem dX11_grundy_51 : decode cX11_grundy 51 = .ok (.aload_n 0, 1) := by decide +kernel
theorem dX11_grundy_52 : decode cX11_grundy 52 = .ok (.getfield 38, 3) := by decide +kernel
theorem dX11_grundy_55 : decode cX11_grundy 55 = .ok (.iload_n 1, 1) := by decide +kernel
theorem dX11_grundy_56 : decode cX11_grundy 56 = .ok (.iaload, 1) := by decide +kernel
theorem dX11_grundy_57 : decode cX11_grundy 57 = .ok (.goto 8, 3) := by decide +kernel
theorem dX11_grundy_60 : decode cX11_grundy 60 = .ok (.aload_n 0, 1) := by decide +kernel
theorem dX11_grundy_61 : decode cX11_grundy 61 = .ok (.iconst 5, 1) := by decide +kernel
theorem dX11_grundy_62 : decode cX11_grundy 62 = .ok (.invokevirtual 158, 3) := by decide +kernel
theorem dX11_grundy_65 : decode cX11_grundy 65 = .ok (.ireturn, 1) := by decide +kernel
theorem dX11_layFar_0 : decode cX11_layFar 0 = .ok (.iconst 0, 1) := by decide +kernel
theorem dX11_layFar_1 : decode cX11_layFar 1 = .ok (.istore_n 2, 1) := by decide +kernel
theorem dX11_layFar_2 : decode cX11_layFar 2 = .ok (.iload_n 2, 1) := by decide +kernel
theorem dX11_layFar_3 : decode cX11_layFar 3 = .ok (.bipush 24, 2) := by decide +kernel
theorem dX11_layFar_5 : decode cX11_layFar 5 = .ok (.if_icmp .ge 16, 3) := by decide +kernel
theorem dX11_layFar_8 : decode cX11_layFar 8 = .ok (.aload_n 0, 1) := by decide +kernel
theorem dX11_layFar_9 : decode cX11_layFar 9 = .ok (.getfield 44, 3) := by decide +kernel
theorem dX11_layFar_12 : decode cX11_layFar 12 = .ok (.iload_n 2, 1) := by decide +kernel
theorem dX11_layFar_13 : decode cX11_layFar 13 = .ok (.iconst (-1), 1) := by decide +kernel
theorem dX11_layFar_14 : decode cX11_layFar 14 = .ok (.iastore, 1) := by decide +kernel
theorem dX11_layFar_15 : decode cX11_layFar 15 = .ok (.iinc 2 1, 3) := by decide +kernel
theorem dX11_layFar_18 : decode cX11_layFar 18 = .ok (.goto (-16), 3) := by decide +kernel
theorem dX11_layFar_21 : decode cX11_layFar 21 = .ok (.aload_n 0, 1) := by decide +kernel
theorem dX11_layFar_22 : decode cX11_layFar 22 = .ok (.getfield 44, 3) := by decide +kernel
theorem dX11_layFar_25 : decode cX11_layFar 25 = .ok (.iload_n 1, 1) := by decide +kernel
theorem dX11_layFar_26 : decode cX11_layFar 26 = .ok (.iconst 0, 1) := by decide +kernel
theorem dX11_layFar_27 : decode cX11_layFar 27 = .ok (.iastore, 1) := by decide +kernel
theorem dX11_layFar_28 : decode cX11_layFar 28 = .ok (.iconst 0, 1) := by decide +kernel
theorem dX11_layFar_29 : decode cX11_layFar 29 = .ok (.istore_n 2, 1) := by decide +kernel
theorem dX11_layFar_30 : decode cX11_layFar 30 = .ok (.iload_n 2, 1) := by decide +kernel
theorem dX11_layFar_31 : decode cX11_layFar 31 = .ok (.bipush 24, 2) := by decide +kernel
theorem dX11_layFar_33 : decode cX11_layFar 33 = .ok (.if_icmp .ge 110, 3) := by decide +kernel
theorem dX11_layFar_36 : decode cX11_layFar 36 = .ok (.iconst 0, 1) := by decide +kernel
theorem dX11_layFar_37 : decode cX11_layFar 37 = .ok (.istore_n 3, 1) := by decide +kernel
theorem dX11_layFar_38 : decode cX11_layFar 38 = .ok (.iload_n 3, 1) := by decide +kernel
theorem dX11_layFar_39 : decode cX11_layFar 39 = .ok (.aload_n 0, 1) := by decide +kernel
theorem dX11_layFar_40 : decode cX11_layFar 40 = .ok (.getfield 20, 3) := by decide +kernel
theorem dX11_layFar_43 : decode cX11_layFar 43 = .ok (.iconst 3, 1) := by decide +kernel
theorem dX11_layFar_44 : decode cX11_layFar 44 = .ok (.iaload, 1) := by decide +kernel
theorem dX11_layFar_45 : decode cX11_layFar 45 = .ok (.if_icmp .ge 92, 3) := by decide +kernel
theorem dX11_layFar_48 : decode cX11_layFar 48 = .ok (.aload_n 0, 1) := by decide +kernel
theorem dX11_layFar_49 : decode cX11_layFar 49 = .ok (.getfield 44, 3) := by decide +kernel
theorem dX11_layFar_52 : decode cX11_layFar 52 = .ok (.iload_n 3, 1) := by decide +kernel
theorem dX11_layFar_53 : decode cX11_layFar 53 = .ok (.iaload, 1) := by decide +kernel
theorem dX11_layFar_54 : decode cX11_layFar 54 = .ok (.iload_n 2, 1) := by decide +kernel
theorem dX11_layFar_55 : decode cX11_layFar 55 = .ok (.if_icmp .eq 6, 3) := by decide +kernel
theorem dX11_layFar_58 : decode cX11_layFar 58 = .ok (.goto 73, 3) := by decide +kernel
theorem dX11_layFar_61 : decode cX11_layFar 61 = .ok (.iconst 0, 1) := by decide +kernel
theorem dX11_layFar_62 : decode cX11_layFar 62 = .ok (.istore 4, 2) := by decide +kernel
theorem dX11_layFar_64 : decode cX11_layFar 64 = .ok (.iload 4, 2) := by decide +kernel
theorem dX11_layFar_66 : decode cX11_layFar 66 = .ok (.aload_n 0, 1) := by decide +kernel
theorem dX11_layFar_67 : decode cX11_layFar 67 = .ok (.getfield 20, 3) := by decide +kernel
theorem dX11_layFar_70 : decode cX11_layFar 70 = .ok (.iconst 3, 1) := by decide +kernel
theorem dX11_layFar_71 : decode cX11_layFar 71 = .ok (.iaload, 1) := by decide +kernel
theorem dX11_layFar_72 : decode cX11_layFar 72 = .ok (.if_icmp .ge 59, 3) := by decide +kernel
theorem dX11_layFar_75 : decode cX11_layFar 75 = .ok (.aload_n 0, 1) := by decide +kernel
theorem dX11_layFar_76 : decode cX11_layFar 76 = .ok (.getfield 44, 3) := by decide +kernel
theorem dX11_layFar_79 : decode cX11_layFar 79 = .ok (.iload 4, 2) := by decide +kernel
theorem dX11_layFar_81 : decode cX11_layFar 81 = .ok (.iaload, 1) := by decide +kernel
theorem dX11_layFar_82 : decode cX11_layFar 82 = .ok (.ifCond .ge 43, 3) := by decide +kernel
theorem dX11_layFar_85 : decode cX11_layFar 85 = .ok (.aload_n 0, 1) := by decide +kernel
theorem dX11_layFar_86 : decode cX11_layFar 86 = .ok (.getfield 32, 3) := by decide +kernel
theorem dX11_layFar_89 : decode cX11_layFar 89 = .ok (.bipush 24, 2) := by decide +kernel
theorem dX11_layFar_91 : decode cX11_layFar 91 = .ok (.iload_n 3, 1) := by decide +kernel
theorem dX11_layFar_92 : decode cX11_layFar 92 = .ok (.imul, 1) := by decide +kernel
theorem dX11_layFar_93 : decode cX11_layFar 93 = .ok (.iload 4, 2) := by decide +kernel
theorem dX11_layFar_95 : decode cX11_layFar 95 = .ok (.iadd, 1) := by decide +kernel
theorem dX11_layFar_96 : decode cX11_layFar 96 = .ok (.iaload, 1) := by decide +kernel
theorem dX11_layFar_97 : decode cX11_layFar 97 = .ok (.ifCond .ge 18, 3) := by decide +kernel
theorem dX11_layFar_100 : decode cX11_layFar 100 = .ok (.aload_n 0, 1) := by decide +kernel
theorem dX11_layFar_101 : decode cX11_layFar 101 = .ok (.getfield 32, 3) := by decide +kernel
theorem dX11_layFar_104 : decode cX11_layFar 104 = .ok (.bipush 24, 2) := by decide +kernel
theorem dX11_layFar_106 : decode cX11_layFar 106 = .ok (.iload 4, 2) := by decide +kernel
theorem dX11_layFar_108 : decode cX11_layFar 108 = .ok (.imul, 1) := by decide +kernel
theorem dX11_layFar_109 : decode cX11_layFar 109 = .ok (.iload_n 3, 1) := by decide +kernel
theorem dX11_layFar_110 : decode cX11_layFar 110 = .ok (.iadd, 1) := by decide +kernel
theorem dX11_layFar_111 : decode cX11_layFar 111 = .ok (.iaload, 1) := by decide +kernel
theorem dX11_layFar_112 : decode cX11_layFar 112 = .ok (.ifCond .lt 13, 3) := by decide +kernel
theorem dX11_layFar_115 : decode cX11_layFar 115 = .ok (.aload_n 0, 1) := by decide +kernel
theorem dX11_layFar_116 : decode cX11_layFar 116 = .ok (.getfield 44, 3) := by decide +kernel
theorem dX11_layFar_119 : decode cX11_layFar 119 = .ok (.iload 4, 2) := by decide +kernel
theorem dX11_layFar_121 : decode cX11_layFar 121 = .ok (.iload_n 2, 1) := by decide +kernel
theorem dX11_layFar_122 : decode cX11_layFar 122 = .ok (.iconst 1, 1) := by decide +kernel
theorem dX11_layFar_123 : decode cX11_layFar 123 = .ok (.iadd, 1) := by decide +kernel
theorem dX11_layFar_124 : decode cX11_layFar 124 = .ok (.iastore, 1) := by decide +kernel
theorem dX11_layFar_125 : decode cX11_layFar 125 = .ok (.iinc 4 1, 3) := by decide +kernel
theorem dX11_layFar_128 : decode cX11_layFar 128 = .ok (.goto (-64), 3) := by decide +kernel
theorem dX11_layFar_131 : decode cX11_layFar 131 = .ok (.iinc 3 1, 3) := by decide +kernel
theorem dX11_layFar_134 : decode cX11_layFar 134 = .ok (.goto (-96), 3) := by decide +kernel
theorem dX11_layFar_137 : decode cX11_layFar 137 = .ok (.iinc 2 1, 3) := by decide +kernel
theorem dX11_layFar_140 : decode cX11_layFar 140 = .ok (.goto (-110), 3) := by decide +kernel
theorem dX11_layFar_143 : decode cX11_layFar 143 = .ok (.return_, 1) := by decide +kernel
theorem dX11_pairWhy_0 : decode cX11_pairWhy 0 = .ok (.aload_n 0, 1) := by decide +kernel
theorem dX11_pairWhy_1 : decode cX11_pairWhy 1 = .ok (.iload_n 1, 1) := by decide +kernel
theorem dX11_pairWhy_2 : decode cX11_pairWhy 2 = .ok (.invokevirtual 249, 3) := by decide +kernel
theorem dX11_pairWhy_5 : decode cX11_pairWhy 5 = .ok (.ifCond .eq 11, 3) := by decide +kernel
theorem dX11_pairWhy_8 : decode cX11_pairWhy 8 = .ok (.aload_n 0, 1) := by decide +kernel
theorem dX11_pairWhy_9 : decode cX11_pairWhy 9 = .ok (.iload_n 2, 1) := by decide +kernel
theorem dX11_pairWhy_10 : decode cX11_pairWhy 10 = .ok (.invokevirtual 249, 3) := by decide +kernel
theorem dX11_pairWhy_13 : decode cX11_pairWhy 13 = .ok (.ifCond .ne 7, 3) := by decide +kernel
theorem dX11_pairWhy_16 : decode cX11_pairWhy 16 = .ok (.iconst 1, 1) := by decide +kernel
theorem dX11_pairWhy_17 : decode cX11_pairWhy 17 = .ok (.goto 24, 3) := by decide +kernel
theorem dX11_pairWhy_20 : decode cX11_pairWhy 20 = .ok (.aload_n 0, 1) := by decide +kernel
theorem dX11_pairWhy_21 : decode cX11_pairWhy 21 = .ok (.iload_n 1, 1) := by decide +kernel
theorem dX11_pairWhy_22 : decode cX11_pairWhy 22 = .ok (.invokevirtual 240, 3) := by decide +kernel
theorem dX11_pairWhy_25 : decode cX11_pairWhy 25 = .ok (.ifCond .eq 15, 3) := by decide +kernel
theorem dX11_pairWhy_28 : decode cX11_pairWhy 28 = .ok (.aload_n 0, 1) := by decide +kernel
theorem dX11_pairWhy_29 : decode cX11_pairWhy 29 = .ok (.iload_n 2, 1) := by decide +kernel
theorem dX11_pairWhy_30 : decode cX11_pairWhy 30 = .ok (.invokevirtual 240, 3) := by decide +kernel
theorem dX11_pairWhy_33 : decode cX11_pairWhy 33 = .ok (.ifCond .eq 7, 3) := by decide +kernel
theorem dX11_pairWhy_36 : decode cX11_pairWhy 36 = .ok (.iconst 0, 1) := by decide +kernel
theorem dX11_pairWhy_37 : decode cX11_pairWhy 37 = .ok (.goto 4, 3) := by decide +kernel
theorem dX11_pairWhy_40 : decode cX11_pairWhy 40 = .ok (.iconst 5, 1) := by decide +kernel
theorem dX11_pairWhy_41 : decode cX11_pairWhy 41 = .ok (.ireturn, 1) := by decide +kernel
theorem dX11_ladder_0 : decode cX11_ladder 0 = .ok (.aload_n 0, 1) := by decide +kernel
theorem dX11_ladder_1 : decode cX11_ladder 1 = .ok (.invokevirtual 155, 3) := by decide +kernel
theorem dX11_ladder_4 : decode cX11_ladder 4 = .ok (.aload_n 0, 1) := by decide +kernel
theorem dX11_ladder_5 : decode cX11_ladder 5 = .ok (.iload_n 1, 1) := by decide +kernel
theorem dX11_ladder_6 : decode cX11_ladder 6 = .ok (.iload_n 2, 1) := by decide +kernel
theorem dX11_ladder_7 : decode cX11_ladder 7 = .ok (.invokevirtual 252, 3) := by decide +kernel
theorem dX11_ladder_10 : decode cX11_ladder 10 = .ok (.istore_n 3, 1) := by decide +kernel
theorem dX11_ladder_11 : decode cX11_ladder 11 = .ok (.iload_n 3, 1) := by decide +kernel
theorem dX11_ladder_12 : decode cX11_ladder 12 = .ok (.ifCond .eq 9, 3) := by decide +kernel
theorem dX11_ladder_15 : decode cX11_ladder 15 = .ok (.aload_n 0, 1) := by decide +kernel
theorem dX11_ladder_16 : decode cX11_ladder 16 = .ok (.iload_n 3, 1) := by decide +kernel
theorem dX11_ladder_17 : decode cX11_ladder 17 = .ok (.invokevirtual 158, 3) := by decide +kernel
theorem dX11_ladder_20 : decode cX11_ladder 20 = .ok (.ireturn, 1) := by decide +kernel
theorem dX11_ladder_21 : decode cX11_ladder 21 = .ok (.aload_n 0, 1) := by decide +kernel
theorem dX11_ladder_22 : decode cX11_ladder 22 = .ok (.iload_n 2, 1) := by decide +kernel
theorem dX11_ladder_23 : decode cX11_ladder 23 = .ok (.invokevirtual 255, 3) := by decide +kernel
theorem dX11_ladder_26 : decode cX11_ladder 26 = .ok (.aload_n 0, 1) := by decide +kernel
theorem dX11_ladder_27 : decode cX11_ladder 27 = .ok (.getfield 44, 3) := by decide +kernel
theorem dX11_ladder_30 : decode cX11_ladder 30 = .ok (.iload_n 1, 1) := by decide +kernel
theorem dX11_ladder_31 : decode cX11_ladder 31 = .ok (.iaload, 1) := by decide +kernel
theorem dX11_ladder_32 : decode cX11_ladder 32 = .ok (.ifCond .ge 8, 3) := by decide +kernel
theorem dX11_ladder_35 : decode cX11_ladder 35 = .ok (.bipush (-2), 2) := by decide +kernel
theorem dX11_ladder_37 : decode cX11_ladder 37 = .ok (.goto 9, 3) := by decide +kernel
theorem dX11_ladder_40 : decode cX11_ladder 40 = .ok (.aload_n 0, 1) := by decide +kernel
theorem dX11_ladder_41 : decode cX11_ladder 41 = .ok (.getfield 44, 3) := by decide +kernel
theorem dX11_ladder_44 : decode cX11_ladder 44 = .ok (.iload_n 1, 1) := by decide +kernel
theorem dX11_ladder_45 : decode cX11_ladder 45 = .ok (.iaload, 1) := by decide +kernel
theorem dX11_ladder_46 : decode cX11_ladder 46 = .ok (.ireturn, 1) := by decide +kernel
theorem dX11_rung_0 : decode cX11_rung 0 = .ok (.aload_n 0, 1) := by decide +kernel
theorem dX11_rung_1 : decode cX11_rung 1 = .ok (.invokevirtual 155, 3) := by decide +kernel
theorem dX11_rung_4 : decode cX11_rung 4 = .ok (.iload_n 3, 1) := by decide +kernel
theorem dX11_rung_5 : decode cX11_rung 5 = .ok (.ifCond .ge 7, 3) := by decide +kernel
theorem dX11_rung_8 : decode cX11_rung 8 = .ok (.iconst 1, 1) := by decide +kernel
theorem dX11_rung_9 : decode cX11_rung 9 = .ok (.goto 9, 3) := by decide +kernel
theorem dX11_rung_12 : decode cX11_rung 12 = .ok (.aload_n 0, 1) := by decide +kernel
theorem dX11_rung_13 : decode cX11_rung 13 = .ok (.iload_n 1, 1) := by decide +kernel
theorem dX11_rung_14 : decode cX11_rung 14 = .ok (.iload_n 2, 1) := by decide +kernel
theorem dX11_rung_15 : decode cX11_rung 15 = .ok (.invokevirtual 252, 3) := by decide +kernel
theorem dX11_rung_18 : decode cX11_rung 18 = .ok (.istore 4, 2) := by decide +kernel
theorem dX11_rung_20 : decode cX11_rung 20 = .ok (.iload 4, 2) := by decide +kernel
theorem dX11_rung_22 : decode cX11_rung 22 = .ok (.ifCond .eq 10, 3) := by decide +kernel
theorem dX11_rung_25 : decode cX11_rung 25 = .ok (.aload_n 0, 1) := by decide +kernel
theorem dX11_rung_26 : decode cX11_rung 26 = .ok (.iload 4, 2) := by decide +kernel
theorem dX11_rung_28 : decode cX11_rung 28 = .ok (.invokevirtual 158, 3) := by decide +kernel
theorem dX11_rung_31 : decode cX11_rung 31 = .ok (.ireturn, 1) := by decide +kernel
theorem dX11_rung_32 : decode cX11_rung 32 = .ok (.aload_n 0, 1) := by decide +kernel
theorem dX11_rung_33 : decode cX11_rung 33 = .ok (.iload_n 2, 1) := by decide +kernel
theorem dX11_rung_34 : decode cX11_rung 34 = .ok (.invokevirtual 255, 3) := by decide +kernel
theorem dX11_rung_37 : decode cX11_rung 37 = .ok (.aload_n 0, 1) := by decide +kernel
theorem dX11_rung_38 : decode cX11_rung 38 = .ok (.getfield 44, 3) := by decide +kernel
theorem dX11_rung_41 : decode cX11_rung 41 = .ok (.iload_n 1, 1) := by decide +kernel
theorem dX11_rung_42 : decode cX11_rung 42 = .ok (.iaload, 1) := by decide +kernel
theorem dX11_rung_43 : decode cX11_rung 43 = .ok (.ifCond .ge 10, 3) := by decide +kernel
theorem dX11_rung_46 : decode cX11_rung 46 = .ok (.aload_n 0, 1) := by decide +kernel
theorem dX11_rung_47 : decode cX11_rung 47 = .ok (.bipush 6, 2) := by decide +kernel
theorem dX11_rung_49 : decode cX11_rung 49 = .ok (.invokevirtual 158, 3) := by decide +kernel
theorem dX11_rung_52 : decode cX11_rung 52 = .ok (.ireturn, 1) := by decide +kernel
theorem dX11_rung_53 : decode cX11_rung 53 = .ok (.iload_n 3, 1) := by decide +kernel
theorem dX11_rung_54 : decode cX11_rung 54 = .ok (.aload_n 0, 1) := by decide +kernel
theorem dX11_rung_55 : decode cX11_rung 55 = .ok (.getfield 44, 3) := by decide +kernel
theorem dX11_rung_58 : decode cX11_rung 58 = .ok (.iload_n 1, 1) := by decide +kernel
theorem dX11_rung_59 : decode cX11_rung 59 = .ok (.iaload, 1) := by decide +kernel
theorem dX11_rung_60 : decode cX11_rung 60 = .ok (.if_icmp .le 9, 3) := by decide +kernel
theorem dX11_rung_63 : decode cX11_rung 63 = .ok (.aload_n 0, 1) := by decide +kernel
theorem dX11_rung_64 : decode cX11_rung 64 = .ok (.iconst 1, 1) := by decide +kernel
theorem dX11_rung_65 : decode cX11_rung 65 = .ok (.invokevirtual 158, 3) := by decide +kernel
theorem dX11_rung_68 : decode cX11_rung 68 = .ok (.ireturn, 1) := by decide +kernel
theorem dX11_rung_69 : decode cX11_rung 69 = .ok (.iload_n 1, 1) := by decide +kernel
theorem dX11_rung_70 : decode cX11_rung 70 = .ok (.istore 5, 2) := by decide +kernel
theorem dX11_rung_72 : decode cX11_rung 72 = .ok (.iconst 0, 1) := by decide +kernel
theorem dX11_rung_73 : decode cX11_rung 73 = .ok (.istore 6, 2) := by decide +kernel
theorem dX11_rung_75 : decode cX11_rung 75 = .ok (.iload 6, 2) := by decide +kernel
theorem dX11_rung_77 : decode cX11_rung 77 = .ok (.iload_n 3, 1) := by decide +kernel
theorem dX11_rung_78 : decode cX11_rung 78 = .ok (.if_icmp .ge 73, 3) := by decide +kernel
theorem dX11_rung_81 : decode cX11_rung 81 = .ok (.iconst 0, 1) := by decide +kernel
theorem dX11_rung_82 : decode cX11_rung 82 = .ok (.istore 7, 2) := by decide +kernel
theorem dX11_rung_84 : decode cX11_rung 84 = .ok (.aload_n 0, 1) := by decide +kernel
theorem dX11_rung_85 : decode cX11_rung 85 = .ok (.getfield 44, 3) := by decide +kernel
theorem dX11_rung_88 : decode cX11_rung 88 = .ok (.iload 7, 2) := by decide +kernel
theorem dX11_rung_90 : decode cX11_rung 90 = .ok (.iaload, 1) := by decide +kernel
theorem dX11_rung_91 : decode cX11_rung 91 = .ok (.aload_n 0, 1) := by decide +kernel
theorem dX11_rung_92 : decode cX11_rung 92 = .ok (.getfield 44, 3) := by decide +kernel
theorem dX11_rung_95 : decode cX11_rung 95 = .ok (.iload 5, 2) := by decide +kernel
theorem dX11_rung_97 : decode cX11_rung 97 = .ok (.iaload, 1) := by decide +kernel
theorem dX11_rung_98 : decode cX11_rung 98 = .ok (.iconst 1, 1) := by decide +kernel
theorem dX11_rung_99 : decode cX11_rung 99 = .ok (.isub, 1) := by decide +kernel
theorem dX11_rung_100 : decode cX11_rung 100 = .ok (.if_icmp .ne 35, 3) := by decide +kernel
theorem dX11_rung_103 : decode cX11_rung 103 = .ok (.aload_n 0, 1) := by decide +kernel
theorem dX11_rung_104 : decode cX11_rung 104 = .ok (.getfield 32, 3) := by decide +kernel
theorem dX11_rung_107 : decode cX11_rung 107 = .ok (.bipush 24, 2) := by decide +kernel
theorem dX11_rung_109 : decode cX11_rung 109 = .ok (.iload 5, 2) := by decide +kernel
theorem dX11_rung_111 : decode cX11_rung 111 = .ok (.imul, 1) := by decide +kernel
theorem dX11_rung_112 : decode cX11_rung 112 = .ok (.iload 7, 2) := by decide +kernel
theorem dX11_rung_114 : decode cX11_rung 114 = .ok (.iadd, 1) := by decide +kernel
theorem dX11_rung_115 : decode cX11_rung 115 = .ok (.iaload, 1) := by decide +kernel
theorem dX11_rung_116 : decode cX11_rung 116 = .ok (.ifCond .ge 25, 3) := by decide +kernel
theorem dX11_rung_119 : decode cX11_rung 119 = .ok (.aload_n 0, 1) := by decide +kernel
theorem dX11_rung_120 : decode cX11_rung 120 = .ok (.getfield 32, 3) := by decide +kernel
theorem dX11_rung_123 : decode cX11_rung 123 = .ok (.bipush 24, 2) := by decide +kernel
theorem dX11_rung_125 : decode cX11_rung 125 = .ok (.iload 7, 2) := by decide +kernel
theorem dX11_rung_127 : decode cX11_rung 127 = .ok (.imul, 1) := by decide +kernel
theorem dX11_rung_128 : decode cX11_rung 128 = .ok (.iload 5, 2) := by decide +kernel
theorem dX11_rung_130 : decode cX11_rung 130 = .ok (.iadd, 1) := by decide +kernel
theorem dX11_rung_131 : decode cX11_rung 131 = .ok (.iaload, 1) := by decide +kernel
theorem dX11_rung_132 : decode cX11_rung 132 = .ok (.ifCond .ge 9, 3) := by decide +kernel
theorem dX11_rung_135 : decode cX11_rung 135 = .ok (.iinc 7 1, 3) := by decide +kernel
theorem dX11_rung_138 : decode cX11_rung 138 = .ok (.goto (-54), 3) := by decide +kernel
theorem dX11_rung_141 : decode cX11_rung 141 = .ok (.iload 7, 2) := by decide +kernel
theorem dX11_rung_143 : decode cX11_rung 143 = .ok (.istore 5, 2) := by decide +kernel
theorem dX11_rung_145 : decode cX11_rung 145 = .ok (.iinc 6 1, 3) := by decide +kernel
theorem dX11_rung_148 : decode cX11_rung 148 = .ok (.goto (-73), 3) := by decide +kernel
theorem dX11_rung_151 : decode cX11_rung 151 = .ok (.iload 5, 2) := by decide +kernel
theorem dX11_rung_153 : decode cX11_rung 153 = .ok (.ireturn, 1) := by decide +kernel
theorem dX11_layLetters_0 : decode cX11_layLetters 0 = .ok (.iconst 0, 1) := by decide +kernel
theorem dX11_layLetters_1 : decode cX11_layLetters 1 = .ok (.istore_n 1, 1) := by decide +kernel
theorem dX11_layLetters_2 : decode cX11_layLetters 2 = .ok (.iload_n 1, 1) := by decide +kernel
theorem dX11_layLetters_3 : decode cX11_layLetters 3 = .ok (.bipush 26, 2) := by decide +kernel
theorem dX11_layLetters_5 : decode cX11_layLetters 5 = .ok (.if_icmp .ge 16, 3) := by decide +kernel
theorem dX11_layLetters_8 : decode cX11_layLetters 8 = .ok (.aload_n 0, 1) := by decide +kernel
theorem dX11_layLetters_9 : decode cX11_layLetters 9 = .ok (.getfield 50, 3) := by decide +kernel
theorem dX11_layLetters_12 : decode cX11_layLetters 12 = .ok (.iload_n 1, 1) := by decide +kernel
theorem dX11_layLetters_13 : decode cX11_layLetters 13 = .ok (.iconst 0, 1) := by decide +kernel
theorem dX11_layLetters_14 : decode cX11_layLetters 14 = .ok (.iastore, 1) := by decide +kernel
theorem dX11_layLetters_15 : decode cX11_layLetters 15 = .ok (.iinc 1 1, 3) := by decide +kernel
theorem dX11_layLetters_18 : decode cX11_layLetters 18 = .ok (.goto (-16), 3) := by decide +kernel
theorem dX11_layLetters_21 : decode cX11_layLetters 21 = .ok (.iconst 0, 1) := by decide +kernel
theorem dX11_layLetters_22 : decode cX11_layLetters 22 = .ok (.istore_n 1, 1) := by decide +kernel
theorem dX11_layLetters_23 : decode cX11_layLetters 23 = .ok (.iload_n 1, 1) := by decide +kernel
theorem dX11_layLetters_24 : decode cX11_layLetters 24 = .ok (.aload_n 0, 1) := by decide +kernel
theorem dX11_layLetters_25 : decode cX11_layLetters 25 = .ok (.getfield 20, 3) := by decide +kernel
theorem dX11_layLetters_28 : decode cX11_layLetters 28 = .ok (.iconst 4, 1) := by decide +kernel
theorem dX11_layLetters_29 : decode cX11_layLetters 29 = .ok (.iaload, 1) := by decide +kernel
theorem dX11_layLetters_30 : decode cX11_layLetters 30 = .ok (.if_icmp .ge 28, 3) := by decide +kernel
theorem dX11_layLetters_33 : decode cX11_layLetters 33 = .ok (.aload_n 0, 1) := by decide +kernel
theorem dX11_layLetters_34 : decode cX11_layLetters 34 = .ok (.getfield 50, 3) := by decide +kernel
theorem dX11_layLetters_37 : decode cX11_layLetters 37 = .ok (.aload_n 0, 1) := by decide +kernel
theorem dX11_layLetters_38 : decode cX11_layLetters 38 = .ok (.getfield 20, 3) := by decide +kernel
theorem dX11_layLetters_41 : decode cX11_layLetters 41 = .ok (.sipush 295, 3) := by decide +kernel
theorem dX11_layLetters_44 : decode cX11_layLetters 44 = .ok (.iload_n 1, 1) := by decide +kernel
theorem dX11_layLetters_45 : decode cX11_layLetters 45 = .ok (.iadd, 1) := by decide +kernel
theorem dX11_layLetters_46 : decode cX11_layLetters 46 = .ok (.iaload, 1) := by decide +kernel
theorem dX11_layLetters_47 : decode cX11_layLetters 47 = .ok (.dup2, 1) := by decide +kernel
theorem dX11_layLetters_48 : decode cX11_layLetters 48 = .ok (.iaload, 1) := by decide +kernel
theorem dX11_layLetters_49 : decode cX11_layLetters 49 = .ok (.iconst 1, 1) := by decide +kernel
theorem dX11_layLetters_50 : decode cX11_layLetters 50 = .ok (.iadd, 1) := by decide +kernel
theorem dX11_layLetters_51 : decode cX11_layLetters 51 = .ok (.iastore, 1) := by decide +kernel
theorem dX11_layLetters_52 : decode cX11_layLetters 52 = .ok (.iinc 1 1, 3) := by decide +kernel
theorem dX11_layLetters_55 : decode cX11_layLetters 55 = .ok (.goto (-32), 3) := by decide +kernel
theorem dX11_layLetters_58 : decode cX11_layLetters 58 = .ok (.return_, 1) := by decide +kernel
theorem dX11_addUp_0 : decode cX11_addUp 0 = .ok (.iconst 0, 1) := by decide +kernel
theorem dX11_addUp_1 : decode cX11_addUp 1 = .ok (.istore_n 1, 1) := by decide +kernel
theorem dX11_addUp_2 : decode cX11_addUp 2 = .ok (.iload_n 1, 1) := by decide +kernel
theorem dX11_addUp_3 : decode cX11_addUp 3 = .ok (.bipush 26, 2) := by decide +kernel
theorem dX11_addUp_5 : decode cX11_addUp 5 = .ok (.if_icmp .ge 16, 3) := by decide +kernel
theorem dX11_addUp_8 : decode cX11_addUp 8 = .ok (.aload_n 0, 1) := by decide +kernel
theorem dX11_addUp_9 : decode cX11_addUp 9 = .ok (.getfield 47, 3) := by decide +kernel
theorem dX11_addUp_12 : decode cX11_addUp 12 = .ok (.iload_n 1, 1) := by decide +kernel
theorem dX11_addUp_13 : decode cX11_addUp 13 = .ok (.iconst 0, 1) := by decide +kernel
theorem dX11_addUp_14 : decode cX11_addUp 14 = .ok (.iastore, 1) := by decide +kernel
theorem dX11_addUp_15 : decode cX11_addUp 15 = .ok (.iinc 1 1, 3) := by decide +kernel
theorem dX11_addUp_18 : decode cX11_addUp 18 = .ok (.goto (-16), 3) := by decide +kernel
theorem dX11_addUp_21 : decode cX11_addUp 21 = .ok (.iconst 0, 1) := by decide +kernel
theorem dX11_addUp_22 : decode cX11_addUp 22 = .ok (.istore_n 1, 1) := by decide +kernel
theorem dX11_addUp_23 : decode cX11_addUp 23 = .ok (.iload_n 1, 1) := by decide +kernel
theorem dX11_addUp_24 : decode cX11_addUp 24 = .ok (.iconst 3, 1) := by decide +kernel
theorem dX11_addUp_25 : decode cX11_addUp 25 = .ok (.if_icmp .ge 66, 3) := by decide +kernel
theorem dX11_addUp_28 : decode cX11_addUp 28 = .ok (.aload_n 0, 1) := by decide +kernel
theorem dX11_addUp_29 : decode cX11_addUp 29 = .ok (.getfield 56, 3) := by decide +kernel
theorem dX11_addUp_32 : decode cX11_addUp 32 = .ok (.iload_n 1, 1) := by decide +kernel
theorem dX11_addUp_33 : decode cX11_addUp 33 = .ok (.iaload, 1) := by decide +kernel
theorem dX11_addUp_34 : decode cX11_addUp 34 = .ok (.bipush 24, 2) := by decide +kernel
theorem dX11_addUp_36 : decode cX11_addUp 36 = .ok (.if_icmp .ge 49, 3) := by decide +kernel
theorem dX11_addUp_39 : decode cX11_addUp 39 = .ok (.iconst 0, 1) := by decide +kernel
theorem dX11_addUp_40 : decode cX11_addUp 40 = .ok (.istore_n 2, 1) := by decide +kernel
theorem dX11_addUp_41 : decode cX11_addUp 41 = .ok (.iload_n 2, 1) := by decide +kernel
theorem dX11_addUp_42 : decode cX11_addUp 42 = .ok (.aload_n 0, 1) := by decide +kernel
theorem dX11_addUp_43 : decode cX11_addUp 43 = .ok (.getfield 20, 3) := by decide +kernel
theorem dX11_addUp_46 : decode cX11_addUp 46 = .ok (.bipush 7, 2) := by decide +kernel
theorem dX11_addUp_48 : decode cX11_addUp 48 = .ok (.aload_n 0, 1) := by decide +kernel
theorem dX11_addUp_49 : decode cX11_addUp 49 = .ok (.getfield 56, 3) := by decide +kernel
theorem dX11_addUp_52 : decode cX11_addUp 52 = .ok (.iload_n 1, 1) := by decide +kernel
theorem dX11_addUp_53 : decode cX11_addUp 53 = .ok (.iaload, 1) := by decide +kernel
theorem dX11_addUp_54 : decode cX11_addUp 54 = .ok (.iadd, 1) := by decide +kernel
theorem dX11_addUp_55 : decode cX11_addUp 55 = .ok (.iaload, 1) := by decide +kernel
theorem dX11_addUp_56 : decode cX11_addUp 56 = .ok (.if_icmp .ge 29, 3) := by decide +kernel
theorem dX11_addUp_59 : decode cX11_addUp 59 = .ok (.aload_n 0, 1) := by decide +kernel
theorem dX11_addUp_60 : decode cX11_addUp 60 = .ok (.getfield 47, 3) := by decide +kernel
theorem dX11_addUp_63 : decode cX11_addUp 63 = .ok (.aload_n 0, 1) := by decide +kernel
theorem dX11_addUp_64 : decode cX11_addUp 64 = .ok (.aload_n 0, 1) := by decide +kernel
theorem dX11_addUp_65 : decode cX11_addUp 65 = .ok (.getfield 56, 3) := by decide +kernel
theorem dX11_addUp_68 : decode cX11_addUp 68 = .ok (.iload_n 1, 1) := by decide +kernel
theorem dX11_addUp_69 : decode cX11_addUp 69 = .ok (.iaload, 1) := by decide +kernel
theorem dX11_addUp_70 : decode cX11_addUp 70 = .ok (.iload_n 2, 1) := by decide +kernel
theorem dX11_addUp_71 : decode cX11_addUp 71 = .ok (.invokevirtual 243, 3) := by decide +kernel
theorem dX11_addUp_74 : decode cX11_addUp 74 = .ok (.dup2, 1) := by decide +kernel
theorem dX11_addUp_75 : decode cX11_addUp 75 = .ok (.iaload, 1) := by decide +kernel
theorem dX11_addUp_76 : decode cX11_addUp 76 = .ok (.iconst 1, 1) := by decide +kernel
theorem dX11_addUp_77 : decode cX11_addUp 77 = .ok (.iadd, 1) := by decide +kernel
theorem dX11_addUp_78 : decode cX11_addUp 78 = .ok (.iastore, 1) := by decide +kernel
theorem dX11_addUp_79 : decode cX11_addUp 79 = .ok (.iinc 2 1, 3) := by decide +kernel
theorem dX11_addUp_82 : decode cX11_addUp 82 = .ok (.goto (-41), 3) := by decide +kernel
theorem dX11_addUp_85 : decode cX11_addUp 85 = .ok (.iinc 1 1, 3) := by decide +kernel
theorem dX11_addUp_88 : decode cX11_addUp 88 = .ok (.goto (-65), 3) := by decide +kernel
theorem dX11_addUp_91 : decode cX11_addUp 91 = .ok (.iconst 1, 1) := by decide +kernel
theorem dX11_addUp_92 : decode cX11_addUp 92 = .ok (.istore_n 1, 1) := by decide +kernel
theorem dX11_addUp_93 : decode cX11_addUp 93 = .ok (.iconst 0, 1) := by decide +kernel
theorem dX11_addUp_94 : decode cX11_addUp 94 = .ok (.istore_n 2, 1) := by decide +kernel
theorem dX11_addUp_95 : decode cX11_addUp 95 = .ok (.iload_n 2, 1) := by decide +kernel
theorem dX11_addUp_96 : decode cX11_addUp 96 = .ok (.bipush 26, 2) := by decide +kernel
theorem dX11_addUp_98 : decode cX11_addUp 98 = .ok (.if_icmp .ge 34, 3) := by decide +kernel
theorem dX11_addUp_101 : decode cX11_addUp 101 = .ok (.iload_n 1, 1) := by decide +kernel
theorem dX11_addUp_102 : decode cX11_addUp 102 = .ok (.ifCond .eq 22, 3) := by decide +kernel
theorem dX11_addUp_105 : decode cX11_addUp 105 = .ok (.aload_n 0, 1) := by decide +kernel
theorem dX11_addUp_106 : decode cX11_addUp 106 = .ok (.getfield 47, 3) := by decide +kernel
theorem dX11_addUp_109 : decode cX11_addUp 109 = .ok (.iload_n 2, 1) := by decide +kernel
theorem dX11_addUp_110 : decode cX11_addUp 110 = .ok (.iaload, 1) := by decide +kernel
theorem dX11_addUp_111 : decode cX11_addUp 111 = .ok (.aload_n 0, 1) := by decide +kernel
theorem dX11_addUp_112 : decode cX11_addUp 112 = .ok (.getfield 50, 3) := by decide +kernel
theorem dX11_addUp_115 : decode cX11_addUp 115 = .ok (.iload_n 2, 1) := by decide +kernel
theorem dX11_addUp_116 : decode cX11_addUp 116 = .ok (.iaload, 1) := by decide +kernel
theorem dX11_addUp_117 : decode cX11_addUp 117 = .ok (.if_icmp .gt 7, 3) := by decide +kernel
theorem dX11_addUp_120 : decode cX11_addUp 120 = .ok (.iconst 1, 1) := by decide +kernel
theorem dX11_addUp_121 : decode cX11_addUp 121 = .ok (.goto 4, 3) := by decide +kernel
theorem dX11_addUp_124 : decode cX11_addUp 124 = .ok (.iconst 0, 1) := by decide +kernel
theorem dX11_addUp_125 : decode cX11_addUp 125 = .ok (.istore_n 1, 1) := by decide +kernel
theorem dX11_addUp_126 : decode cX11_addUp 126 = .ok (.iinc 2 1, 3) := by decide +kernel
theorem dX11_addUp_129 : decode cX11_addUp 129 = .ok (.goto (-34), 3) := by decide +kernel
theorem dX11_addUp_132 : decode cX11_addUp 132 = .ok (.iload_n 1, 1) := by decide +kernel
theorem dX11_addUp_133 : decode cX11_addUp 133 = .ok (.ireturn, 1) := by decide +kernel
theorem dX11_lettersOf_0 : decode cX11_lettersOf 0 = .ok (.iconst 0, 1) := by decide +kernel
theorem dX11_lettersOf_1 : decode cX11_lettersOf 1 = .ok (.istore_n 1, 1) := by decide +kernel
theorem dX11_lettersOf_2 : decode cX11_lettersOf 2 = .ok (.iconst 0, 1) := by decide +kernel
theorem dX11_lettersOf_3 : decode cX11_lettersOf 3 = .ok (.istore_n 2, 1) := by decide +kernel
theorem dX11_lettersOf_4 : decode cX11_lettersOf 4 = .ok (.iload_n 2, 1) := by decide +kernel
theorem dX11_lettersOf_5 : decode cX11_lettersOf 5 = .ok (.iconst 3, 1) := by decide +kernel
theorem dX11_lettersOf_6 : decode cX11_lettersOf 6 = .ok (.if_icmp .ge 41, 3) := by decide +kernel
theorem dX11_lettersOf_9 : decode cX11_lettersOf 9 = .ok (.iload_n 1, 1) := by decide +kernel
theorem dX11_lettersOf_10 : decode cX11_lettersOf 10 = .ok (.aload_n 0, 1) := by decide +kernel
theorem dX11_lettersOf_11 : decode cX11_lettersOf 11 = .ok (.getfield 56, 3) := by decide +kernel
theorem dX11_lettersOf_14 : decode cX11_lettersOf 14 = .ok (.iload_n 2, 1) := by decide +kernel
theorem dX11_lettersOf_15 : decode cX11_lettersOf 15 = .ok (.iaload, 1) := by decide +kernel
theorem dX11_lettersOf_16 : decode cX11_lettersOf 16 = .ok (.bipush 24, 2) := by decide +kernel
theorem dX11_lettersOf_18 : decode cX11_lettersOf 18 = .ok (.if_icmp .ge 20, 3) := by decide +kernel
theorem dX11_lettersOf_21 : decode cX11_lettersOf 21 = .ok (.aload_n 0, 1) := by decide +kernel
theorem dX11_lettersOf_22 : decode cX11_lettersOf 22 = .ok (.getfield 20, 3) := by decide +kernel
theorem dX11_lettersOf_25 : decode cX11_lettersOf 25 = .ok (.bipush 7, 2) := by decide +kernel
theorem dX11_lettersOf_27 : decode cX11_lettersOf 27 = .ok (.aload_n 0, 1) := by decide +kernel
theorem dX11_lettersOf_28 : decode cX11_lettersOf 28 = .ok (.getfield 56, 3) := by decide +kernel
theorem dX11_lettersOf_31 : decode cX11_lettersOf 31 = .ok (.iload_n 2, 1) := by decide +kernel
theorem dX11_lettersOf_32 : decode cX11_lettersOf 32 = .ok (.iaload, 1) := by decide +kernel
theorem dX11_lettersOf_33 : decode cX11_lettersOf 33 = .ok (.iadd, 1) := by decide +kernel
theorem dX11_lettersOf_34 : decode cX11_lettersOf 34 = .ok (.iaload, 1) := by decide +kernel
theorem dX11_lettersOf_35 : decode cX11_lettersOf 35 = .ok (.goto 4, 3) := by decide +kernel
theorem dX11_lettersOf_38 : decode cX11_lettersOf 38 = .ok (.iconst 0, 1) := by decide +kernel
theorem dX11_lettersOf_39 : decode cX11_lettersOf 39 = .ok (.iadd, 1) := by decide +kernel
theorem dX11_lettersOf_40 : decode cX11_lettersOf 40 = .ok (.istore_n 1, 1) := by decide +kernel
theorem dX11_lettersOf_41 : decode cX11_lettersOf 41 = .ok (.iinc 2 1, 3) := by decide +kernel
theorem dX11_lettersOf_44 : decode cX11_lettersOf 44 = .ok (.goto (-40), 3) := by decide +kernel
theorem dX11_lettersOf_47 : decode cX11_lettersOf 47 = .ok (.iload_n 1, 1) := by decide +kernel
theorem dX11_lettersOf_48 : decode cX11_lettersOf 48 = .ok (.ireturn, 1) := by decide +kernel
theorem dX11_worthOf_0 : decode cX11_worthOf 0 = .ok (.iconst 0, 1) := by decide +kernel
theorem dX11_worthOf_1 : decode cX11_worthOf 1 = .ok (.istore_n 1, 1) := by decide +kernel
theorem dX11_worthOf_2 : decode cX11_worthOf 2 = .ok (.iconst 0, 1) := by decide +kernel
theorem dX11_worthOf_3 : decode cX11_worthOf 3 = .ok (.istore_n 2, 1) := by decide +kernel
theorem dX11_worthOf_4 : decode cX11_worthOf 4 = .ok (.iload_n 2, 1) := by decide +kernel
theorem dX11_worthOf_5 : decode cX11_worthOf 5 = .ok (.iconst 3, 1) := by decide +kernel
theorem dX11_worthOf_6 : decode cX11_worthOf 6 = .ok (.if_icmp .ge 42, 3) := by decide +kernel
theorem dX11_worthOf_9 : decode cX11_worthOf 9 = .ok (.iload_n 1, 1) := by decide +kernel
theorem dX11_worthOf_10 : decode cX11_worthOf 10 = .ok (.aload_n 0, 1) := by decide +kernel
theorem dX11_worthOf_11 : decode cX11_worthOf 11 = .ok (.getfield 56, 3) := by decide +kernel
theorem dX11_worthOf_14 : decode cX11_worthOf 14 = .ok (.iload_n 2, 1) := by decide +kernel
theorem dX11_worthOf_15 : decode cX11_worthOf 15 = .ok (.iaload, 1) := by decide +kernel
theorem dX11_worthOf_16 : decode cX11_worthOf 16 = .ok (.bipush 24, 2) := by decide +kernel
theorem dX11_worthOf_18 : decode cX11_worthOf 18 = .ok (.if_icmp .ge 21, 3) := by decide +kernel
theorem dX11_worthOf_21 : decode cX11_worthOf 21 = .ok (.aload_n 0, 1) := by decide +kernel
theorem dX11_worthOf_22 : decode cX11_worthOf 22 = .ok (.getfield 20, 3) := by decide +kernel
theorem dX11_worthOf_25 : decode cX11_worthOf 25 = .ok (.sipush 175, 3) := by decide +kernel
theorem dX11_worthOf_28 : decode cX11_worthOf 28 = .ok (.aload_n 0, 1) := by decide +kernel
theorem dX11_worthOf_29 : decode cX11_worthOf 29 = .ok (.getfield 56, 3) := by decide +kernel
theorem dX11_worthOf_32 : decode cX11_worthOf 32 = .ok (.iload_n 2, 1) := by decide +kernel
theorem dX11_worthOf_33 : decode cX11_worthOf 33 = .ok (.iaload, 1) := by decide +kernel
theorem dX11_worthOf_34 : decode cX11_worthOf 34 = .ok (.iadd, 1) := by decide +kernel
theorem dX11_worthOf_35 : decode cX11_worthOf 35 = .ok (.iaload, 1) := by decide +kernel
theorem dX11_worthOf_36 : decode cX11_worthOf 36 = .ok (.goto 4, 3) := by decide +kernel
theorem dX11_worthOf_39 : decode cX11_worthOf 39 = .ok (.iconst 0, 1) := by decide +kernel
theorem dX11_worthOf_40 : decode cX11_worthOf 40 = .ok (.iadd, 1) := by decide +kernel
theorem dX11_worthOf_41 : decode cX11_worthOf 41 = .ok (.istore_n 1, 1) := by decide +kernel
theorem dX11_worthOf_42 : decode cX11_worthOf 42 = .ok (.iinc 2 1, 3) := by decide +kernel
theorem dX11_worthOf_45 : decode cX11_worthOf 45 = .ok (.goto (-41), 3) := by decide +kernel
theorem dX11_worthOf_48 : decode cX11_worthOf 48 = .ok (.iload_n 1, 1) := by decide +kernel
theorem dX11_worthOf_49 : decode cX11_worthOf 49 = .ok (.ireturn, 1) := by decide +kernel
theorem dX11_wordsOf_0 : decode cX11_wordsOf 0 = .ok (.iconst 0, 1) := by decide +kernel
theorem dX11_wordsOf_1 : decode cX11_wordsOf 1 = .ok (.istore_n 1, 1) := by decide +kernel
theorem dX11_wordsOf_2 : decode cX11_wordsOf 2 = .ok (.iconst 0, 1) := by decide +kernel
theorem dX11_wordsOf_3 : decode cX11_wordsOf 3 = .ok (.istore_n 2, 1) := by decide +kernel
theorem dX11_wordsOf_4 : decode cX11_wordsOf 4 = .ok (.iload_n 2, 1) := by decide +kernel
theorem dX11_wordsOf_5 : decode cX11_wordsOf 5 = .ok (.iconst 3, 1) := by decide +kernel
theorem dX11_wordsOf_6 : decode cX11_wordsOf 6 = .ok (.if_icmp .ge 28, 3) := by decide +kernel
theorem dX11_wordsOf_9 : decode cX11_wordsOf 9 = .ok (.iload_n 1, 1) := by decide +kernel
theorem dX11_wordsOf_10 : decode cX11_wordsOf 10 = .ok (.aload_n 0, 1) := by decide +kernel
theorem dX11_wordsOf_11 : decode cX11_wordsOf 11 = .ok (.getfield 56, 3) := by decide +kernel
theorem dX11_wordsOf_14 : decode cX11_wordsOf 14 = .ok (.iload_n 2, 1) := by decide +kernel
theorem dX11_wordsOf_15 : decode cX11_wordsOf 15 = .ok (.iaload, 1) := by decide +kernel
theorem dX11_wordsOf_16 : decode cX11_wordsOf 16 = .ok (.bipush 24, 2) := by decide +kernel
theorem dX11_wordsOf_18 : decode cX11_wordsOf 18 = .ok (.if_icmp .ge 7, 3) := by decide +kernel
theorem dX11_wordsOf_21 : decode cX11_wordsOf 21 = .ok (.iconst 1, 1) := by decide +kernel
theorem dX11_wordsOf_22 : decode cX11_wordsOf 22 = .ok (.goto 4, 3) := by decide +kernel
theorem dX11_wordsOf_25 : decode cX11_wordsOf 25 = .ok (.iconst 0, 1) := by decide +kernel
theorem dX11_wordsOf_26 : decode cX11_wordsOf 26 = .ok (.iadd, 1) := by decide +kernel
theorem dX11_wordsOf_27 : decode cX11_wordsOf 27 = .ok (.istore_n 1, 1) := by decide +kernel
theorem dX11_wordsOf_28 : decode cX11_wordsOf 28 = .ok (.iinc 2 1, 3) := by decide +kernel
theorem dX11_wordsOf_31 : decode cX11_wordsOf 31 = .ok (.goto (-27), 3) := by decide +kernel
theorem dX11_wordsOf_34 : decode cX11_wordsOf 34 = .ok (.iload_n 1, 1) := by decide +kernel
theorem dX11_wordsOf_35 : decode cX11_wordsOf 35 = .ok (.ireturn, 1) := by decide +kernel
theorem dX11_mayStand_0 : decode cX11_mayStand 0 = .ok (.iload_n 1, 1) := by decide +kernel
theorem dX11_mayStand_1 : decode cX11_mayStand 1 = .ok (.bipush 24, 2) := by decide +kernel
theorem dX11_mayStand_3 : decode cX11_mayStand 3 = .ok (.if_icmp .eq 31, 3) := by decide +kernel
theorem dX11_mayStand_6 : decode cX11_mayStand 6 = .ok (.iload_n 2, 1) := by decide +kernel
theorem dX11_mayStand_7 : decode cX11_mayStand 7 = .ok (.aload_n 0, 1) := by decide +kernel
theorem dX11_mayStand_8 : decode cX11_mayStand 8 = .ok (.getfield 20, 3) := by decide +kernel
theorem dX11_mayStand_11 : decode cX11_mayStand 11 = .ok (.iconst 0, 1) := by decide +kernel
theorem dX11_mayStand_12 : decode cX11_mayStand 12 = .ok (.iaload, 1) := by decide +kernel
theorem dX11_mayStand_13 : decode cX11_mayStand 13 = .ok (.if_icmp .ge 25, 3) := by decide +kernel
theorem dX11_mayStand_16 : decode cX11_mayStand 16 = .ok (.iload_n 1, 1) := by decide +kernel
theorem dX11_mayStand_17 : decode cX11_mayStand 17 = .ok (.aload_n 0, 1) := by decide +kernel
theorem dX11_mayStand_18 : decode cX11_mayStand 18 = .ok (.getfield 20, 3) := by decide +kernel
theorem dX11_mayStand_21 : decode cX11_mayStand 21 = .ok (.iconst 3, 1) := by decide +kernel
theorem dX11_mayStand_22 : decode cX11_mayStand 22 = .ok (.iaload, 1) := by decide +kernel
theorem dX11_mayStand_23 : decode cX11_mayStand 23 = .ok (.if_icmp .ge 15, 3) := by decide +kernel
theorem dX11_mayStand_26 : decode cX11_mayStand 26 = .ok (.aload_n 0, 1) := by decide +kernel
theorem dX11_mayStand_27 : decode cX11_mayStand 27 = .ok (.iload_n 1, 1) := by decide +kernel
theorem dX11_mayStand_28 : decode cX11_mayStand 28 = .ok (.invokevirtual 240, 3) := by decide +kernel
theorem dX11_mayStand_31 : decode cX11_mayStand 31 = .ok (.ifCond .eq 7, 3) := by decide +kernel
theorem dX11_mayStand_34 : decode cX11_mayStand 34 = .ok (.iconst 1, 1) := by decide +kernel
theorem dX11_mayStand_35 : decode cX11_mayStand 35 = .ok (.goto 4, 3) := by decide +kernel
theorem dX11_mayStand_38 : decode cX11_mayStand 38 = .ok (.iconst 0, 1) := by decide +kernel
theorem dX11_mayStand_39 : decode cX11_mayStand 39 = .ok (.ireturn, 1) := by decide +kernel
theorem dX11_plans_0 : decode cX11_plans 0 = .ok (.aload_n 0, 1) := by decide +kernel
theorem dX11_plans_1 : decode cX11_plans 1 = .ok (.iconst (-1), 1) := by decide +kernel
theorem dX11_plans_2 : decode cX11_plans 2 = .ok (.putfield 258, 3) := by decide +kernel
theorem dX11_plans_5 : decode cX11_plans 5 = .ok (.aload_n 0, 1) := by decide +kernel
theorem dX11_plans_6 : decode cX11_plans 6 = .ok (.iconst 0, 1) := by decide +kernel
theorem dX11_plans_7 : decode cX11_plans 7 = .ok (.putfield 261, 3) := by decide +kernel
theorem dX11_plans_10 : decode cX11_plans 10 = .ok (.aload_n 0, 1) := by decide +kernel
theorem dX11_plans_11 : decode cX11_plans 11 = .ok (.iconst 0, 1) := by decide +kernel
theorem dX11_plans_12 : decode cX11_plans 12 = .ok (.putfield 264, 3) := by decide +kernel
theorem dX11_plans_15 : decode cX11_plans 15 = .ok (.aload_n 0, 1) := by decide +kernel
theorem dX11_plans_16 : decode cX11_plans 16 = .ok (.bipush (-2), 2) := by decide +kernel
theorem dX11_plans_18 : decode cX11_plans 18 = .ok (.putfield 267, 3) := by decide +kernel
theorem dX11_plans_21 : decode cX11_plans 21 = .ok (.aload_n 0, 1) := by decide +kernel
theorem dX11_plans_22 : decode cX11_plans 22 = .ok (.bipush (-2), 2) := by decide +kernel
theorem dX11_plans_24 : decode cX11_plans 24 = .ok (.putfield 270, 3) := by decide +kernel
theorem dX11_plans_27 : decode cX11_plans 27 = .ok (.iconst 0, 1) := by decide +kernel
theorem dX11_plans_28 : decode cX11_plans 28 = .ok (.istore_n 2, 1) := by decide +kernel
theorem dX11_plans_29 : decode cX11_plans 29 = .ok (.iconst 0, 1) := by decide +kernel
theorem dX11_plans_30 : decode cX11_plans 30 = .ok (.istore_n 3, 1) := by decide +kernel
theorem dX11_plans_31 : decode cX11_plans 31 = .ok (.iload_n 3, 1) := by decide +kernel
theorem dX11_plans_32 : decode cX11_plans 32 = .ok (.bipush 26, 2) := by decide +kernel
theorem dX11_plans_34 : decode cX11_plans 34 = .ok (.if_icmp .ge 18, 3) := by decide +kernel
theorem dX11_plans_37 : decode cX11_plans 37 = .ok (.iload_n 2, 1) := by decide +kernel
theorem dX11_plans_38 : decode cX11_plans 38 = .ok (.aload_n 0, 1) := by decide +kernel
theorem dX11_plans_39 : decode cX11_plans 39 = .ok (.getfield 50, 3) := by decide +kernel
theorem dX11_plans_42 : decode cX11_plans 42 = .ok (.iload_n 3, 1) := by decide +kernel
theorem dX11_plans_43 : decode cX11_plans 43 = .ok (.iaload, 1) := by decide +kernel
theorem dX11_plans_44 : decode cX11_plans 44 = .ok (.iadd, 1) := by decide +kernel
theorem dX11_plans_45 : decode cX11_plans 45 = .ok (.istore_n 2, 1) := by decide +kernel
theorem dX11_plans_46 : decode cX11_plans 46 = .ok (.iinc 3 1, 3) := by decide +kernel
theorem dX11_plans_49 : decode cX11_plans 49 = .ok (.goto (-18), 3) := by decide +kernel
theorem dX11_plans_52 : decode cX11_plans 52 = .ok (.iconst 0, 1) := by decide +kernel
theorem dX11_plans_53 : decode cX11_plans 53 = .ok (.istore_n 3, 1) := by decide +kernel
theorem dX11_plans_54 : decode cX11_plans 54 = .ok (.iload_n 3, 1) := by decide +kernel
theorem dX11_plans_55 : decode cX11_plans 55 = .ok (.bipush 24, 2) := by decide +kernel
theorem dX11_plans_57 : decode cX11_plans 57 = .ok (.if_icmp .gt 121, 3) := by decide +kernel
theorem dX11_plans_60 : decode cX11_plans 60 = .ok (.iload_n 3, 1) := by decide +kernel
theorem dX11_plans_61 : decode cX11_plans 61 = .ok (.istore 4, 2) := by decide +kernel
theorem dX11_plans_63 : decode cX11_plans 63 = .ok (.iload 4, 2) := by decide +kernel
theorem dX11_plans_65 : decode cX11_plans 65 = .ok (.bipush 24, 2) := by decide +kernel
theorem dX11_plans_67 : decode cX11_plans 67 = .ok (.if_icmp .gt 105, 3) := by decide +kernel
theorem dX11_plans_70 : decode cX11_plans 70 = .ok (.iload 4, 2) := by decide +kernel
theorem dX11_plans_72 : decode cX11_plans 72 = .ok (.istore 5, 2) := by decide +kernel
theorem dX11_plans_74 : decode cX11_plans 74 = .ok (.iload 5, 2) := by decide +kernel
theorem dX11_plans_76 : decode cX11_plans 76 = .ok (.bipush 24, 2) := by decide +kernel
theorem dX11_plans_78 : decode cX11_plans 78 = .ok (.if_icmp .gt 88, 3) := by decide +kernel
theorem dX11_plans_81 : decode cX11_plans 81 = .ok (.aload_n 0, 1) := by decide +kernel
theorem dX11_plans_82 : decode cX11_plans 82 = .ok (.iload_n 3, 1) := by decide +kernel
theorem dX11_plans_83 : decode cX11_plans 83 = .ok (.iconst 0, 1) := by decide +kernel
theorem dX11_plans_84 : decode cX11_plans 84 = .ok (.invokevirtual 273, 3) := by decide +kernel
theorem dX11_plans_87 : decode cX11_plans 87 = .ok (.ifCond .eq 73, 3) := by decide +kernel
theorem dX11_plans_90 : decode cX11_plans 90 = .ok (.aload_n 0, 1) := by decide +kernel
theorem dX11_plans_91 : decode cX11_plans 91 = .ok (.iload 4, 2) := by decide +kernel
theorem dX11_plans_93 : decode cX11_plans 93 = .ok (.iconst 1, 1) := by decide +kernel
theorem dX11_plans_94 : decode cX11_plans 94 = .ok (.invokevirtual 273, 3) := by decide +kernel
theorem dX11_plans_97 : decode cX11_plans 97 = .ok (.ifCond .eq 63, 3) := by decide +kernel
theorem dX11_plans_100 : decode cX11_plans 100 = .ok (.aload_n 0, 1) := by decide +kernel
theorem dX11_plans_101 : decode cX11_plans 101 = .ok (.iload 5, 2) := by decide +kernel
theorem dX11_plans_103 : decode cX11_plans 103 = .ok (.iconst 2, 1) := by decide +kernel
theorem dX11_plans_104 : decode cX11_plans 104 = .ok (.invokevirtual 273, 3) := by decide +kernel
theorem dX11_plans_107 : decode cX11_plans 107 = .ok (.ifCond .ne 6, 3) := by decide +kernel
theorem dX11_plans_110 : decode cX11_plans 110 = .ok (.goto 50, 3) := by decide +kernel
theorem dX11_plans_113 : decode cX11_plans 113 = .ok (.aload_n 0, 1) := by decide +kernel
theorem dX11_plans_114 : decode cX11_plans 114 = .ok (.getfield 56, 3) := by decide +kernel
theorem dX11_plans_117 : decode cX11_plans 117 = .ok (.iconst 0, 1) := by decide +kernel
theorem dX11_plans_118 : decode cX11_plans 118 = .ok (.iload_n 3, 1) := by decide +kernel
theorem dX11_plans_119 : decode cX11_plans 119 = .ok (.iastore, 1) := by decide +kernel
theorem dX11_plans_120 : decode cX11_plans 120 = .ok (.aload_n 0, 1) := by decide +kernel
theorem dX11_plans_121 : decode cX11_plans 121 = .ok (.getfield 56, 3) := by decide +kernel
theorem dX11_plans_124 : decode cX11_plans 124 = .ok (.iconst 1, 1) := by decide +kernel
theorem dX11_plans_125 : decode cX11_plans 125 = .ok (.iload 4, 2) := by decide +kernel
theorem dX11_plans_127 : decode cX11_plans 127 = .ok (.iastore, 1) := by decide +kernel
theorem dX11_plans_128 : decode cX11_plans 128 = .ok (.aload_n 0, 1) := by decide +kernel
theorem dX11_plans_129 : decode cX11_plans 129 = .ok (.getfield 56, 3) := by decide +kernel
theorem dX11_plans_132 : decode cX11_plans 132 = .ok (.iconst 2, 1) := by decide +kernel
theorem dX11_plans_133 : decode cX11_plans 133 = .ok (.iload 5, 2) := by decide +kernel
theorem dX11_plans_135 : decode cX11_plans 135 = .ok (.iastore, 1) := by decide +kernel
theorem dX11_plans_136 : decode cX11_plans 136 = .ok (.iload_n 1, 1) := by decide +kernel
theorem dX11_plans_137 : decode cX11_plans 137 = .ok (.ifCond .eq 11, 3) := by decide +kernel
theorem dX11_plans_140 : decode cX11_plans 140 = .ok (.aload_n 0, 1) := by decide +kernel
theorem dX11_plans_141 : decode cX11_plans 141 = .ok (.iload_n 2, 1) := by decide +kernel
theorem dX11_plans_142 : decode cX11_plans 142 = .ok (.invokevirtual 277, 3) := by decide +kernel
theorem dX11_plans_145 : decode cX11_plans 145 = .ok (.goto 15, 3) := by decide +kernel
theorem dX11_plans_148 : decode cX11_plans 148 = .ok (.aload_n 0, 1) := by decide +kernel
theorem dX11_plans_149 : decode cX11_plans 149 = .ok (.invokevirtual 280, 3) := by decide +kernel
theorem dX11_plans_152 : decode cX11_plans 152 = .ok (.ifCond .eq 8, 3) := by decide +kernel
theorem dX11_plans_155 : decode cX11_plans 155 = .ok (.aload_n 0, 1) := by decide +kernel
theorem dX11_plans_156 : decode cX11_plans 156 = .ok (.iload_n 2, 1) := by decide +kernel
theorem dX11_plans_157 : decode cX11_plans 157 = .ok (.invokevirtual 283, 3) := by decide +kernel
theorem dX11_plans_160 : decode cX11_plans 160 = .ok (.iinc 5 1, 3) := by decide +kernel
theorem dX11_plans_163 : decode cX11_plans 163 = .ok (.goto (-89), 3) := by decide +kernel
theorem dX11_plans_166 : decode cX11_plans 166 = .ok (.iinc 4 1, 3) := by decide +kernel
theorem dX11_plans_169 : decode cX11_plans 169 = .ok (.goto (-106), 3) := by decide +kernel
theorem dX11_plans_172 : decode cX11_plans 172 = .ok (.iinc 3 1, 3) := by decide +kernel
theorem dX11_plans_175 : decode cX11_plans 175 = .ok (.goto (-121), 3) := by decide +kernel
theorem dX11_plans_178 : decode cX11_plans 178 = .ok (.return_, 1) := by decide +kernel
theorem dX11_judge_0 : decode cX11_judge 0 = .ok (.aload_n 0, 1) := by decide +kernel
theorem dX11_judge_1 : decode cX11_judge 1 = .ok (.invokevirtual 286, 3) := by decide +kernel
theorem dX11_judge_4 : decode cX11_judge 4 = .ok (.istore_n 2, 1) := by decide +kernel
theorem dX11_judge_5 : decode cX11_judge 5 = .ok (.aload_n 0, 1) := by decide +kernel
theorem dX11_judge_6 : decode cX11_judge 6 = .ok (.invokevirtual 289, 3) := by decide +kernel
theorem dX11_judge_9 : decode cX11_judge 9 = .ok (.istore_n 3, 1) := by decide +kernel
theorem dX11_judge_10 : decode cX11_judge 10 = .ok (.aload_n 0, 1) := by decide +kernel
theorem dX11_judge_11 : decode cX11_judge 11 = .ok (.iload_n 3, 1) := by decide +kernel
theorem dX11_judge_12 : decode cX11_judge 12 = .ok (.aload_n 0, 1) := by decide +kernel
theorem dX11_judge_13 : decode cX11_judge 13 = .ok (.getfield 264, 3) := by decide +kernel
theorem dX11_judge_16 : decode cX11_judge 16 = .ok (.if_icmp .le 7, 3) := by decide +kernel
theorem dX11_judge_19 : decode cX11_judge 19 = .ok (.iload_n 3, 1) := by decide +kernel
theorem dX11_judge_20 : decode cX11_judge 20 = .ok (.goto 7, 3) := by decide +kernel
theorem dX11_judge_23 : decode cX11_judge 23 = .ok (.aload_n 0, 1) := by decide +kernel
theorem dX11_judge_24 : decode cX11_judge 24 = .ok (.getfield 264, 3) := by decide +kernel
theorem dX11_judge_27 : decode cX11_judge 27 = .ok (.putfield 264, 3) := by decide +kernel
theorem dX11_judge_30 : decode cX11_judge 30 = .ok (.iload_n 2, 1) := by decide +kernel
theorem dX11_judge_31 : decode cX11_judge 31 = .ok (.iload_n 1, 1) := by decide +kernel
theorem dX11_judge_32 : decode cX11_judge 32 = .ok (.if_icmp .ne 31, 3) := by decide +kernel
theorem dX11_judge_35 : decode cX11_judge 35 = .ok (.aload_n 0, 1) := by decide +kernel
theorem dX11_judge_36 : decode cX11_judge 36 = .ok (.getfield 267, 3) := by decide +kernel
theorem dX11_judge_39 : decode cX11_judge 39 = .ok (.bipush (-2), 2) := by decide +kernel
theorem dX11_judge_41 : decode cX11_judge 41 = .ok (.if_icmp .eq 14, 3) := by decide +kernel
theorem dX11_judge_44 : decode cX11_judge 44 = .ok (.aload_n 0, 1) := by decide +kernel
theorem dX11_judge_45 : decode cX11_judge 45 = .ok (.invokevirtual 292, 3) := by decide +kernel
theorem dX11_judge_48 : decode cX11_judge 48 = .ok (.aload_n 0, 1) := by decide +kernel
theorem dX11_judge_49 : decode cX11_judge 49 = .ok (.getfield 267, 3) := by decide +kernel
theorem dX11_judge_52 : decode cX11_judge 52 = .ok (.if_icmp .ge 11, 3) := by decide +kernel
theorem dX11_judge_55 : decode cX11_judge 55 = .ok (.aload_n 0, 1) := by decide +kernel
theorem dX11_judge_56 : decode cX11_judge 56 = .ok (.aload_n 0, 1) := by decide +kernel
theorem dX11_judge_57 : decode cX11_judge 57 = .ok (.invokevirtual 292, 3) := by decide +kernel
theorem dX11_judge_60 : decode cX11_judge 60 = .ok (.putfield 267, 3) := by decide +kernel
theorem dX11_judge_63 : decode cX11_judge 63 = .ok (.iload_n 2, 1) := by decide +kernel
theorem dX11_judge_64 : decode cX11_judge 64 = .ok (.aload_n 0, 1) := by decide +kernel
theorem dX11_judge_65 : decode cX11_judge 65 = .ok (.getfield 258, 3) := by decide +kernel
theorem dX11_judge_68 : decode cX11_judge 68 = .ok (.if_icmp .lt 19, 3) := by decide +kernel
theorem dX11_judge_71 : decode cX11_judge 71 = .ok (.iload_n 2, 1) := by decide +kernel
theorem dX11_judge_72 : decode cX11_judge 72 = .ok (.aload_n 0, 1) := by decide +kernel
theorem dX11_judge_73 : decode cX11_judge 73 = .ok (.getfield 258, 3) := by decide +kernel
theorem dX11_judge_76 : decode cX11_judge 76 = .ok (.if_icmp .ne 12, 3) := by decide +kernel
theorem dX11_judge_79 : decode cX11_judge 79 = .ok (.iload_n 3, 1) := by decide +kernel
theorem dX11_judge_80 : decode cX11_judge 80 = .ok (.aload_n 0, 1) := by decide +kernel
theorem dX11_judge_81 : decode cX11_judge 81 = .ok (.getfield 261, 3) := by decide +kernel
theorem dX11_judge_84 : decode cX11_judge 84 = .ok (.if_icmp .gt 4, 3) := by decide +kernel
theorem dX11_judge_87 : decode cX11_judge 87 = .ok (.return_, 1) := by decide +kernel
theorem dX11_judge_88 : decode cX11_judge 88 = .ok (.aload_n 0, 1) := by decide +kernel
theorem dX11_judge_89 : decode cX11_judge 89 = .ok (.iload_n 2, 1) := by decide +kernel
theorem dX11_judge_90 : decode cX11_judge 90 = .ok (.putfield 258, 3) := by decide +kernel
theorem dX11_judge_93 : decode cX11_judge 93 = .ok (.aload_n 0, 1) := by decide +kernel
theorem dX11_judge_94 : decode cX11_judge 94 = .ok (.iload_n 3, 1) := by decide +kernel
theorem dX11_judge_95 : decode cX11_judge 95 = .ok (.putfield 261, 3) := by decide +kernel
theorem dX11_judge_98 : decode cX11_judge 98 = .ok (.aload_n 0, 1) := by decide +kernel
theorem dX11_judge_99 : decode cX11_judge 99 = .ok (.invokevirtual 295, 3) := by decide +kernel
theorem dX11_judge_102 : decode cX11_judge 102 = .ok (.return_, 1) := by decide +kernel
theorem dX11_keepRow_0 : decode cX11_keepRow 0 = .ok (.iconst 0, 1) := by decide +kernel
theorem dX11_keepRow_1 : decode cX11_keepRow 1 = .ok (.istore_n 1, 1) := by decide +kernel
theorem dX11_keepRow_2 : decode cX11_keepRow 2 = .ok (.iload_n 1, 1) := by decide +kernel
theorem dX11_keepRow_3 : decode cX11_keepRow 3 = .ok (.iconst 3, 1) := by decide +kernel
theorem dX11_keepRow_4 : decode cX11_keepRow 4 = .ok (.if_icmp .ge 21, 3) := by decide +kernel
theorem dX11_keepRow_7 : decode cX11_keepRow 7 = .ok (.aload_n 0, 1) := by decide +kernel
theorem dX11_keepRow_8 : decode cX11_keepRow 8 = .ok (.getfield 53, 3) := by decide +kernel
theorem dX11_keepRow_11 : decode cX11_keepRow 11 = .ok (.iload_n 1, 1) := by decide +kernel
theorem dX11_keepRow_12 : decode cX11_keepRow 12 = .ok (.aload_n 0, 1) := by decide +kernel
theorem dX11_keepRow_13 : decode cX11_keepRow 13 = .ok (.getfield 56, 3) := by decide +kernel
theorem dX11_keepRow_16 : decode cX11_keepRow 16 = .ok (.iload_n 1, 1) := by decide +kernel
theorem dX11_keepRow_17 : decode cX11_keepRow 17 = .ok (.iaload, 1) := by decide +kernel
theorem dX11_keepRow_18 : decode cX11_keepRow 18 = .ok (.iastore, 1) := by decide +kernel
theorem dX11_keepRow_19 : decode cX11_keepRow 19 = .ok (.iinc 1 1, 3) := by decide +kernel
theorem dX11_keepRow_22 : decode cX11_keepRow 22 = .ok (.goto (-20), 3) := by decide +kernel
theorem dX11_keepRow_25 : decode cX11_keepRow 25 = .ok (.return_, 1) := by decide +kernel
theorem dX11_wanted_0 : decode cX11_wanted 0 = .ok (.aload_n 0, 1) := by decide +kernel
theorem dX11_wanted_1 : decode cX11_wanted 1 = .ok (.invokevirtual 280, 3) := by decide +kernel
theorem dX11_wanted_4 : decode cX11_wanted 4 = .ok (.pop, 1) := by decide +kernel
theorem dX11_wanted_5 : decode cX11_wanted 5 = .ok (.iconst 1, 1) := by decide +kernel
theorem dX11_wanted_6 : decode cX11_wanted 6 = .ok (.istore_n 2, 1) := by decide +kernel
theorem dX11_wanted_7 : decode cX11_wanted 7 = .ok (.iconst 0, 1) := by decide +kernel
theorem dX11_wanted_8 : decode cX11_wanted 8 = .ok (.istore_n 3, 1) := by decide +kernel
theorem dX11_wanted_9 : decode cX11_wanted 9 = .ok (.iload_n 3, 1) := by decide +kernel
theorem dX11_wanted_10 : decode cX11_wanted 10 = .ok (.bipush 26, 2) := by decide +kernel
theorem dX11_wanted_12 : decode cX11_wanted 12 = .ok (.if_icmp .ge 34, 3) := by decide +kernel
theorem dX11_wanted_15 : decode cX11_wanted 15 = .ok (.iload_n 2, 1) := by decide +kernel
theorem dX11_wanted_16 : decode cX11_wanted 16 = .ok (.ifCond .eq 22, 3) := by decide +kernel
theorem dX11_wanted_19 : decode cX11_wanted 19 = .ok (.aload_n 0, 1) := by decide +kernel
theorem dX11_wanted_20 : decode cX11_wanted 20 = .ok (.getfield 47, 3) := by decide +kernel
theorem dX11_wanted_23 : decode cX11_wanted 23 = .ok (.iload_n 3, 1) := by decide +kernel
theorem dX11_wanted_24 : decode cX11_wanted 24 = .ok (.iaload, 1) := by decide +kernel
theorem dX11_wanted_25 : decode cX11_wanted 25 = .ok (.aload_n 0, 1) := by decide +kernel
theorem dX11_wanted_26 : decode cX11_wanted 26 = .ok (.getfield 50, 3) := by decide +kernel
theorem dX11_wanted_29 : decode cX11_wanted 29 = .ok (.iload_n 3, 1) := by decide +kernel
theorem dX11_wanted_30 : decode cX11_wanted 30 = .ok (.iaload, 1) := by decide +kernel
theorem dX11_wanted_31 : decode cX11_wanted 31 = .ok (.if_icmp .lt 7, 3) := by decide +kernel
theorem dX11_wanted_34 : decode cX11_wanted 34 = .ok (.iconst 1, 1) := by decide +kernel
theorem dX11_wanted_35 : decode cX11_wanted 35 = .ok (.goto 4, 3) := by decide +kernel
theorem dX11_wanted_38 : decode cX11_wanted 38 = .ok (.iconst 0, 1) := by decide +kernel
theorem dX11_wanted_39 : decode cX11_wanted 39 = .ok (.istore_n 2, 1) := by decide +kernel
theorem dX11_wanted_40 : decode cX11_wanted 40 = .ok (.iinc 3 1, 3) := by decide +kernel
theorem dX11_wanted_43 : decode cX11_wanted 43 = .ok (.goto (-34), 3) := by decide +kernel
theorem dX11_wanted_46 : decode cX11_wanted 46 = .ok (.iload_n 2, 1) := by decide +kernel
theorem dX11_wanted_47 : decode cX11_wanted 47 = .ok (.ifCond .eq 25, 3) := by decide +kernel
theorem dX11_wanted_50 : decode cX11_wanted 50 = .ok (.aload_n 0, 1) := by decide +kernel
theorem dX11_wanted_51 : decode cX11_wanted 51 = .ok (.getfield 270, 3) := by decide +kernel
theorem dX11_wanted_54 : decode cX11_wanted 54 = .ok (.bipush (-2), 2) := by decide +kernel
theorem dX11_wanted_56 : decode cX11_wanted 56 = .ok (.if_icmp .eq 17, 3) := by decide +kernel
theorem dX11_wanted_59 : decode cX11_wanted 59 = .ok (.aload_n 0, 1) := by decide +kernel
theorem dX11_wanted_60 : decode cX11_wanted 60 = .ok (.invokevirtual 286, 3) := by decide +kernel
theorem dX11_wanted_63 : decode cX11_wanted 63 = .ok (.iload_n 1, 1) := by decide +kernel
theorem dX11_wanted_64 : decode cX11_wanted 64 = .ok (.isub, 1) := by decide +kernel
theorem dX11_wanted_65 : decode cX11_wanted 65 = .ok (.aload_n 0, 1) := by decide +kernel
theorem dX11_wanted_66 : decode cX11_wanted 66 = .ok (.getfield 270, 3) := by decide +kernel
theorem dX11_wanted_69 : decode cX11_wanted 69 = .ok (.if_icmp .lt 4, 3) := by decide +kernel
theorem dX11_wanted_72 : decode cX11_wanted 72 = .ok (.return_, 1) := by decide +kernel
theorem dX11_wanted_73 : decode cX11_wanted 73 = .ok (.aload_n 0, 1) := by decide +kernel
theorem dX11_wanted_74 : decode cX11_wanted 74 = .ok (.aload_n 0, 1) := by decide +kernel
theorem dX11_wanted_75 : decode cX11_wanted 75 = .ok (.invokevirtual 286, 3) := by decide +kernel
theorem dX11_wanted_78 : decode cX11_wanted 78 = .ok (.iload_n 1, 1) := by decide +kernel
theorem dX11_wanted_79 : decode cX11_wanted 79 = .ok (.isub, 1) := by decide +kernel
theorem dX11_wanted_80 : decode cX11_wanted 80 = .ok (.putfield 270, 3) := by decide +kernel
theorem dX11_wanted_83 : decode cX11_wanted 83 = .ok (.aload_n 0, 1) := by decide +kernel
theorem dX11_wanted_84 : decode cX11_wanted 84 = .ok (.invokevirtual 295, 3) := by decide +kernel
theorem dX11_wanted_87 : decode cX11_wanted 87 = .ok (.return_, 1) := by decide +kernel
theorem dX11_laysPlans_0 : decode cX11_laysPlans 0 = .ok (.aload_n 0, 1) := by decide +kernel
theorem dX11_laysPlans_1 : decode cX11_laysPlans 1 = .ok (.getfield 164, 3) := by decide +kernel
theorem dX11_laysPlans_4 : decode cX11_laysPlans 4 = .ok (.ifCond .ne 5, 3) := by decide +kernel
theorem dX11_laysPlans_7 : decode cX11_laysPlans 7 = .ok (.iconst 0, 1) := by decide +kernel
theorem dX11_laysPlans_8 : decode cX11_laysPlans 8 = .ok (.ireturn, 1) := by decide +kernel
theorem dX11_laysPlans_9 : decode cX11_laysPlans 9 = .ok (.aload_n 0, 1) := by decide +kernel
theorem dX11_laysPlans_10 : decode cX11_laysPlans 10 = .ok (.invokevirtual 298, 3) := by decide +kernel
theorem dX11_laysPlans_13 : decode cX11_laysPlans 13 = .ok (.aload_n 0, 1) := by decide +kernel
theorem dX11_laysPlans_14 : decode cX11_laysPlans 14 = .ok (.iload_n 1, 1) := by decide +kernel
theorem dX11_laysPlans_15 : decode cX11_laysPlans 15 = .ok (.invokevirtual 301, 3) := by decide +kernel
theorem dX11_laysPlans_18 : decode cX11_laysPlans 18 = .ok (.iconst 1, 1) := by decide +kernel
theorem dX11_laysPlans_19 : decode cX11_laysPlans 19 = .ok (.ireturn, 1) := by decide +kernel
theorem dX11_most_0 : decode cX11_most 0 = .ok (.aload_n 0, 1) := by decide +kernel
theorem dX11_most_1 : decode cX11_most 1 = .ok (.invokevirtual 155, 3) := by decide +kernel
theorem dX11_most_4 : decode cX11_most 4 = .ok (.aload_n 0, 1) := by decide +kernel
theorem dX11_most_5 : decode cX11_most 5 = .ok (.iconst 0, 1) := by decide +kernel
theorem dX11_most_6 : decode cX11_most 6 = .ok (.invokevirtual 305, 3) := by decide +kernel
theorem dX11_most_9 : decode cX11_most 9 = .ok (.ifCond .eq 10, 3) := by decide +kernel
theorem dX11_most_12 : decode cX11_most 12 = .ok (.aload_n 0, 1) := by decide +kernel
theorem dX11_most_13 : decode cX11_most 13 = .ok (.getfield 258, 3) := by decide +kernel
theorem dX11_most_16 : decode cX11_most 16 = .ok (.goto 8, 3) := by decide +kernel
theorem dX11_most_19 : decode cX11_most 19 = .ok (.aload_n 0, 1) := by decide +kernel
theorem dX11_most_20 : decode cX11_most 20 = .ok (.iconst 1, 1) := by decide +kernel
theorem dX11_most_21 : decode cX11_most 21 = .ok (.invokevirtual 158, 3) := by decide +kernel
theorem dX11_most_24 : decode cX11_most 24 = .ok (.ireturn, 1) := by decide +kernel
theorem dX11_worth_0 : decode cX11_worth 0 = .ok (.aload_n 0, 1) := by decide +kernel
theorem dX11_worth_1 : decode cX11_worth 1 = .ok (.invokevirtual 155, 3) := by decide +kernel
theorem dX11_worth_4 : decode cX11_worth 4 = .ok (.aload_n 0, 1) := by decide +kernel
theorem dX11_worth_5 : decode cX11_worth 5 = .ok (.iconst 0, 1) := by decide +kernel
theorem dX11_worth_6 : decode cX11_worth 6 = .ok (.invokevirtual 305, 3) := by decide +kernel
theorem dX11_worth_9 : decode cX11_worth 9 = .ok (.ifCond .eq 10, 3) := by decide +kernel
theorem dX11_worth_12 : decode cX11_worth 12 = .ok (.aload_n 0, 1) := by decide +kernel
theorem dX11_worth_13 : decode cX11_worth 13 = .ok (.getfield 261, 3) := by decide +kernel
theorem dX11_worth_16 : decode cX11_worth 16 = .ok (.goto 8, 3) := by decide +kernel
theorem dX11_worth_19 : decode cX11_worth 19 = .ok (.aload_n 0, 1) := by decide +kernel
theorem dX11_worth_20 : decode cX11_worth 20 = .ok (.iconst 1, 1) := by decide +kernel
theorem dX11_worth_21 : decode cX11_worth 21 = .ok (.invokevirtual 158, 3) := by decide +kernel
theorem dX11_worth_24 : decode cX11_worth 24 = .ok (.ireturn, 1) := by decide +kernel
theorem dX11_plan_0 : decode cX11_plan 0 = .ok (.aload_n 0, 1) := by decide +kernel
theorem dX11_plan_1 : decode cX11_plan 1 = .ok (.invokevirtual 155, 3) := by decide +kernel
theorem dX11_plan_4 : decode cX11_plan 4 = .ok (.aload_n 0, 1) := by decide +kernel
theorem dX11_plan_5 : decode cX11_plan 5 = .ok (.iload_n 1, 1) := by decide +kernel
theorem dX11_plan_6 : decode cX11_plan 6 = .ok (.invokevirtual 309, 3) := by decide +kernel
theorem dX11_plan_9 : decode cX11_plan 9 = .ok (.ifCond .ne 9, 3) := by decide +kernel
theorem dX11_plan_12 : decode cX11_plan 12 = .ok (.aload_n 0, 1) := by decide +kernel
theorem dX11_plan_13 : decode cX11_plan 13 = .ok (.iconst 1, 1) := by decide +kernel
theorem dX11_plan_14 : decode cX11_plan 14 = .ok (.invokevirtual 158, 3) := by decide +kernel
theorem dX11_plan_17 : decode cX11_plan 17 = .ok (.ireturn, 1) := by decide +kernel
theorem dX11_plan_18 : decode cX11_plan 18 = .ok (.aload_n 0, 1) := by decide +kernel
theorem dX11_plan_19 : decode cX11_plan 19 = .ok (.iconst 0, 1) := by decide +kernel
theorem dX11_plan_20 : decode cX11_plan 20 = .ok (.invokevirtual 305, 3) := by decide +kernel
theorem dX11_plan_23 : decode cX11_plan 23 = .ok (.pop, 1) := by decide +kernel
theorem dX11_plan_24 : decode cX11_plan 24 = .ok (.aload_n 0, 1) := by decide +kernel
theorem dX11_plan_25 : decode cX11_plan 25 = .ok (.getfield 53, 3) := by decide +kernel
theorem dX11_plan_28 : decode cX11_plan 28 = .ok (.iload_n 1, 1) := by decide +kernel
theorem dX11_plan_29 : decode cX11_plan 29 = .ok (.iaload, 1) := by decide +kernel
theorem dX11_plan_30 : decode cX11_plan 30 = .ok (.bipush 24, 2) := by decide +kernel
theorem dX11_plan_32 : decode cX11_plan 32 = .ok (.if_icmp .ne 8, 3) := by decide +kernel
theorem dX11_plan_35 : decode cX11_plan 35 = .ok (.bipush (-2), 2) := by decide +kernel
theorem dX11_plan_37 : decode cX11_plan 37 = .ok (.goto 9, 3) := by decide +kernel
theorem dX11_plan_40 : decode cX11_plan 40 = .ok (.aload_n 0, 1) := by decide +kernel
theorem dX11_plan_41 : decode cX11_plan 41 = .ok (.getfield 53, 3) := by decide +kernel
theorem dX11_plan_44 : decode cX11_plan 44 = .ok (.iload_n 1, 1) := by decide +kernel
theorem dX11_plan_45 : decode cX11_plan 45 = .ok (.iaload, 1) := by decide +kernel
theorem dX11_plan_46 : decode cX11_plan 46 = .ok (.ireturn, 1) := by decide +kernel
theorem dX11_richest_0 : decode cX11_richest 0 = .ok (.aload_n 0, 1) := by decide +kernel
theorem dX11_richest_1 : decode cX11_richest 1 = .ok (.invokevirtual 155, 3) := by decide +kernel
theorem dX11_richest_4 : decode cX11_richest 4 = .ok (.aload_n 0, 1) := by decide +kernel
theorem dX11_richest_5 : decode cX11_richest 5 = .ok (.iconst 0, 1) := by decide +kernel
theorem dX11_richest_6 : decode cX11_richest 6 = .ok (.invokevirtual 305, 3) := by decide +kernel
theorem dX11_richest_9 : decode cX11_richest 9 = .ok (.ifCond .eq 10, 3) := by decide +kernel
theorem dX11_richest_12 : decode cX11_richest 12 = .ok (.aload_n 0, 1) := by decide +kernel
theorem dX11_richest_13 : decode cX11_richest 13 = .ok (.getfield 264, 3) := by decide +kernel
theorem dX11_richest_16 : decode cX11_richest 16 = .ok (.goto 8, 3) := by decide +kernel
theorem dX11_richest_19 : decode cX11_richest 19 = .ok (.aload_n 0, 1) := by decide +kernel
theorem dX11_richest_20 : decode cX11_richest 20 = .ok (.iconst 1, 1) := by decide +kernel
theorem dX11_richest_21 : decode cX11_richest 21 = .ok (.invokevirtual 158, 3) := by decide +kernel
theorem dX11_richest_24 : decode cX11_richest 24 = .ok (.ireturn, 1) := by decide +kernel
theorem dX11_fewest_0 : decode cX11_fewest 0 = .ok (.aload_n 0, 1) := by decide +kernel
theorem dX11_fewest_1 : decode cX11_fewest 1 = .ok (.invokevirtual 155, 3) := by decide +kernel
theorem dX11_fewest_4 : decode cX11_fewest 4 = .ok (.aload_n 0, 1) := by decide +kernel
theorem dX11_fewest_5 : decode cX11_fewest 5 = .ok (.iconst 0, 1) := by decide +kernel
theorem dX11_fewest_6 : decode cX11_fewest 6 = .ok (.invokevirtual 305, 3) := by decide +kernel
theorem dX11_fewest_9 : decode cX11_fewest 9 = .ok (.ifCond .eq 10, 3) := by decide +kernel
theorem dX11_fewest_12 : decode cX11_fewest 12 = .ok (.aload_n 0, 1) := by decide +kernel
theorem dX11_fewest_13 : decode cX11_fewest 13 = .ok (.getfield 267, 3) := by decide +kernel
theorem dX11_fewest_16 : decode cX11_fewest 16 = .ok (.goto 8, 3) := by decide +kernel
theorem dX11_fewest_19 : decode cX11_fewest 19 = .ok (.aload_n 0, 1) := by decide +kernel
theorem dX11_fewest_20 : decode cX11_fewest 20 = .ok (.iconst 1, 1) := by decide +kernel
theorem dX11_fewest_21 : decode cX11_fewest 21 = .ok (.invokevirtual 158, 3) := by decide +kernel
theorem dX11_fewest_24 : decode cX11_fewest 24 = .ok (.ireturn, 1) := by decide +kernel
theorem dX11_wanted__0 : decode cX11_wanted_ 0 = .ok (.aload_n 0, 1) := by decide +kernel
theorem dX11_wanted__1 : decode cX11_wanted_ 1 = .ok (.invokevirtual 155, 3) := by decide +kernel
theorem dX11_wanted__4 : decode cX11_wanted_ 4 = .ok (.aload_n 0, 1) := by decide +kernel
theorem dX11_wanted__5 : decode cX11_wanted_ 5 = .ok (.iconst 1, 1) := by decide +kernel
theorem dX11_wanted__6 : decode cX11_wanted_ 6 = .ok (.invokevirtual 305, 3) := by decide +kernel
theorem dX11_wanted__9 : decode cX11_wanted_ 9 = .ok (.ifCond .eq 10, 3) := by decide +kernel
theorem dX11_wanted__12 : decode cX11_wanted_ 12 = .ok (.aload_n 0, 1) := by decide +kernel
theorem dX11_wanted__13 : decode cX11_wanted_ 13 = .ok (.getfield 270, 3) := by decide +kernel
theorem dX11_wanted__16 : decode cX11_wanted_ 16 = .ok (.goto 8, 3) := by decide +kernel
theorem dX11_wanted__19 : decode cX11_wanted_ 19 = .ok (.aload_n 0, 1) := by decide +kernel
theorem dX11_wanted__20 : decode cX11_wanted_ 20 = .ok (.iconst 1, 1) := by decide +kernel
theorem dX11_wanted__21 : decode cX11_wanted_ 21 = .ok (.invokevirtual 158, 3) := by decide +kernel
theorem dX11_wanted__24 : decode cX11_wanted_ 24 = .ok (.ireturn, 1) := by decide +kernel
theorem dX11_wants_0 : decode cX11_wants 0 = .ok (.aload_n 0, 1) := by decide +kernel
theorem dX11_wants_1 : decode cX11_wants 1 = .ok (.invokevirtual 155, 3) := by decide +kernel
theorem dX11_wants_4 : decode cX11_wants 4 = .ok (.aload_n 0, 1) := by decide +kernel
theorem dX11_wants_5 : decode cX11_wants 5 = .ok (.getfield 164, 3) := by decide +kernel
theorem dX11_wants_8 : decode cX11_wants 8 = .ok (.ifCond .eq 7, 3) := by decide +kernel
theorem dX11_wants_11 : decode cX11_wants 11 = .ok (.iload_n 1, 1) := by decide +kernel
theorem dX11_wants_12 : decode cX11_wants 12 = .ok (.ifCond .ge 9, 3) := by decide +kernel
theorem dX11_wants_15 : decode cX11_wants 15 = .ok (.aload_n 0, 1) := by decide +kernel
theorem dX11_wants_16 : decode cX11_wants 16 = .ok (.iconst 1, 1) := by decide +kernel
theorem dX11_wants_17 : decode cX11_wants 17 = .ok (.invokevirtual 158, 3) := by decide +kernel
theorem dX11_wants_20 : decode cX11_wants 20 = .ok (.ireturn, 1) := by decide +kernel
theorem dX11_wants_21 : decode cX11_wants 21 = .ok (.aload_n 0, 1) := by decide +kernel
theorem dX11_wants_22 : decode cX11_wants 22 = .ok (.iconst 1, 1) := by decide +kernel
theorem dX11_wants_23 : decode cX11_wants 23 = .ok (.invokevirtual 305, 3) := by decide +kernel
theorem dX11_wants_26 : decode cX11_wants 26 = .ok (.pop, 1) := by decide +kernel
theorem dX11_wants_27 : decode cX11_wants 27 = .ok (.aload_n 0, 1) := by decide +kernel
theorem dX11_wants_28 : decode cX11_wants 28 = .ok (.getfield 270, 3) := by decide +kernel
theorem dX11_wants_31 : decode cX11_wants 31 = .ok (.bipush (-2), 2) := by decide +kernel
theorem dX11_wants_33 : decode cX11_wants 33 = .ok (.if_icmp .ne 10, 3) := by decide +kernel
theorem dX11_wants_36 : decode cX11_wants 36 = .ok (.aload_n 0, 1) := by decide +kernel
theorem dX11_wants_37 : decode cX11_wants 37 = .ok (.bipush 6, 2) := by decide +kernel
theorem dX11_wants_39 : decode cX11_wants 39 = .ok (.invokevirtual 158, 3) := by decide +kernel
theorem dX11_wants_42 : decode cX11_wants 42 = .ok (.ireturn, 1) := by decide +kernel
theorem dX11_wants_43 : decode cX11_wants 43 = .ok (.iconst 0, 1) := by decide +kernel
theorem dX11_wants_44 : decode cX11_wants 44 = .ok (.istore_n 2, 1) := by decide +kernel
theorem dX11_wants_45 : decode cX11_wants 45 = .ok (.iload_n 2, 1) := by decide +kernel
theorem dX11_wants_46 : decode cX11_wants 46 = .ok (.iconst 3, 1) := by decide +kernel
theorem dX11_wants_47 : decode cX11_wants 47 = .ok (.if_icmp .ge 21, 3) := by decide +kernel
theorem dX11_wants_50 : decode cX11_wants 50 = .ok (.aload_n 0, 1) := by decide +kernel
theorem dX11_wants_51 : decode cX11_wants 51 = .ok (.getfield 56, 3) := by decide +kernel
theorem dX11_wants_54 : decode cX11_wants 54 = .ok (.iload_n 2, 1) := by decide +kernel
theorem dX11_wants_55 : decode cX11_wants 55 = .ok (.aload_n 0, 1) := by decide +kernel
theorem dX11_wants_56 : decode cX11_wants 56 = .ok (.getfield 53, 3) := by decide +kernel
theorem dX11_wants_59 : decode cX11_wants 59 = .ok (.iload_n 2, 1) := by decide +kernel
theorem dX11_wants_60 : decode cX11_wants 60 = .ok (.iaload, 1) := by decide +kernel
theorem dX11_wants_61 : decode cX11_wants 61 = .ok (.iastore, 1) := by decide +kernel
theorem dX11_wants_62 : decode cX11_wants 62 = .ok (.iinc 2 1, 3) := by decide +kernel
theorem dX11_wants_65 : decode cX11_wants 65 = .ok (.goto (-20), 3) := by decide +kernel
theorem dX11_wants_68 : decode cX11_wants 68 = .ok (.aload_n 0, 1) := by decide +kernel
theorem dX11_wants_69 : decode cX11_wants 69 = .ok (.invokevirtual 280, 3) := by decide +kernel
theorem dX11_wants_72 : decode cX11_wants 72 = .ok (.pop, 1) := by decide +kernel
theorem dX11_wants_73 : decode cX11_wants 73 = .ok (.iload_n 1, 1) := by decide +kernel
theorem dX11_wants_74 : decode cX11_wants 74 = .ok (.istore_n 2, 1) := by decide +kernel
theorem dX11_wants_75 : decode cX11_wants 75 = .ok (.iconst 0, 1) := by decide +kernel
theorem dX11_wants_76 : decode cX11_wants 76 = .ok (.istore_n 3, 1) := by decide +kernel
theorem dX11_wants_77 : decode cX11_wants 77 = .ok (.iload_n 3, 1) := by decide +kernel
theorem dX11_wants_78 : decode cX11_wants 78 = .ok (.bipush 26, 2) := by decide +kernel
theorem dX11_wants_80 : decode cX11_wants 80 = .ok (.if_icmp .ge 44, 3) := by decide +kernel
theorem dX11_wants_83 : decode cX11_wants 83 = .ok (.iload_n 2, 1) := by decide +kernel
theorem dX11_wants_84 : decode cX11_wants 84 = .ok (.aload_n 0, 1) := by decide +kernel
theorem dX11_wants_85 : decode cX11_wants 85 = .ok (.getfield 47, 3) := by decide +kernel
theorem dX11_wants_88 : decode cX11_wants 88 = .ok (.iload_n 3, 1) := by decide +kernel
theorem dX11_wants_89 : decode cX11_wants 89 = .ok (.iaload, 1) := by decide +kernel
theorem dX11_wants_90 : decode cX11_wants 90 = .ok (.aload_n 0, 1) := by decide +kernel
theorem dX11_wants_91 : decode cX11_wants 91 = .ok (.getfield 50, 3) := by decide +kernel
theorem dX11_wants_94 : decode cX11_wants 94 = .ok (.iload_n 3, 1) := by decide +kernel
theorem dX11_wants_95 : decode cX11_wants 95 = .ok (.iaload, 1) := by decide +kernel
theorem dX11_wants_96 : decode cX11_wants 96 = .ok (.isub, 1) := by decide +kernel
theorem dX11_wants_97 : decode cX11_wants 97 = .ok (.if_icmp .ge 5, 3) := by decide +kernel
theorem dX11_wants_100 : decode cX11_wants 100 = .ok (.iload_n 3, 1) := by decide +kernel
theorem dX11_wants_101 : decode cX11_wants 101 = .ok (.ireturn, 1) := by decide +kernel
theorem dX11_wants_102 : decode cX11_wants 102 = .ok (.iload_n 2, 1) := by decide +kernel
theorem dX11_wants_103 : decode cX11_wants 103 = .ok (.aload_n 0, 1) := by decide +kernel
theorem dX11_wants_104 : decode cX11_wants 104 = .ok (.getfield 47, 3) := by decide +kernel
theorem dX11_wants_107 : decode cX11_wants 107 = .ok (.iload_n 3, 1) := by decide +kernel
theorem dX11_wants_108 : decode cX11_wants 108 = .ok (.iaload, 1) := by decide +kernel
theorem dX11_wants_109 : decode cX11_wants 109 = .ok (.aload_n 0, 1) := by decide +kernel
theorem dX11_wants_110 : decode cX11_wants 110 = .ok (.getfield 50, 3) := by decide +kernel
theorem dX11_wants_113 : decode cX11_wants 113 = .ok (.iload_n 3, 1) := by decide +kernel
theorem dX11_wants_114 : decode cX11_wants 114 = .ok (.iaload, 1) := by decide +kernel
theorem dX11_wants_115 : decode cX11_wants 115 = .ok (.isub, 1) := by decide +kernel
theorem dX11_wants_116 : decode cX11_wants 116 = .ok (.isub, 1) := by decide +kernel
theorem dX11_wants_117 : decode cX11_wants 117 = .ok (.istore_n 2, 1) := by decide +kernel
theorem dX11_wants_118 : decode cX11_wants 118 = .ok (.iinc 3 1, 3) := by decide +kernel
theorem dX11_wants_121 : decode cX11_wants 121 = .ok (.goto (-44), 3) := by decide +kernel
theorem dX11_wants_124 : decode cX11_wants 124 = .ok (.aload_n 0, 1) := by decide +kernel
theorem dX11_wants_125 : decode cX11_wants 125 = .ok (.iconst 1, 1) := by decide +kernel
theorem dX11_wants_126 : decode cX11_wants 126 = .ok (.invokevirtual 158, 3) := by decide +kernel
theorem dX11_wants_129 : decode cX11_wants 129 = .ok (.ireturn, 1) := by decide +kernel
theorem dX11_gains_0 : decode cX11_gains 0 = .ok (.aload_n 0, 1) := by decide +kernel
theorem dX11_gains_1 : decode cX11_gains 1 = .ok (.invokevirtual 155, 3) := by decide +kernel
theorem dX11_gains_4 : decode cX11_gains 4 = .ok (.aload_n 0, 1) := by decide +kernel
theorem dX11_gains_5 : decode cX11_gains 5 = .ok (.getfield 164, 3) := by decide +kernel
theorem dX11_gains_8 : decode cX11_gains 8 = .ok (.ifCond .ne 9, 3) := by decide +kernel
theorem dX11_gains_11 : decode cX11_gains 11 = .ok (.aload_n 0, 1) := by decide +kernel
theorem dX11_gains_12 : decode cX11_gains 12 = .ok (.iconst 1, 1) := by decide +kernel
theorem dX11_gains_13 : decode cX11_gains 13 = .ok (.invokevirtual 158, 3) := by decide +kernel
theorem dX11_gains_16 : decode cX11_gains 16 = .ok (.ireturn, 1) := by decide +kernel
theorem dX11_gains_17 : decode cX11_gains 17 = .ok (.iload_n 1, 1) := by decide +kernel
theorem dX11_gains_18 : decode cX11_gains 18 = .ok (.iconst 0, 1) := by decide +kernel
theorem dX11_gains_19 : decode cX11_gains 19 = .ok (.bipush 25, 2) := by decide +kernel
theorem dX11_gains_21 : decode cX11_gains 21 = .ok (.invokestatic 143, 3) := by decide +kernel
theorem dX11_gains_24 : decode cX11_gains 24 = .ok (.ifCond .ne 9, 3) := by decide +kernel
theorem dX11_gains_27 : decode cX11_gains 27 = .ok (.aload_n 0, 1) := by decide +kernel
theorem dX11_gains_28 : decode cX11_gains 28 = .ok (.iconst 2, 1) := by decide +kernel
theorem dX11_gains_29 : decode cX11_gains 29 = .ok (.invokevirtual 158, 3) := by decide +kernel
theorem dX11_gains_32 : decode cX11_gains 32 = .ok (.ireturn, 1) := by decide +kernel
theorem dX11_gains_33 : decode cX11_gains 33 = .ok (.aload_n 0, 1) := by decide +kernel
theorem dX11_gains_34 : decode cX11_gains 34 = .ok (.iconst 0, 1) := by decide +kernel
theorem dX11_gains_35 : decode cX11_gains 35 = .ok (.invokevirtual 305, 3) := by decide +kernel
theorem dX11_gains_38 : decode cX11_gains 38 = .ok (.pop, 1) := by decide +kernel
theorem dX11_gains_39 : decode cX11_gains 39 = .ok (.aload_n 0, 1) := by decide +kernel
theorem dX11_gains_40 : decode cX11_gains 40 = .ok (.getfield 258, 3) := by decide +kernel
theorem dX11_gains_43 : decode cX11_gains 43 = .ok (.istore_n 2, 1) := by decide +kernel
theorem dX11_gains_44 : decode cX11_gains 44 = .ok (.aload_n 0, 1) := by decide +kernel
theorem dX11_gains_45 : decode cX11_gains 45 = .ok (.getfield 50, 3) := by decide +kernel
theorem dX11_gains_48 : decode cX11_gains 48 = .ok (.iload_n 1, 1) := by decide +kernel
theorem dX11_gains_49 : decode cX11_gains 49 = .ok (.dup2, 1) := by decide +kernel
theorem dX11_gains_50 : decode cX11_gains 50 = .ok (.iaload, 1) := by decide +kernel
theorem dX11_gains_51 : decode cX11_gains 51 = .ok (.iconst 1, 1) := by decide +kernel
theorem dX11_gains_52 : decode cX11_gains 52 = .ok (.iadd, 1) := by decide +kernel
theorem dX11_gains_53 : decode cX11_gains 53 = .ok (.iastore, 1) := by decide +kernel
theorem dX11_gains_54 : decode cX11_gains 54 = .ok (.aload_n 0, 1) := by decide +kernel
theorem dX11_gains_55 : decode cX11_gains 55 = .ok (.iconst 0, 1) := by decide +kernel
theorem dX11_gains_56 : decode cX11_gains 56 = .ok (.invokevirtual 301, 3) := by decide +kernel
theorem dX11_gains_59 : decode cX11_gains 59 = .ok (.aload_n 0, 1) := by decide +kernel
theorem dX11_gains_60 : decode cX11_gains 60 = .ok (.getfield 258, 3) := by decide +kernel
theorem dX11_gains_63 : decode cX11_gains 63 = .ok (.iload_n 2, 1) := by decide +kernel
theorem dX11_gains_64 : decode cX11_gains 64 = .ok (.isub, 1) := by decide +kernel
theorem dX11_gains_65 : decode cX11_gains 65 = .ok (.ireturn, 1) := by decide +kernel
theorem dX11_begin_0 : decode cX11_begin 0 = .ok (.iconst 0, 1) := by decide +kernel
theorem dX11_begin_1 : decode cX11_begin 1 = .ok (.istore_n 2, 1) := by decide +kernel
theorem dX11_begin_2 : decode cX11_begin 2 = .ok (.iload_n 2, 1) := by decide +kernel
theorem dX11_begin_3 : decode cX11_begin 3 = .ok (.iconst 3, 1) := by decide +kernel
theorem dX11_begin_4 : decode cX11_begin 4 = .ok (.if_icmp .ge 17, 3) := by decide +kernel
theorem dX11_begin_7 : decode cX11_begin 7 = .ok (.aload_n 0, 1) := by decide +kernel
theorem dX11_begin_8 : decode cX11_begin 8 = .ok (.getfield 26, 3) := by decide +kernel
theorem dX11_begin_11 : decode cX11_begin 11 = .ok (.iload_n 2, 1) := by decide +kernel
theorem dX11_begin_12 : decode cX11_begin 12 = .ok (.bipush 24, 2) := by decide +kernel
theorem dX11_begin_14 : decode cX11_begin 14 = .ok (.iastore, 1) := by decide +kernel
theorem dX11_begin_15 : decode cX11_begin 15 = .ok (.iinc 2 1, 3) := by decide +kernel
theorem dX11_begin_18 : decode cX11_begin 18 = .ok (.goto (-16), 3) := by decide +kernel
theorem dX11_begin_21 : decode cX11_begin 21 = .ok (.aload_n 0, 1) := by decide +kernel
theorem dX11_begin_22 : decode cX11_begin 22 = .ok (.getfield 26, 3) := by decide +kernel
theorem dX11_begin_25 : decode cX11_begin 25 = .ok (.iconst 3, 1) := by decide +kernel
theorem dX11_begin_26 : decode cX11_begin 26 = .ok (.iload_n 1, 1) := by decide +kernel
theorem dX11_begin_27 : decode cX11_begin 27 = .ok (.iastore, 1) := by decide +kernel
theorem dX11_begin_28 : decode cX11_begin 28 = .ok (.aload_n 0, 1) := by decide +kernel
theorem dX11_begin_29 : decode cX11_begin 29 = .ok (.getfield 26, 3) := by decide +kernel
theorem dX11_begin_32 : decode cX11_begin 32 = .ok (.iconst 4, 1) := by decide +kernel
theorem dX11_begin_33 : decode cX11_begin 33 = .ok (.iconst 0, 1) := by decide +kernel
theorem dX11_begin_34 : decode cX11_begin 34 = .ok (.iastore, 1) := by decide +kernel
theorem dX11_begin_35 : decode cX11_begin 35 = .ok (.aload_n 0, 1) := by decide +kernel
theorem dX11_begin_36 : decode cX11_begin 36 = .ok (.getfield 26, 3) := by decide +kernel
theorem dX11_begin_39 : decode cX11_begin 39 = .ok (.iconst 5, 1) := by decide +kernel
theorem dX11_begin_40 : decode cX11_begin 40 = .ok (.iconst 0, 1) := by decide +kernel
theorem dX11_begin_41 : decode cX11_begin 41 = .ok (.iastore, 1) := by decide +kernel
theorem dX11_begin_42 : decode cX11_begin 42 = .ok (.return_, 1) := by decide +kernel
theorem dX11_night_0 : decode cX11_night 0 = .ok (.aload_n 0, 1) := by decide +kernel
theorem dX11_night_1 : decode cX11_night 1 = .ok (.invokevirtual 155, 3) := by decide +kernel
theorem dX11_night_4 : decode cX11_night 4 = .ok (.aload_n 0, 1) := by decide +kernel
theorem dX11_night_5 : decode cX11_night 5 = .ok (.getfield 164, 3) := by decide +kernel
theorem dX11_night_8 : decode cX11_night 8 = .ok (.ifCond .eq 12, 3) := by decide +kernel
theorem dX11_night_11 : decode cX11_night 11 = .ok (.iload_n 1, 1) := by decide +kernel
theorem dX11_night_12 : decode cX11_night 12 = .ok (.iconst 0, 1) := by decide +kernel
theorem dX11_night_13 : decode cX11_night 13 = .ok (.iconst 3, 1) := by decide +kernel
theorem dX11_night_14 : decode cX11_night 14 = .ok (.invokestatic 143, 3) := by decide +kernel
theorem dX11_night_17 : decode cX11_night 17 = .ok (.ifCond .ne 9, 3) := by decide +kernel
theorem dX11_night_20 : decode cX11_night 20 = .ok (.aload_n 0, 1) := by decide +kernel
theorem dX11_night_21 : decode cX11_night 21 = .ok (.iconst 1, 1) := by decide +kernel
theorem dX11_night_22 : decode cX11_night 22 = .ok (.invokevirtual 312, 3) := by decide +kernel
theorem dX11_night_25 : decode cX11_night 25 = .ok (.ireturn, 1) := by decide +kernel
theorem dX11_night_26 : decode cX11_night 26 = .ok (.aload_n 0, 1) := by decide +kernel
theorem dX11_night_27 : decode cX11_night 27 = .ok (.iload_n 1, 1) := by decide +kernel
theorem dX11_night_28 : decode cX11_night 28 = .ok (.invokevirtual 170, 3) := by decide +kernel
theorem dX11_night_31 : decode cX11_night 31 = .ok (.iconst 1, 1) := by decide +kernel
theorem dX11_night_32 : decode cX11_night 32 = .ok (.ireturn, 1) := by decide +kernel
theorem dX11_code_0 : decode cX11_code 0 = .ok (.aload_n 0, 1) := by decide +kernel
theorem dX11_code_1 : decode cX11_code 1 = .ok (.getfield 26, 3) := by decide +kernel
theorem dX11_code_4 : decode cX11_code 4 = .ok (.iconst 0, 1) := by decide +kernel
theorem dX11_code_5 : decode cX11_code 5 = .ok (.iaload, 1) := by decide +kernel
theorem dX11_code_6 : decode cX11_code 6 = .ok (.bipush 25, 2) := by decide +kernel
theorem dX11_code_8 : decode cX11_code 8 = .ok (.aload_n 0, 1) := by decide +kernel
theorem dX11_code_9 : decode cX11_code 9 = .ok (.getfield 26, 3) := by decide +kernel
theorem dX11_code_12 : decode cX11_code 12 = .ok (.iconst 1, 1) := by decide +kernel
theorem dX11_code_13 : decode cX11_code 13 = .ok (.iaload, 1) := by decide +kernel
theorem dX11_code_14 : decode cX11_code 14 = .ok (.imul, 1) := by decide +kernel
theorem dX11_code_15 : decode cX11_code 15 = .ok (.iadd, 1) := by decide +kernel
theorem dX11_code_16 : decode cX11_code 16 = .ok (.sipush 625, 3) := by decide +kernel
theorem dX11_code_19 : decode cX11_code 19 = .ok (.aload_n 0, 1) := by decide +kernel
theorem dX11_code_20 : decode cX11_code 20 = .ok (.getfield 26, 3) := by decide +kernel
theorem dX11_code_23 : decode cX11_code 23 = .ok (.iconst 2, 1) := by decide +kernel
theorem dX11_code_24 : decode cX11_code 24 = .ok (.iaload, 1) := by decide +kernel
theorem dX11_code_25 : decode cX11_code 25 = .ok (.imul, 1) := by decide +kernel
theorem dX11_code_26 : decode cX11_code 26 = .ok (.iadd, 1) := by decide +kernel
theorem dX11_code_27 : decode cX11_code 27 = .ok (.ireturn, 1) := by decide +kernel
theorem dX11_wordOf_0 : decode cX11_wordOf 0 = .ok (.iload_n 1, 1) := by decide +kernel
theorem dX11_wordOf_1 : decode cX11_wordOf 1 = .ok (.ifCond .ne 10, 3) := by decide +kernel
theorem dX11_wordOf_4 : decode cX11_wordOf 4 = .ok (.iload_n 0, 1) := by decide +kernel
theorem dX11_wordOf_5 : decode cX11_wordOf 5 = .ok (.bipush 25, 2) := by decide +kernel
theorem dX11_wordOf_7 : decode cX11_wordOf 7 = .ok (.irem, 1) := by decide +kernel
theorem dX11_wordOf_8 : decode cX11_wordOf 8 = .ok (.goto 23, 3) := by decide +kernel
theorem dX11_wordOf_11 : decode cX11_wordOf 11 = .ok (.iload_n 1, 1) := by decide +kernel
theorem dX11_wordOf_12 : decode cX11_wordOf 12 = .ok (.iconst 1, 1) := by decide +kernel
theorem dX11_wordOf_13 : decode cX11_wordOf 13 = .ok (.if_icmp .ne 13, 3) := by decide +kernel
theorem dX11_wordOf_16 : decode cX11_wordOf 16 = .ok (.iload_n 0, 1) := by decide +kernel
theorem dX11_wordOf_17 : decode cX11_wordOf 17 = .ok (.bipush 25, 2) := by decide +kernel
theorem dX11_wordOf_19 : decode cX11_wordOf 19 = .ok (.idiv, 1) := by decide +kernel
theorem dX11_wordOf_20 : decode cX11_wordOf 20 = .ok (.bipush 25, 2) := by decide +kernel
theorem dX11_wordOf_22 : decode cX11_wordOf 22 = .ok (.irem, 1) := by decide +kernel
theorem dX11_wordOf_23 : decode cX11_wordOf 23 = .ok (.goto 8, 3) := by decide +kernel
theorem dX11_wordOf_26 : decode cX11_wordOf 26 = .ok (.iload_n 0, 1) := by decide +kernel
theorem dX11_wordOf_27 : decode cX11_wordOf 27 = .ok (.sipush 625, 3) := by decide +kernel
theorem dX11_wordOf_30 : decode cX11_wordOf 30 = .ok (.idiv, 1) := by decide +kernel
theorem dX11_wordOf_31 : decode cX11_wordOf 31 = .ok (.ireturn, 1) := by decide +kernel
theorem dX11_withWord_0 : decode cX11_withWord 0 = .ok (.iload_n 1, 1) := by decide +kernel
theorem dX11_withWord_1 : decode cX11_withWord 1 = .ok (.ifCond .ne 7, 3) := by decide +kernel
theorem dX11_withWord_4 : decode cX11_withWord 4 = .ok (.iconst 1, 1) := by decide +kernel
theorem dX11_withWord_5 : decode cX11_withWord 5 = .ok (.goto 16, 3) := by decide +kernel
theorem dX11_withWord_8 : decode cX11_withWord 8 = .ok (.iload_n 1, 1) := by decide +kernel
theorem dX11_withWord_9 : decode cX11_withWord 9 = .ok (.iconst 1, 1) := by decide +kernel
theorem dX11_withWord_10 : decode cX11_withWord 10 = .ok (.if_icmp .ne 8, 3) := by decide +kernel
theorem dX11_withWord_13 : decode cX11_withWord 13 = .ok (.bipush 25, 2) := by decide +kernel
theorem dX11_withWord_15 : decode cX11_withWord 15 = .ok (.goto 6, 3) := by decide +kernel
theorem dX11_withWord_18 : decode cX11_withWord 18 = .ok (.sipush 625, 3) := by decide +kernel
theorem dX11_withWord_21 : decode cX11_withWord 21 = .ok (.istore_n 3, 1) := by decide +kernel
theorem dX11_withWord_22 : decode cX11_withWord 22 = .ok (.iload_n 0, 1) := by decide +kernel
theorem dX11_withWord_23 : decode cX11_withWord 23 = .ok (.iload_n 2, 1) := by decide +kernel
theorem dX11_withWord_24 : decode cX11_withWord 24 = .ok (.iload_n 0, 1) := by decide +kernel
theorem dX11_withWord_25 : decode cX11_withWord 25 = .ok (.iload_n 1, 1) := by decide +kernel
theorem dX11_withWord_26 : decode cX11_withWord 26 = .ok (.invokestatic 315, 3) := by decide +kernel
theorem dX11_withWord_29 : decode cX11_withWord 29 = .ok (.isub, 1) := by decide +kernel
theorem dX11_withWord_30 : decode cX11_withWord 30 = .ok (.iload_n 3, 1) := by decide +kernel
theorem dX11_withWord_31 : decode cX11_withWord 31 = .ok (.imul, 1) := by decide +kernel
theorem dX11_withWord_32 : decode cX11_withWord 32 = .ok (.iadd, 1) := by decide +kernel
theorem dX11_withWord_33 : decode cX11_withWord 33 = .ok (.ireturn, 1) := by decide +kernel
theorem dX11_empty_0 : decode cX11_empty 0 = .ok (.sipush 15624, 3) := by decide +kernel
theorem dX11_empty_3 : decode cX11_empty 3 = .ok (.ireturn, 1) := by decide +kernel
theorem dX11_wordAfter_0 : decode cX11_wordAfter 0 = .ok (.aload_n 0, 1) := by decide +kernel
theorem dX11_wordAfter_1 : decode cX11_wordAfter 1 = .ok (.getfield 32, 3) := by decide +kernel
theorem dX11_wordAfter_4 : decode cX11_wordAfter 4 = .ok (.bipush 24, 2) := by decide +kernel
theorem dX11_wordAfter_6 : decode cX11_wordAfter 6 = .ok (.iload_n 1, 1) := by decide +kernel
theorem dX11_wordAfter_7 : decode cX11_wordAfter 7 = .ok (.iload_n 2, 1) := by decide +kernel
theorem dX11_wordAfter_8 : decode cX11_wordAfter 8 = .ok (.invokestatic 315, 3) := by decide +kernel
theorem dX11_wordAfter_11 : decode cX11_wordAfter 11 = .ok (.imul, 1) := by decide +kernel
theorem dX11_wordAfter_12 : decode cX11_wordAfter 12 = .ok (.iload_n 3, 1) := by decide +kernel
theorem dX11_wordAfter_13 : decode cX11_wordAfter 13 = .ok (.iadd, 1) := by decide +kernel
theorem dX11_wordAfter_14 : decode cX11_wordAfter 14 = .ok (.iaload, 1) := by decide +kernel
theorem dX11_wordAfter_15 : decode cX11_wordAfter 15 = .ok (.iload 4, 2) := by decide +kernel
theorem dX11_wordAfter_17 : decode cX11_wordAfter 17 = .ok (.if_icmp .ne 12, 3) := by decide +kernel
theorem dX11_wordAfter_20 : decode cX11_wordAfter 20 = .ok (.iload_n 1, 1) := by decide +kernel
theorem dX11_wordAfter_21 : decode cX11_wordAfter 21 = .ok (.iload_n 2, 1) := by decide +kernel
theorem dX11_wordAfter_22 : decode cX11_wordAfter 22 = .ok (.iload_n 3, 1) := by decide +kernel
theorem dX11_wordAfter_23 : decode cX11_wordAfter 23 = .ok (.invokestatic 318, 3) := by decide +kernel
theorem dX11_wordAfter_26 : decode cX11_wordAfter 26 = .ok (.goto 4, 3) := by decide +kernel
theorem dX11_wordAfter_29 : decode cX11_wordAfter 29 = .ok (.iconst (-1), 1) := by decide +kernel
theorem dX11_wordAfter_30 : decode cX11_wordAfter 30 = .ok (.ireturn, 1) := by decide +kernel
theorem dX11_forget_0 : decode cX11_forget 0 = .ok (.iconst 0, 1) := by decide +kernel
theorem dX11_forget_1 : decode cX11_forget 1 = .ok (.istore_n 1, 1) := by decide +kernel
theorem dX11_forget_2 : decode cX11_forget 2 = .ok (.iload_n 1, 1) := by decide +kernel
theorem dX11_forget_3 : decode cX11_forget 3 = .ok (.ldc 59, 2) := by decide +kernel
theorem dX11_forget_5 : decode cX11_forget 5 = .ok (.if_icmp .ge 16, 3) := by decide +kernel
theorem dX11_forget_8 : decode cX11_forget 8 = .ok (.aload_n 0, 1) := by decide +kernel
theorem dX11_forget_9 : decode cX11_forget 9 = .ok (.getfield 60, 3) := by decide +kernel
theorem dX11_forget_12 : decode cX11_forget 12 = .ok (.iload_n 1, 1) := by decide +kernel
theorem dX11_forget_13 : decode cX11_forget 13 = .ok (.iconst (-1), 1) := by decide +kernel
theorem dX11_forget_14 : decode cX11_forget 14 = .ok (.iastore, 1) := by decide +kernel
theorem dX11_forget_15 : decode cX11_forget 15 = .ok (.iinc 1 1, 3) := by decide +kernel
theorem dX11_forget_18 : decode cX11_forget 18 = .ok (.goto (-16), 3) := by decide +kernel
theorem dX11_forget_21 : decode cX11_forget 21 = .ok (.return_, 1) := by decide +kernel
theorem dX11_mostOf_0 : decode cX11_mostOf 0 = .ok (.iload_n 1, 1) := by decide +kernel
theorem dX11_mostOf_1 : decode cX11_mostOf 1 = .ok (.aload_n 0, 1) := by decide +kernel
theorem dX11_mostOf_2 : decode cX11_mostOf 2 = .ok (.getfield 20, 3) := by decide +kernel
theorem dX11_mostOf_5 : decode cX11_mostOf 5 = .ok (.iconst 4, 1) := by decide +kernel
theorem dX11_mostOf_6 : decode cX11_mostOf 6 = .ok (.iaload, 1) := by decide +kernel
theorem dX11_mostOf_7 : decode cX11_mostOf 7 = .ok (.if_icmp .ne 5, 3) := by decide +kernel
theorem dX11_mostOf_10 : decode cX11_mostOf 10 = .ok (.iconst 0, 1) := by decide +kernel
theorem dX11_mostOf_11 : decode cX11_mostOf 11 = .ok (.ireturn, 1) := by decide +kernel
theorem dX11_mostOf_12 : decode cX11_mostOf 12 = .ok (.sipush 15625, 3) := by decide +kernel
theorem dX11_mostOf_15 : decode cX11_mostOf 15 = .ok (.iload_n 1, 1) := by decide +kernel
theorem dX11_mostOf_16 : decode cX11_mostOf 16 = .ok (.imul, 1) := by decide +kernel
theorem dX11_mostOf_17 : decode cX11_mostOf 17 = .ok (.iload_n 2, 1) := by decide +kernel
theorem dX11_mostOf_18 : decode cX11_mostOf 18 = .ok (.iadd, 1) := by decide +kernel
theorem dX11_mostOf_19 : decode cX11_mostOf 19 = .ok (.istore_n 3, 1) := by decide +kernel
theorem dX11_mostOf_20 : decode cX11_mostOf 20 = .ok (.aload_n 0, 1) := by decide +kernel
theorem dX11_mostOf_21 : decode cX11_mostOf 21 = .ok (.getfield 60, 3) := by decide +kernel
theorem dX11_mostOf_24 : decode cX11_mostOf 24 = .ok (.iload_n 3, 1) := by decide +kernel
theorem dX11_mostOf_25 : decode cX11_mostOf 25 = .ok (.iaload, 1) := by decide +kernel
theorem dX11_mostOf_26 : decode cX11_mostOf 26 = .ok (.ifCond .lt 10, 3) := by decide +kernel
theorem dX11_mostOf_29 : decode cX11_mostOf 29 = .ok (.aload_n 0, 1) := by decide +kernel
theorem dX11_mostOf_30 : decode cX11_mostOf 30 = .ok (.getfield 60, 3) := by decide +kernel
theorem dX11_mostOf_33 : decode cX11_mostOf 33 = .ok (.iload_n 3, 1) := by decide +kernel
theorem dX11_mostOf_34 : decode cX11_mostOf 34 = .ok (.iaload, 1) := by decide +kernel
theorem dX11_mostOf_35 : decode cX11_mostOf 35 = .ok (.ireturn, 1) := by decide +kernel
theorem dX11_mostOf_36 : decode cX11_mostOf 36 = .ok (.aload_n 0, 1) := by decide +kernel
theorem dX11_mostOf_37 : decode cX11_mostOf 37 = .ok (.iload_n 1, 1) := by decide +kernel
theorem dX11_mostOf_38 : decode cX11_mostOf 38 = .ok (.iconst 1, 1) := by decide +kernel
theorem dX11_mostOf_39 : decode cX11_mostOf 39 = .ok (.iadd, 1) := by decide +kernel
theorem dX11_mostOf_40 : decode cX11_mostOf 40 = .ok (.iload_n 2, 1) := by decide +kernel
theorem dX11_mostOf_41 : decode cX11_mostOf 41 = .ok (.invokevirtual 322, 3) := by decide +kernel
theorem dX11_mostOf_44 : decode cX11_mostOf 44 = .ok (.istore 4, 2) := by decide +kernel
theorem dX11_mostOf_46 : decode cX11_mostOf 46 = .ok (.iconst 0, 1) := by decide +kernel
theorem dX11_mostOf_47 : decode cX11_mostOf 47 = .ok (.istore 5, 2) := by decide +kernel
theorem dX11_mostOf_49 : decode cX11_mostOf 49 = .ok (.iload 5, 2) := by decide +kernel
theorem dX11_mostOf_51 : decode cX11_mostOf 51 = .ok (.aload_n 0, 1) := by decide +kernel
theorem dX11_mostOf_52 : decode cX11_mostOf 52 = .ok (.getfield 20, 3) := by decide +kernel
theorem dX11_mostOf_55 : decode cX11_mostOf 55 = .ok (.iconst 0, 1) := by decide +kernel
theorem dX11_mostOf_56 : decode cX11_mostOf 56 = .ok (.iaload, 1) := by decide +kernel
theorem dX11_mostOf_57 : decode cX11_mostOf 57 = .ok (.if_icmp .ge 87, 3) := by decide +kernel
theorem dX11_mostOf_60 : decode cX11_mostOf 60 = .ok (.iconst 0, 1) := by decide +kernel
theorem dX11_mostOf_61 : decode cX11_mostOf 61 = .ok (.istore 6, 2) := by decide +kernel
theorem dX11_mostOf_63 : decode cX11_mostOf 63 = .ok (.iload 6, 2) := by decide +kernel
theorem dX11_mostOf_65 : decode cX11_mostOf 65 = .ok (.aload_n 0, 1) := by decide +kernel
theorem dX11_mostOf_66 : decode cX11_mostOf 66 = .ok (.getfield 20, 3) := by decide +kernel
theorem dX11_mostOf_69 : decode cX11_mostOf 69 = .ok (.iconst 3, 1) := by decide +kernel
theorem dX11_mostOf_70 : decode cX11_mostOf 70 = .ok (.iaload, 1) := by decide +kernel
theorem dX11_mostOf_71 : decode cX11_mostOf 71 = .ok (.if_icmp .ge 67, 3) := by decide +kernel
theorem dX11_mostOf_74 : decode cX11_mostOf 74 = .ok (.aload_n 0, 1) := by decide +kernel
theorem dX11_mostOf_75 : decode cX11_mostOf 75 = .ok (.iload_n 2, 1) := by decide +kernel
theorem dX11_mostOf_76 : decode cX11_mostOf 76 = .ok (.iload 5, 2) := by decide +kernel
theorem dX11_mostOf_78 : decode cX11_mostOf 78 = .ok (.iload 6, 2) := by decide +kernel
theorem dX11_mostOf_80 : decode cX11_mostOf 80 = .ok (.aload_n 0, 1) := by decide +kernel
theorem dX11_mostOf_81 : decode cX11_mostOf 81 = .ok (.getfield 20, 3) := by decide +kernel
theorem dX11_mostOf_84 : decode cX11_mostOf 84 = .ok (.sipush 295, 3) := by decide +kernel
theorem dX11_mostOf_87 : decode cX11_mostOf 87 = .ok (.iload_n 1, 1) := by decide +kernel
theorem dX11_mostOf_88 : decode cX11_mostOf 88 = .ok (.iadd, 1) := by decide +kernel
theorem dX11_mostOf_89 : decode cX11_mostOf 89 = .ok (.iaload, 1) := by decide +kernel
theorem dX11_mostOf_90 : decode cX11_mostOf 90 = .ok (.invokevirtual 325, 3) := by decide +kernel
theorem dX11_mostOf_93 : decode cX11_mostOf 93 = .ok (.istore 7, 2) := by decide +kernel
theorem dX11_mostOf_95 : decode cX11_mostOf 95 = .ok (.iload 7, 2) := by decide +kernel
theorem dX11_mostOf_97 : decode cX11_mostOf 97 = .ok (.ifCond .ge 6, 3) := by decide +kernel
theorem dX11_mostOf_100 : decode cX11_mostOf 100 = .ok (.goto 32, 3) := by decide +kernel
theorem dX11_mostOf_103 : decode cX11_mostOf 103 = .ok (.iconst 1, 1) := by decide +kernel
theorem dX11_mostOf_104 : decode cX11_mostOf 104 = .ok (.aload_n 0, 1) := by decide +kernel
theorem dX11_mostOf_105 : decode cX11_mostOf 105 = .ok (.iload_n 1, 1) := by decide +kernel
theorem dX11_mostOf_106 : decode cX11_mostOf 106 = .ok (.iconst 1, 1) := by decide +kernel
theorem dX11_mostOf_107 : decode cX11_mostOf 107 = .ok (.iadd, 1) := by decide +kernel
theorem dX11_mostOf_108 : decode cX11_mostOf 108 = .ok (.iload 7, 2) := by decide +kernel
theorem dX11_mostOf_110 : decode cX11_mostOf 110 = .ok (.invokevirtual 322, 3) := by decide +kernel
theorem dX11_mostOf_113 : decode cX11_mostOf 113 = .ok (.iadd, 1) := by decide +kernel
theorem dX11_mostOf_114 : decode cX11_mostOf 114 = .ok (.istore 8, 2) := by decide +kernel
theorem dX11_mostOf_116 : decode cX11_mostOf 116 = .ok (.iload 8, 2) := by decide +kernel
theorem dX11_mostOf_118 : decode cX11_mostOf 118 = .ok (.iload 4, 2) := by decide +kernel
theorem dX11_mostOf_120 : decode cX11_mostOf 120 = .ok (.if_icmp .le 8, 3) := by decide +kernel
theorem dX11_mostOf_123 : decode cX11_mostOf 123 = .ok (.iload 8, 2) := by decide +kernel
theorem dX11_mostOf_125 : decode cX11_mostOf 125 = .ok (.goto 5, 3) := by decide +kernel
theorem dX11_mostOf_128 : decode cX11_mostOf 128 = .ok (.iload 4, 2) := by decide +kernel
theorem dX11_mostOf_130 : decode cX11_mostOf 130 = .ok (.istore 4, 2) := by decide +kernel
theorem dX11_mostOf_132 : decode cX11_mostOf 132 = .ok (.iinc 6 1, 3) := by decide +kernel
theorem dX11_mostOf_135 : decode cX11_mostOf 135 = .ok (.goto (-72), 3) := by decide +kernel
theorem dX11_mostOf_138 : decode cX11_mostOf 138 = .ok (.iinc 5 1, 3) := by decide +kernel
theorem dX11_mostOf_141 : decode cX11_mostOf 141 = .ok (.goto (-92), 3) := by decide +kernel
theorem dX11_mostOf_144 : decode cX11_mostOf 144 = .ok (.aload_n 0, 1) := by decide +kernel
theorem dX11_mostOf_145 : decode cX11_mostOf 145 = .ok (.getfield 60, 3) := by decide +kernel
theorem dX11_mostOf_148 : decode cX11_mostOf 148 = .ok (.iload_n 3, 1) := by decide +kernel
theorem dX11_mostOf_149 : decode cX11_mostOf 149 = .ok (.iload 4, 2) := by decide +kernel
theorem dX11_mostOf_151 : decode cX11_mostOf 151 = .ok (.iastore, 1) := by decide +kernel
theorem dX11_mostOf_152 : decode cX11_mostOf 152 = .ok (.iload 4, 2) := by decide +kernel
theorem dX11_mostOf_154 : decode cX11_mostOf 154 = .ok (.ireturn, 1) := by decide +kernel
theorem dX11_seated_0 : decode cX11_seated 0 = .ok (.iconst (-1), 1) := by decide +kernel
theorem dX11_seated_1 : decode cX11_seated 1 = .ok (.istore 4, 2) := by decide +kernel
theorem dX11_seated_3 : decode cX11_seated 3 = .ok (.iconst 0, 1) := by decide +kernel
theorem dX11_seated_4 : decode cX11_seated 4 = .ok (.istore 5, 2) := by decide +kernel
theorem dX11_seated_6 : decode cX11_seated 6 = .ok (.iconst 0, 1) := by decide +kernel
theorem dX11_seated_7 : decode cX11_seated 7 = .ok (.istore 6, 2) := by decide +kernel
theorem dX11_seated_9 : decode cX11_seated 9 = .ok (.iload 6, 2) := by decide +kernel
theorem dX11_seated_11 : decode cX11_seated 11 = .ok (.aload_n 0, 1) := by decide +kernel
theorem dX11_seated_12 : decode cX11_seated 12 = .ok (.getfield 20, 3) := by decide +kernel
theorem dX11_seated_15 : decode cX11_seated 15 = .ok (.iconst 0, 1) := by decide +kernel
theorem dX11_seated_16 : decode cX11_seated 16 = .ok (.iaload, 1) := by decide +kernel
theorem dX11_seated_17 : decode cX11_seated 17 = .ok (.if_icmp .ge 167, 3) := by decide +kernel
theorem dX11_seated_20 : decode cX11_seated 20 = .ok (.iconst 0, 1) := by decide +kernel
theorem dX11_seated_21 : decode cX11_seated 21 = .ok (.istore 7, 2) := by decide +kernel
theorem dX11_seated_23 : decode cX11_seated 23 = .ok (.iload 7, 2) := by decide +kernel
theorem dX11_seated_25 : decode cX11_seated 25 = .ok (.aload_n 0, 1) := by decide +kernel
theorem dX11_seated_26 : decode cX11_seated 26 = .ok (.getfield 20, 3) := by decide +kernel
theorem dX11_seated_29 : decode cX11_seated 29 = .ok (.iconst 3, 1) := by decide +kernel
theorem dX11_seated_30 : decode cX11_seated 30 = .ok (.iaload, 1) := by decide +kernel
theorem dX11_seated_31 : decode cX11_seated 31 = .ok (.if_icmp .ge 147, 3) := by decide +kernel
theorem dX11_seated_34 : decode cX11_seated 34 = .ok (.aload_n 0, 1) := by decide +kernel
theorem dX11_seated_35 : decode cX11_seated 35 = .ok (.iload_n 3, 1) := by decide +kernel
theorem dX11_seated_36 : decode cX11_seated 36 = .ok (.iload 6, 2) := by decide +kernel
theorem dX11_seated_38 : decode cX11_seated 38 = .ok (.iload 7, 2) := by decide +kernel
theorem dX11_seated_40 : decode cX11_seated 40 = .ok (.aload_n 0, 1) := by decide +kernel
theorem dX11_seated_41 : decode cX11_seated 41 = .ok (.getfield 20, 3) := by decide +kernel
theorem dX11_seated_44 : decode cX11_seated 44 = .ok (.sipush 295, 3) := by decide +kernel
theorem dX11_seated_47 : decode cX11_seated 47 = .ok (.iload_n 2, 1) := by decide +kernel
theorem dX11_seated_48 : decode cX11_seated 48 = .ok (.iadd, 1) := by decide +kernel
theorem dX11_seated_49 : decode cX11_seated 49 = .ok (.iaload, 1) := by decide +kernel
theorem dX11_seated_50 : decode cX11_seated 50 = .ok (.invokevirtual 325, 3) := by decide +kernel
theorem dX11_seated_53 : decode cX11_seated 53 = .ok (.istore 8, 2) := by decide +kernel
theorem dX11_seated_55 : decode cX11_seated 55 = .ok (.iload 8, 2) := by decide +kernel
theorem dX11_seated_57 : decode cX11_seated 57 = .ok (.ifCond .ge 6, 3) := by decide +kernel
theorem dX11_seated_60 : decode cX11_seated 60 = .ok (.goto 112, 3) := by decide +kernel
theorem dX11_seated_63 : decode cX11_seated 63 = .ok (.iload_n 3, 1) := by decide +kernel
theorem dX11_seated_64 : decode cX11_seated 64 = .ok (.iload 6, 2) := by decide +kernel
theorem dX11_seated_66 : decode cX11_seated 66 = .ok (.invokestatic 315, 3) := by decide +kernel
theorem dX11_seated_69 : decode cX11_seated 69 = .ok (.istore 9, 2) := by decide +kernel
theorem dX11_seated_71 : decode cX11_seated 71 = .ok (.iload_n 1, 1) := by decide +kernel
theorem dX11_seated_72 : decode cX11_seated 72 = .ok (.ifCond .ne 7, 3) := by decide +kernel
theorem dX11_seated_75 : decode cX11_seated 75 = .ok (.iconst 0, 1) := by decide +kernel
theorem dX11_seated_76 : decode cX11_seated 76 = .ok (.goto 71, 3) := by decide +kernel
theorem dX11_seated_79 : decode cX11_seated 79 = .ok (.iload_n 1, 1) := by decide +kernel
theorem dX11_seated_80 : decode cX11_seated 80 = .ok (.iconst 1, 1) := by decide +kernel
theorem dX11_seated_81 : decode cX11_seated 81 = .ok (.if_icmp .ne 13, 3) := by decide +kernel
theorem dX11_seated_84 : decode cX11_seated 84 = .ok (.aload_n 0, 1) := by decide +kernel
theorem dX11_seated_85 : decode cX11_seated 85 = .ok (.getfield 35, 3) := by decide +kernel
theorem dX11_seated_88 : decode cX11_seated 88 = .ok (.iload 7, 2) := by decide +kernel
theorem dX11_seated_90 : decode cX11_seated 90 = .ok (.iaload, 1) := by decide +kernel
theorem dX11_seated_91 : decode cX11_seated 91 = .ok (.goto 56, 3) := by decide +kernel
theorem dX11_seated_94 : decode cX11_seated 94 = .ok (.iload_n 1, 1) := by decide +kernel
theorem dX11_seated_95 : decode cX11_seated 95 = .ok (.iconst 2, 1) := by decide +kernel
theorem dX11_seated_96 : decode cX11_seated 96 = .ok (.if_icmp .ne 40, 3) := by decide +kernel
theorem dX11_seated_99 : decode cX11_seated 99 = .ok (.aload_n 0, 1) := by decide +kernel
theorem dX11_seated_100 : decode cX11_seated 100 = .ok (.getfield 20, 3) := by decide +kernel
theorem dX11_seated_103 : decode cX11_seated 103 = .ok (.sipush 175, 3) := by decide +kernel
theorem dX11_seated_106 : decode cX11_seated 106 = .ok (.iload 7, 2) := by decide +kernel
theorem dX11_seated_108 : decode cX11_seated 108 = .ok (.iadd, 1) := by decide +kernel
theorem dX11_seated_109 : decode cX11_seated 109 = .ok (.iaload, 1) := by decide +kernel
theorem dX11_seated_110 : decode cX11_seated 110 = .ok (.iload 9, 2) := by decide +kernel
theorem dX11_seated_112 : decode cX11_seated 112 = .ok (.bipush 24, 2) := by decide +kernel
theorem dX11_seated_114 : decode cX11_seated 114 = .ok (.if_icmp .ne 7, 3) := by decide +kernel
theorem dX11_seated_117 : decode cX11_seated 117 = .ok (.iconst 0, 1) := by decide +kernel
theorem dX11_seated_118 : decode cX11_seated 118 = .ok (.goto 14, 3) := by decide +kernel
theorem dX11_seated_121 : decode cX11_seated 121 = .ok (.aload_n 0, 1) := by decide +kernel
theorem dX11_seated_122 : decode cX11_seated 122 = .ok (.getfield 20, 3) := by decide +kernel
theorem dX11_seated_125 : decode cX11_seated 125 = .ok (.sipush 175, 3) := by decide +kernel
theorem dX11_seated_128 : decode cX11_seated 128 = .ok (.iload 9, 2) := by decide +kernel
theorem dX11_seated_130 : decode cX11_seated 130 = .ok (.iadd, 1) := by decide +kernel
theorem dX11_seated_131 : decode cX11_seated 131 = .ok (.iaload, 1) := by decide +kernel
theorem dX11_seated_132 : decode cX11_seated 132 = .ok (.isub, 1) := by decide +kernel
theorem dX11_seated_133 : decode cX11_seated 133 = .ok (.goto 14, 3) := by decide +kernel
theorem dX11_seated_136 : decode cX11_seated 136 = .ok (.iconst 1, 1) := by decide +kernel
theorem dX11_seated_137 : decode cX11_seated 137 = .ok (.aload_n 0, 1) := by decide +kernel
theorem dX11_seated_138 : decode cX11_seated 138 = .ok (.iload_n 2, 1) := by decide +kernel
theorem dX11_seated_139 : decode cX11_seated 139 = .ok (.iconst 1, 1) := by decide +kernel
theorem dX11_seated_140 : decode cX11_seated 140 = .ok (.iadd, 1) := by decide +kernel
theorem dX11_seated_141 : decode cX11_seated 141 = .ok (.iload 8, 2) := by decide +kernel
theorem dX11_seated_143 : decode cX11_seated 143 = .ok (.invokevirtual 322, 3) := by decide +kernel
theorem dX11_seated_146 : decode cX11_seated 146 = .ok (.iadd, 1) := by decide +kernel
theorem dX11_seated_147 : decode cX11_seated 147 = .ok (.istore 10, 2) := by decide +kernel
theorem dX11_seated_149 : decode cX11_seated 149 = .ok (.iload 4, 2) := by decide +kernel
theorem dX11_seated_151 : decode cX11_seated 151 = .ok (.ifCond .lt 13, 3) := by decide +kernel
theorem dX11_seated_154 : decode cX11_seated 154 = .ok (.iload 10, 2) := by decide +kernel
theorem dX11_seated_156 : decode cX11_seated 156 = .ok (.iload 5, 2) := by decide +kernel
theorem dX11_seated_158 : decode cX11_seated 158 = .ok (.if_icmp .gt 6, 3) := by decide +kernel
theorem dX11_seated_161 : decode cX11_seated 161 = .ok (.goto 11, 3) := by decide +kernel
theorem dX11_seated_164 : decode cX11_seated 164 = .ok (.iload 8, 2) := by decide +kernel
theorem dX11_seated_166 : decode cX11_seated 166 = .ok (.istore 4, 2) := by decide +kernel
theorem dX11_seated_168 : decode cX11_seated 168 = .ok (.iload 10, 2) := by decide +kernel
theorem dX11_seated_170 : decode cX11_seated 170 = .ok (.istore 5, 2) := by decide +kernel
theorem dX11_seated_172 : decode cX11_seated 172 = .ok (.iinc 7 1, 3) := by decide +kernel
theorem dX11_seated_175 : decode cX11_seated 175 = .ok (.goto (-152), 3) := by decide +kernel
theorem dX11_seated_178 : decode cX11_seated 178 = .ok (.iinc 6 1, 3) := by decide +kernel
theorem dX11_seated_181 : decode cX11_seated 181 = .ok (.goto (-172), 3) := by decide +kernel
theorem dX11_seated_184 : decode cX11_seated 184 = .ok (.iload_n 1, 1) := by decide +kernel
theorem dX11_seated_185 : decode cX11_seated 185 = .ok (.iconst 3, 1) := by decide +kernel
theorem dX11_seated_186 : decode cX11_seated 186 = .ok (.if_icmp .ne 25, 3) := by decide +kernel
theorem dX11_seated_189 : decode cX11_seated 189 = .ok (.iload 4, 2) := by decide +kernel
theorem dX11_seated_191 : decode cX11_seated 191 = .ok (.ifCond .lt 20, 3) := by decide +kernel
theorem dX11_seated_194 : decode cX11_seated 194 = .ok (.aload_n 0, 1) := by decide +kernel
theorem dX11_seated_195 : decode cX11_seated 195 = .ok (.iload_n 2, 1) := by decide +kernel
theorem dX11_seated_196 : decode cX11_seated 196 = .ok (.iconst 1, 1) := by decide +kernel
theorem dX11_seated_197 : decode cX11_seated 197 = .ok (.iadd, 1) := by decide +kernel
theorem dX11_seated_198 : decode cX11_seated 198 = .ok (.iload_n 3, 1) := by decide +kernel
theorem dX11_seated_199 : decode cX11_seated 199 = .ok (.invokevirtual 322, 3) := by decide +kernel
theorem dX11_seated_202 : decode cX11_seated 202 = .ok (.iload 5, 2) := by decide +kernel
theorem dX11_seated_204 : decode cX11_seated 204 = .ok (.if_icmp .le 7, 3) := by decide +kernel
theorem dX11_seated_207 : decode cX11_seated 207 = .ok (.iconst (-1), 1) := by decide +kernel
theorem dX11_seated_208 : decode cX11_seated 208 = .ok (.goto 5, 3) := by decide +kernel
theorem dX11_seated_211 : decode cX11_seated 211 = .ok (.iload 4, 2) := by decide +kernel
theorem dX11_seated_213 : decode cX11_seated 213 = .ok (.ireturn, 1) := by decide +kernel
theorem dX11_laysTables_0 : decode cX11_laysTables 0 = .ok (.iconst 0, 1) := by decide +kernel
theorem dX11_laysTables_1 : decode cX11_laysTables 1 = .ok (.istore_n 2, 1) := by decide +kernel
theorem dX11_laysTables_2 : decode cX11_laysTables 2 = .ok (.iload_n 2, 1) := by decide +kernel
theorem dX11_laysTables_3 : decode cX11_laysTables 3 = .ok (.iconst 3, 1) := by decide +kernel
theorem dX11_laysTables_4 : decode cX11_laysTables 4 = .ok (.if_icmp .ge 20, 3) := by decide +kernel
theorem dX11_laysTables_7 : decode cX11_laysTables 7 = .ok (.aload_n 0, 1) := by decide +kernel
theorem dX11_laysTables_8 : decode cX11_laysTables 8 = .ok (.getfield 26, 3) := by decide +kernel
theorem dX11_laysTables_11 : decode cX11_laysTables 11 = .ok (.iload_n 2, 1) := by decide +kernel
theorem dX11_laysTables_12 : decode cX11_laysTables 12 = .ok (.iload_n 1, 1) := by decide +kernel
theorem dX11_laysTables_13 : decode cX11_laysTables 13 = .ok (.iload_n 2, 1) := by decide +kernel
theorem dX11_laysTables_14 : decode cX11_laysTables 14 = .ok (.invokestatic 315, 3) := by decide +kernel
theorem dX11_laysTables_17 : decode cX11_laysTables 17 = .ok (.iastore, 1) := by decide +kernel
theorem dX11_laysTables_18 : decode cX11_laysTables 18 = .ok (.iinc 2 1, 3) := by decide +kernel
theorem dX11_laysTables_21 : decode cX11_laysTables 21 = .ok (.goto (-19), 3) := by decide +kernel
theorem dX11_laysTables_24 : decode cX11_laysTables 24 = .ok (.return_, 1) := by decide +kernel
theorem dX11_come_0 : decode cX11_come 0 = .ok (.aload_n 0, 1) := by decide +kernel
theorem dX11_come_1 : decode cX11_come 1 = .ok (.invokevirtual 155, 3) := by decide +kernel
theorem dX11_come_4 : decode cX11_come 4 = .ok (.aload_n 0, 1) := by decide +kernel
theorem dX11_come_5 : decode cX11_come 5 = .ok (.getfield 164, 3) := by decide +kernel
theorem dX11_come_8 : decode cX11_come 8 = .ok (.ifCond .ne 9, 3) := by decide +kernel
theorem dX11_come_11 : decode cX11_come 11 = .ok (.aload_n 0, 1) := by decide +kernel
theorem dX11_come_12 : decode cX11_come 12 = .ok (.iconst 1, 1) := by decide +kernel
theorem dX11_come_13 : decode cX11_come 13 = .ok (.invokevirtual 158, 3) := by decide +kernel
theorem dX11_come_16 : decode cX11_come 16 = .ok (.ireturn, 1) := by decide +kernel
theorem dX11_come_17 : decode cX11_come 17 = .ok (.iload_n 1, 1) := by decide +kernel
theorem dX11_come_18 : decode cX11_come 18 = .ok (.iconst 1, 1) := by decide +kernel
theorem dX11_come_19 : decode cX11_come 19 = .ok (.bipush 8, 2) := by decide +kernel
theorem dX11_come_21 : decode cX11_come 21 = .ok (.invokestatic 143, 3) := by decide +kernel
theorem dX11_come_24 : decode cX11_come 24 = .ok (.ifCond .ne 9, 3) := by decide +kernel
theorem dX11_come_27 : decode cX11_come 27 = .ok (.aload_n 0, 1) := by decide +kernel
theorem dX11_come_28 : decode cX11_come 28 = .ok (.iconst 2, 1) := by decide +kernel
theorem dX11_come_29 : decode cX11_come 29 = .ok (.invokevirtual 158, 3) := by decide +kernel
theorem dX11_come_32 : decode cX11_come 32 = .ok (.ireturn, 1) := by decide +kernel
theorem dX11_come_33 : decode cX11_come 33 = .ok (.aload_n 0, 1) := by decide +kernel
theorem dX11_come_34 : decode cX11_come 34 = .ok (.getfield 26, 3) := by decide +kernel
theorem dX11_come_37 : decode cX11_come 37 = .ok (.iconst 4, 1) := by decide +kernel
theorem dX11_come_38 : decode cX11_come 38 = .ok (.iaload, 1) := by decide +kernel
theorem dX11_come_39 : decode cX11_come 39 = .ok (.aload_n 0, 1) := by decide +kernel
theorem dX11_come_40 : decode cX11_come 40 = .ok (.getfield 20, 3) := by decide +kernel
theorem dX11_come_43 : decode cX11_come 43 = .ok (.iconst 4, 1) := by decide +kernel
theorem dX11_come_44 : decode cX11_come 44 = .ok (.iaload, 1) := by decide +kernel
theorem dX11_come_45 : decode cX11_come 45 = .ok (.if_icmp .ne 10, 3) := by decide +kernel
theorem dX11_come_48 : decode cX11_come 48 = .ok (.aload_n 0, 1) := by decide +kernel
theorem dX11_come_49 : decode cX11_come 49 = .ok (.bipush 6, 2) := by decide +kernel
theorem dX11_come_51 : decode cX11_come 51 = .ok (.invokevirtual 158, 3) := by decide +kernel
theorem dX11_come_54 : decode cX11_come 54 = .ok (.ireturn, 1) := by decide +kernel
theorem dX11_come_55 : decode cX11_come 55 = .ok (.aload_n 0, 1) := by decide +kernel
theorem dX11_come_56 : decode cX11_come 56 = .ok (.invokevirtual 328, 3) := by decide +kernel
theorem dX11_come_59 : decode cX11_come 59 = .ok (.iconst 0, 1) := by decide +kernel
theorem dX11_come_60 : decode cX11_come 60 = .ok (.istore_n 2, 1) := by decide +kernel
theorem dX11_come_61 : decode cX11_come 61 = .ok (.iload_n 2, 1) := by decide +kernel
theorem dX11_come_62 : decode cX11_come 62 = .ok (.iload_n 1, 1) := by decide +kernel
theorem dX11_come_63 : decode cX11_come 63 = .ok (.if_icmp .ge 84, 3) := by decide +kernel
theorem dX11_come_66 : decode cX11_come 66 = .ok (.aload_n 0, 1) := by decide +kernel
theorem dX11_come_67 : decode cX11_come 67 = .ok (.getfield 26, 3) := by decide +kernel
theorem dX11_come_70 : decode cX11_come 70 = .ok (.iconst 4, 1) := by decide +kernel
theorem dX11_come_71 : decode cX11_come 71 = .ok (.iaload, 1) := by decide +kernel
theorem dX11_come_72 : decode cX11_come 72 = .ok (.aload_n 0, 1) := by decide +kernel
theorem dX11_come_73 : decode cX11_come 73 = .ok (.getfield 20, 3) := by decide +kernel
theorem dX11_come_76 : decode cX11_come 76 = .ok (.iconst 4, 1) := by decide +kernel
theorem dX11_come_77 : decode cX11_come 77 = .ok (.iaload, 1) := by decide +kernel
theorem dX11_come_78 : decode cX11_come 78 = .ok (.if_icmp .ge 69, 3) := by decide +kernel
theorem dX11_come_81 : decode cX11_come 81 = .ok (.aload_n 0, 1) := by decide +kernel
theorem dX11_come_82 : decode cX11_come 82 = .ok (.aload_n 0, 1) := by decide +kernel
theorem dX11_come_83 : decode cX11_come 83 = .ok (.getfield 26, 3) := by decide +kernel
theorem dX11_come_86 : decode cX11_come 86 = .ok (.iconst 3, 1) := by decide +kernel
theorem dX11_come_87 : decode cX11_come 87 = .ok (.iaload, 1) := by decide +kernel
theorem dX11_come_88 : decode cX11_come 88 = .ok (.aload_n 0, 1) := by decide +kernel
theorem dX11_come_89 : decode cX11_come 89 = .ok (.getfield 26, 3) := by decide +kernel
theorem dX11_come_92 : decode cX11_come 92 = .ok (.iconst 4, 1) := by decide +kernel
theorem dX11_come_93 : decode cX11_come 93 = .ok (.iaload, 1) := by decide +kernel
theorem dX11_come_94 : decode cX11_come 94 = .ok (.aload_n 0, 1) := by decide +kernel
theorem dX11_come_95 : decode cX11_come 95 = .ok (.invokevirtual 331, 3) := by decide +kernel
theorem dX11_come_98 : decode cX11_come 98 = .ok (.invokevirtual 334, 3) := by decide +kernel
theorem dX11_come_101 : decode cX11_come 101 = .ok (.istore_n 3, 1) := by decide +kernel
theorem dX11_come_102 : decode cX11_come 102 = .ok (.iload_n 3, 1) := by decide +kernel
theorem dX11_come_103 : decode cX11_come 103 = .ok (.ifCond .ge 23, 3) := by decide +kernel
theorem dX11_come_106 : decode cX11_come 106 = .ok (.aload_n 0, 1) := by decide +kernel
theorem dX11_come_107 : decode cX11_come 107 = .ok (.getfield 26, 3) := by decide +kernel
theorem dX11_come_110 : decode cX11_come 110 = .ok (.iconst 5, 1) := by decide +kernel
theorem dX11_come_111 : decode cX11_come 111 = .ok (.dup2, 1) := by decide +kernel
theorem dX11_come_112 : decode cX11_come 112 = .ok (.iaload, 1) := by decide +kernel
theorem dX11_come_113 : decode cX11_come 113 = .ok (.iconst 1, 1) := by decide +kernel
theorem dX11_come_114 : decode cX11_come 114 = .ok (.aload_n 0, 1) := by decide +kernel
theorem dX11_come_115 : decode cX11_come 115 = .ok (.getfield 26, 3) := by decide +kernel
theorem dX11_come_118 : decode cX11_come 118 = .ok (.iconst 4, 1) := by decide +kernel
theorem dX11_come_119 : decode cX11_come 119 = .ok (.iaload, 1) := by decide +kernel
theorem dX11_come_120 : decode cX11_come 120 = .ok (.ishl, 1) := by decide +kernel
theorem dX11_come_121 : decode cX11_come 121 = .ok (.ior, 1) := by decide +kernel
theorem dX11_come_122 : decode cX11_come 122 = .ok (.iastore, 1) := by decide +kernel
theorem dX11_come_123 : decode cX11_come 123 = .ok (.goto 8, 3) := by decide +kernel
theorem dX11_come_126 : decode cX11_come 126 = .ok (.aload_n 0, 1) := by decide +kernel
theorem dX11_come_127 : decode cX11_come 127 = .ok (.iload_n 3, 1) := by decide +kernel
theorem dX11_come_128 : decode cX11_come 128 = .ok (.invokevirtual 337, 3) := by decide +kernel
theorem dX11_come_131 : decode cX11_come 131 = .ok (.aload_n 0, 1) := by decide +kernel
theorem dX11_come_132 : decode cX11_come 132 = .ok (.getfield 26, 3) := by decide +kernel
theorem dX11_come_135 : decode cX11_come 135 = .ok (.iconst 4, 1) := by decide +kernel
theorem dX11_come_136 : decode cX11_come 136 = .ok (.dup2, 1) := by decide +kernel
theorem dX11_come_137 : decode cX11_come 137 = .ok (.iaload, 1) := by decide +kernel
theorem dX11_come_138 : decode cX11_come 138 = .ok (.iconst 1, 1) := by decide +kernel
theorem dX11_come_139 : decode cX11_come 139 = .ok (.iadd, 1) := by decide +kernel
theorem dX11_come_140 : decode cX11_come 140 = .ok (.iastore, 1) := by decide +kernel
theorem dX11_come_141 : decode cX11_come 141 = .ok (.iinc 2 1, 3) := by decide +kernel
theorem dX11_come_144 : decode cX11_come 144 = .ok (.goto (-83), 3) := by decide +kernel
theorem dX11_come_147 : decode cX11_come 147 = .ok (.iload_n 2, 1) := by decide +kernel
theorem dX11_come_148 : decode cX11_come 148 = .ok (.ireturn, 1) := by decide +kernel
theorem dX11_seat_0 : decode cX11_seat 0 = .ok (.aload_n 0, 1) := by decide +kernel
theorem dX11_seat_1 : decode cX11_seat 1 = .ok (.invokevirtual 155, 3) := by decide +kernel
theorem dX11_seat_4 : decode cX11_seat 4 = .ok (.aload_n 0, 1) := by decide +kernel
theorem dX11_seat_5 : decode cX11_seat 5 = .ok (.iload_n 1, 1) := by decide +kernel
theorem dX11_seat_6 : decode cX11_seat 6 = .ok (.invokevirtual 309, 3) := by decide +kernel
theorem dX11_seat_9 : decode cX11_seat 9 = .ok (.ifCond .eq 11, 3) := by decide +kernel
theorem dX11_seat_12 : decode cX11_seat 12 = .ok (.aload_n 0, 1) := by decide +kernel
theorem dX11_seat_13 : decode cX11_seat 13 = .ok (.iload_n 2, 1) := by decide +kernel
theorem dX11_seat_14 : decode cX11_seat 14 = .ok (.invokevirtual 249, 3) := by decide +kernel
theorem dX11_seat_17 : decode cX11_seat 17 = .ok (.ifCond .ne 9, 3) := by decide +kernel
theorem dX11_seat_20 : decode cX11_seat 20 = .ok (.aload_n 0, 1) := by decide +kernel
theorem dX11_seat_21 : decode cX11_seat 21 = .ok (.iconst 1, 1) := by decide +kernel
theorem dX11_seat_22 : decode cX11_seat 22 = .ok (.invokevirtual 312, 3) := by decide +kernel
theorem dX11_seat_25 : decode cX11_seat 25 = .ok (.ireturn, 1) := by decide +kernel
theorem dX11_seat_26 : decode cX11_seat 26 = .ok (.aload_n 0, 1) := by decide +kernel
theorem dX11_seat_27 : decode cX11_seat 27 = .ok (.getfield 26, 3) := by decide +kernel
theorem dX11_seat_30 : decode cX11_seat 30 = .ok (.iconst 4, 1) := by decide +kernel
theorem dX11_seat_31 : decode cX11_seat 31 = .ok (.iaload, 1) := by decide +kernel
theorem dX11_seat_32 : decode cX11_seat 32 = .ok (.aload_n 0, 1) := by decide +kernel
theorem dX11_seat_33 : decode cX11_seat 33 = .ok (.getfield 20, 3) := by decide +kernel
theorem dX11_seat_36 : decode cX11_seat 36 = .ok (.iconst 4, 1) := by decide +kernel
theorem dX11_seat_37 : decode cX11_seat 37 = .ok (.iaload, 1) := by decide +kernel
theorem dX11_seat_38 : decode cX11_seat 38 = .ok (.if_icmp .ne 10, 3) := by decide +kernel
theorem dX11_seat_41 : decode cX11_seat 41 = .ok (.aload_n 0, 1) := by decide +kernel
theorem dX11_seat_42 : decode cX11_seat 42 = .ok (.bipush 6, 2) := by decide +kernel
theorem dX11_seat_44 : decode cX11_seat 44 = .ok (.invokevirtual 312, 3) := by decide +kernel
theorem dX11_seat_47 : decode cX11_seat 47 = .ok (.ireturn, 1) := by decide +kernel
theorem dX11_seat_48 : decode cX11_seat 48 = .ok (.aload_n 0, 1) := by decide +kernel
theorem dX11_seat_49 : decode cX11_seat 49 = .ok (.aload_n 0, 1) := by decide +kernel
theorem dX11_seat_50 : decode cX11_seat 50 = .ok (.invokevirtual 331, 3) := by decide +kernel
theorem dX11_seat_53 : decode cX11_seat 53 = .ok (.iload_n 1, 1) := by decide +kernel
theorem dX11_seat_54 : decode cX11_seat 54 = .ok (.iload_n 2, 1) := by decide +kernel
theorem dX11_seat_55 : decode cX11_seat 55 = .ok (.aload_n 0, 1) := by decide +kernel
theorem dX11_seat_56 : decode cX11_seat 56 = .ok (.getfield 20, 3) := by decide +kernel
theorem dX11_seat_59 : decode cX11_seat 59 = .ok (.sipush 295, 3) := by decide +kernel
theorem dX11_seat_62 : decode cX11_seat 62 = .ok (.aload_n 0, 1) := by decide +kernel
theorem dX11_seat_63 : decode cX11_seat 63 = .ok (.getfield 26, 3) := by decide +kernel
theorem dX11_seat_66 : decode cX11_seat 66 = .ok (.iconst 4, 1) := by decide +kernel
theorem dX11_seat_67 : decode cX11_seat 67 = .ok (.iaload, 1) := by decide +kernel
theorem dX11_seat_68 : decode cX11_seat 68 = .ok (.iadd, 1) := by decide +kernel
theorem dX11_seat_69 : decode cX11_seat 69 = .ok (.iaload, 1) := by decide +kernel
theorem dX11_seat_70 : decode cX11_seat 70 = .ok (.invokevirtual 325, 3) := by decide +kernel
theorem dX11_seat_73 : decode cX11_seat 73 = .ok (.istore_n 3, 1) := by decide +kernel
theorem dX11_seat_74 : decode cX11_seat 74 = .ok (.iload_n 3, 1) := by decide +kernel
theorem dX11_seat_75 : decode cX11_seat 75 = .ok (.ifCond .ge 9, 3) := by decide +kernel
theorem dX11_seat_78 : decode cX11_seat 78 = .ok (.aload_n 0, 1) := by decide +kernel
theorem dX11_seat_79 : decode cX11_seat 79 = .ok (.iconst 5, 1) := by decide +kernel
theorem dX11_seat_80 : decode cX11_seat 80 = .ok (.invokevirtual 312, 3) := by decide +kernel
theorem dX11_seat_83 : decode cX11_seat 83 = .ok (.ireturn, 1) := by decide +kernel
theorem dX11_seat_84 : decode cX11_seat 84 = .ok (.aload_n 0, 1) := by decide +kernel
theorem dX11_seat_85 : decode cX11_seat 85 = .ok (.iload_n 3, 1) := by decide +kernel
theorem dX11_seat_86 : decode cX11_seat 86 = .ok (.invokevirtual 337, 3) := by decide +kernel
theorem dX11_seat_89 : decode cX11_seat 89 = .ok (.aload_n 0, 1) := by decide +kernel
theorem dX11_seat_90 : decode cX11_seat 90 = .ok (.getfield 26, 3) := by decide +kernel
theorem dX11_seat_93 : decode cX11_seat 93 = .ok (.iconst 4, 1) := by decide +kernel
theorem dX11_seat_94 : decode cX11_seat 94 = .ok (.dup2, 1) := by decide +kernel
theorem dX11_seat_95 : decode cX11_seat 95 = .ok (.iaload, 1) := by decide +kernel
theorem dX11_seat_96 : decode cX11_seat 96 = .ok (.iconst 1, 1) := by decide +kernel
theorem dX11_seat_97 : decode cX11_seat 97 = .ok (.iadd, 1) := by decide +kernel
theorem dX11_seat_98 : decode cX11_seat 98 = .ok (.iastore, 1) := by decide +kernel
theorem dX11_seat_99 : decode cX11_seat 99 = .ok (.iconst 1, 1) := by decide +kernel
theorem dX11_seat_100 : decode cX11_seat 100 = .ok (.ireturn, 1) := by decide +kernel
theorem dX11_stand_0 : decode cX11_stand 0 = .ok (.aload_n 0, 1) := by decide +kernel
theorem dX11_stand_1 : decode cX11_stand 1 = .ok (.invokevirtual 155, 3) := by decide +kernel
theorem dX11_stand_4 : decode cX11_stand 4 = .ok (.aload_n 0, 1) := by decide +kernel
theorem dX11_stand_5 : decode cX11_stand 5 = .ok (.getfield 164, 3) := by decide +kernel
theorem dX11_stand_8 : decode cX11_stand 8 = .ok (.ifCond .ne 9, 3) := by decide +kernel
theorem dX11_stand_11 : decode cX11_stand 11 = .ok (.aload_n 0, 1) := by decide +kernel
theorem dX11_stand_12 : decode cX11_stand 12 = .ok (.iconst 1, 1) := by decide +kernel
theorem dX11_stand_13 : decode cX11_stand 13 = .ok (.invokevirtual 312, 3) := by decide +kernel
theorem dX11_stand_16 : decode cX11_stand 16 = .ok (.ireturn, 1) := by decide +kernel
theorem dX11_stand_17 : decode cX11_stand 17 = .ok (.aload_n 0, 1) := by decide +kernel
theorem dX11_stand_18 : decode cX11_stand 18 = .ok (.getfield 26, 3) := by decide +kernel
theorem dX11_stand_21 : decode cX11_stand 21 = .ok (.iconst 4, 1) := by decide +kernel
theorem dX11_stand_22 : decode cX11_stand 22 = .ok (.iaload, 1) := by decide +kernel
theorem dX11_stand_23 : decode cX11_stand 23 = .ok (.aload_n 0, 1) := by decide +kernel
theorem dX11_stand_24 : decode cX11_stand 24 = .ok (.getfield 20, 3) := by decide +kernel
theorem dX11_stand_27 : decode cX11_stand 27 = .ok (.iconst 4, 1) := by decide +kernel
theorem dX11_stand_28 : decode cX11_stand 28 = .ok (.iaload, 1) := by decide +kernel
theorem dX11_stand_29 : decode cX11_stand 29 = .ok (.if_icmp .ne 10, 3) := by decide +kernel
theorem dX11_stand_32 : decode cX11_stand 32 = .ok (.aload_n 0, 1) := by decide +kernel
theorem dX11_stand_33 : decode cX11_stand 33 = .ok (.bipush 6, 2) := by decide +kernel
theorem dX11_stand_35 : decode cX11_stand 35 = .ok (.invokevirtual 312, 3) := by decide +kernel
theorem dX11_stand_38 : decode cX11_stand 38 = .ok (.ireturn, 1) := by decide +kernel
theorem dX11_stand_39 : decode cX11_stand 39 = .ok (.aload_n 0, 1) := by decide +kernel
theorem dX11_stand_40 : decode cX11_stand 40 = .ok (.getfield 26, 3) := by decide +kernel
theorem dX11_stand_43 : decode cX11_stand 43 = .ok (.iconst 5, 1) := by decide +kernel
theorem dX11_stand_44 : decode cX11_stand 44 = .ok (.dup2, 1) := by decide +kernel
theorem dX11_stand_45 : decode cX11_stand 45 = .ok (.iaload, 1) := by decide +kernel
theorem dX11_stand_46 : decode cX11_stand 46 = .ok (.iconst 1, 1) := by decide +kernel
theorem dX11_stand_47 : decode cX11_stand 47 = .ok (.aload_n 0, 1) := by decide +kernel
theorem dX11_stand_48 : decode cX11_stand 48 = .ok (.getfield 26, 3) := by decide +kernel
theorem dX11_stand_51 : decode cX11_stand 51 = .ok (.iconst 4, 1) := by decide +kernel
theorem dX11_stand_52 : decode cX11_stand 52 = .ok (.iaload, 1) := by decide +kernel
theorem dX11_stand_53 : decode cX11_stand 53 = .ok (.ishl, 1) := by decide +kernel
theorem dX11_stand_54 : decode cX11_stand 54 = .ok (.ior, 1) := by decide +kernel
theorem dX11_stand_55 : decode cX11_stand 55 = .ok (.iastore, 1) := by decide +kernel
theorem dX11_stand_56 : decode cX11_stand 56 = .ok (.aload_n 0, 1) := by decide +kernel
theorem dX11_stand_57 : decode cX11_stand 57 = .ok (.getfield 26, 3) := by decide +kernel
theorem dX11_stand_60 : decode cX11_stand 60 = .ok (.iconst 4, 1) := by decide +kernel
theorem dX11_stand_61 : decode cX11_stand 61 = .ok (.dup2, 1) := by decide +kernel
theorem dX11_stand_62 : decode cX11_stand 62 = .ok (.iaload, 1) := by decide +kernel
theorem dX11_stand_63 : decode cX11_stand 63 = .ok (.iconst 1, 1) := by decide +kernel
theorem dX11_stand_64 : decode cX11_stand 64 = .ok (.iadd, 1) := by decide +kernel
theorem dX11_stand_65 : decode cX11_stand 65 = .ok (.iastore, 1) := by decide +kernel
theorem dX11_stand_66 : decode cX11_stand 66 = .ok (.iconst 1, 1) := by decide +kernel
theorem dX11_stand_67 : decode cX11_stand 67 = .ok (.ireturn, 1) := by decide +kernel
theorem dX11_can_0 : decode cX11_can 0 = .ok (.aload_n 0, 1) := by decide +kernel
theorem dX11_can_1 : decode cX11_can 1 = .ok (.invokevirtual 155, 3) := by decide +kernel
theorem dX11_can_4 : decode cX11_can 4 = .ok (.aload_n 0, 1) := by decide +kernel
theorem dX11_can_5 : decode cX11_can 5 = .ok (.getfield 164, 3) := by decide +kernel
theorem dX11_can_8 : decode cX11_can 8 = .ok (.ifCond .ne 9, 3) := by decide +kernel
theorem dX11_can_11 : decode cX11_can 11 = .ok (.aload_n 0, 1) := by decide +kernel
theorem dX11_can_12 : decode cX11_can 12 = .ok (.iconst 1, 1) := by decide +kernel
theorem dX11_can_13 : decode cX11_can 13 = .ok (.invokevirtual 158, 3) := by decide +kernel
theorem dX11_can_16 : decode cX11_can 16 = .ok (.ireturn, 1) := by decide +kernel
theorem dX11_can_17 : decode cX11_can 17 = .ok (.aload_n 0, 1) := by decide +kernel
theorem dX11_can_18 : decode cX11_can 18 = .ok (.getfield 26, 3) := by decide +kernel
theorem dX11_can_21 : decode cX11_can 21 = .ok (.iconst 4, 1) := by decide +kernel
theorem dX11_can_22 : decode cX11_can 22 = .ok (.iaload, 1) := by decide +kernel
theorem dX11_can_23 : decode cX11_can 23 = .ok (.aload_n 0, 1) := by decide +kernel
theorem dX11_can_24 : decode cX11_can 24 = .ok (.getfield 20, 3) := by decide +kernel
theorem dX11_can_27 : decode cX11_can 27 = .ok (.iconst 4, 1) := by decide +kernel
theorem dX11_can_28 : decode cX11_can 28 = .ok (.iaload, 1) := by decide +kernel
theorem dX11_can_29 : decode cX11_can 29 = .ok (.if_icmp .ne 10, 3) := by decide +kernel
theorem dX11_can_32 : decode cX11_can 32 = .ok (.aload_n 0, 1) := by decide +kernel
theorem dX11_can_33 : decode cX11_can 33 = .ok (.bipush 6, 2) := by decide +kernel
theorem dX11_can_35 : decode cX11_can 35 = .ok (.invokevirtual 158, 3) := by decide +kernel
theorem dX11_can_38 : decode cX11_can 38 = .ok (.ireturn, 1) := by decide +kernel
theorem dX11_can_39 : decode cX11_can 39 = .ok (.iconst 0, 1) := by decide +kernel
theorem dX11_can_40 : decode cX11_can 40 = .ok (.istore_n 1, 1) := by decide +kernel
theorem dX11_can_41 : decode cX11_can 41 = .ok (.iconst 0, 1) := by decide +kernel
theorem dX11_can_42 : decode cX11_can 42 = .ok (.istore_n 2, 1) := by decide +kernel
theorem dX11_can_43 : decode cX11_can 43 = .ok (.iload_n 2, 1) := by decide +kernel
theorem dX11_can_44 : decode cX11_can 44 = .ok (.aload_n 0, 1) := by decide +kernel
theorem dX11_can_45 : decode cX11_can 45 = .ok (.getfield 20, 3) := by decide +kernel
theorem dX11_can_48 : decode cX11_can 48 = .ok (.iconst 0, 1) := by decide +kernel
theorem dX11_can_49 : decode cX11_can 49 = .ok (.iaload, 1) := by decide +kernel
theorem dX11_can_50 : decode cX11_can 50 = .ok (.if_icmp .ge 63, 3) := by decide +kernel
theorem dX11_can_53 : decode cX11_can 53 = .ok (.iconst 0, 1) := by decide +kernel
theorem dX11_can_54 : decode cX11_can 54 = .ok (.istore_n 3, 1) := by decide +kernel
theorem dX11_can_55 : decode cX11_can 55 = .ok (.iload_n 3, 1) := by decide +kernel
theorem dX11_can_56 : decode cX11_can 56 = .ok (.aload_n 0, 1) := by decide +kernel
theorem dX11_can_57 : decode cX11_can 57 = .ok (.getfield 20, 3) := by decide +kernel
theorem dX11_can_60 : decode cX11_can 60 = .ok (.iconst 3, 1) := by decide +kernel
theorem dX11_can_61 : decode cX11_can 61 = .ok (.iaload, 1) := by decide +kernel
theorem dX11_can_62 : decode cX11_can 62 = .ok (.if_icmp .ge 45, 3) := by decide +kernel
theorem dX11_can_65 : decode cX11_can 65 = .ok (.iload_n 1, 1) := by decide +kernel
theorem dX11_can_66 : decode cX11_can 66 = .ok (.aload_n 0, 1) := by decide +kernel
theorem dX11_can_67 : decode cX11_can 67 = .ok (.aload_n 0, 1) := by decide +kernel
theorem dX11_can_68 : decode cX11_can 68 = .ok (.invokevirtual 331, 3) := by decide +kernel
theorem dX11_can_71 : decode cX11_can 71 = .ok (.iload_n 2, 1) := by decide +kernel
theorem dX11_can_72 : decode cX11_can 72 = .ok (.iload_n 3, 1) := by decide +kernel
theorem dX11_can_73 : decode cX11_can 73 = .ok (.aload_n 0, 1) := by decide +kernel
theorem dX11_can_74 : decode cX11_can 74 = .ok (.getfield 20, 3) := by decide +kernel
theorem dX11_can_77 : decode cX11_can 77 = .ok (.sipush 295, 3) := by decide +kernel
theorem dX11_can_80 : decode cX11_can 80 = .ok (.aload_n 0, 1) := by decide +kernel
theorem dX11_can_81 : decode cX11_can 81 = .ok (.getfield 26, 3) := by decide +kernel
theorem dX11_can_84 : decode cX11_can 84 = .ok (.iconst 4, 1) := by decide +kernel
theorem dX11_can_85 : decode cX11_can 85 = .ok (.iaload, 1) := by decide +kernel
theorem dX11_can_86 : decode cX11_can 86 = .ok (.iadd, 1) := by decide +kernel
theorem dX11_can_87 : decode cX11_can 87 = .ok (.iaload, 1) := by decide +kernel
theorem dX11_can_88 : decode cX11_can 88 = .ok (.invokevirtual 325, 3) := by decide +kernel
theorem dX11_can_91 : decode cX11_can 91 = .ok (.ifCond .ge 7, 3) := by decide +kernel
theorem dX11_can_94 : decode cX11_can 94 = .ok (.iconst 0, 1) := by decide +kernel
theorem dX11_can_95 : decode cX11_can 95 = .ok (.goto 4, 3) := by decide +kernel
theorem dX11_can_98 : decode cX11_can 98 = .ok (.iconst 1, 1) := by decide +kernel
theorem dX11_can_99 : decode cX11_can 99 = .ok (.iadd, 1) := by decide +kernel
theorem dX11_can_100 : decode cX11_can 100 = .ok (.istore_n 1, 1) := by decide +kernel
theorem dX11_can_101 : decode cX11_can 101 = .ok (.iinc 3 1, 3) := by decide +kernel
theorem dX11_can_104 : decode cX11_can 104 = .ok (.goto (-49), 3) := by decide +kernel
theorem dX11_can_107 : decode cX11_can 107 = .ok (.iinc 2 1, 3) := by decide +kernel
theorem dX11_can_110 : decode cX11_can 110 = .ok (.goto (-67), 3) := by decide +kernel
theorem dX11_can_113 : decode cX11_can 113 = .ok (.iload_n 1, 1) := by decide +kernel
theorem dX11_can_114 : decode cX11_can 114 = .ok (.ireturn, 1) := by decide +kernel
theorem dX11_table_0 : decode cX11_table 0 = .ok (.aload_n 0, 1) := by decide +kernel
theorem dX11_table_1 : decode cX11_table 1 = .ok (.invokevirtual 155, 3) := by decide +kernel
theorem dX11_table_4 : decode cX11_table 4 = .ok (.aload_n 0, 1) := by decide +kernel
theorem dX11_table_5 : decode cX11_table 5 = .ok (.iload_n 1, 1) := by decide +kernel
theorem dX11_table_6 : decode cX11_table 6 = .ok (.invokevirtual 309, 3) := by decide +kernel
theorem dX11_table_9 : decode cX11_table 9 = .ok (.ifCond .eq 28, 3) := by decide +kernel
theorem dX11_table_12 : decode cX11_table 12 = .ok (.aload_n 0, 1) := by decide +kernel
theorem dX11_table_13 : decode cX11_table 13 = .ok (.getfield 26, 3) := by decide +kernel
theorem dX11_table_16 : decode cX11_table 16 = .ok (.iload_n 1, 1) := by decide +kernel
theorem dX11_table_17 : decode cX11_table 17 = .ok (.iaload, 1) := by decide +kernel
theorem dX11_table_18 : decode cX11_table 18 = .ok (.bipush 24, 2) := by decide +kernel
theorem dX11_table_20 : decode cX11_table 20 = .ok (.if_icmp .ne 8, 3) := by decide +kernel
theorem dX11_table_23 : decode cX11_table 23 = .ok (.bipush (-2), 2) := by decide +kernel
theorem dX11_table_25 : decode cX11_table 25 = .ok (.goto 17, 3) := by decide +kernel
theorem dX11_table_28 : decode cX11_table 28 = .ok (.aload_n 0, 1) := by decide +kernel
theorem dX11_table_29 : decode cX11_table 29 = .ok (.getfield 26, 3) := by decide +kernel
theorem dX11_table_32 : decode cX11_table 32 = .ok (.iload_n 1, 1) := by decide +kernel
theorem dX11_table_33 : decode cX11_table 33 = .ok (.iaload, 1) := by decide +kernel
theorem dX11_table_34 : decode cX11_table 34 = .ok (.goto 8, 3) := by decide +kernel
theorem dX11_table_37 : decode cX11_table 37 = .ok (.aload_n 0, 1) := by decide +kernel
theorem dX11_table_38 : decode cX11_table 38 = .ok (.iconst 1, 1) := by decide +kernel
theorem dX11_table_39 : decode cX11_table 39 = .ok (.invokevirtual 158, 3) := by decide +kernel
theorem dX11_table_42 : decode cX11_table 42 = .ok (.ireturn, 1) := by decide +kernel
theorem dX11_standing_0 : decode cX11_standing 0 = .ok (.aload_n 0, 1) := by decide +kernel
theorem dX11_standing_1 : decode cX11_standing 1 = .ok (.invokevirtual 155, 3) := by decide +kernel
theorem dX11_standing_4 : decode cX11_standing 4 = .ok (.aload_n 0, 1) := by decide +kernel
theorem dX11_standing_5 : decode cX11_standing 5 = .ok (.getfield 164, 3) := by decide +kernel
theorem dX11_standing_8 : decode cX11_standing 8 = .ok (.ifCond .eq 12, 3) := by decide +kernel
theorem dX11_standing_11 : decode cX11_standing 11 = .ok (.aload_n 0, 1) := by decide +kernel
theorem dX11_standing_12 : decode cX11_standing 12 = .ok (.getfield 26, 3) := by decide +kernel
theorem dX11_standing_15 : decode cX11_standing 15 = .ok (.iconst 5, 1) := by decide +kernel
theorem dX11_standing_16 : decode cX11_standing 16 = .ok (.iaload, 1) := by decide +kernel
theorem dX11_standing_17 : decode cX11_standing 17 = .ok (.goto 8, 3) := by decide +kernel
theorem dX11_standing_20 : decode cX11_standing 20 = .ok (.aload_n 0, 1) := by decide +kernel
theorem dX11_standing_21 : decode cX11_standing 21 = .ok (.iconst 1, 1) := by decide +kernel
theorem dX11_standing_22 : decode cX11_standing 22 = .ok (.invokevirtual 158, 3) := by decide +kernel
theorem dX11_standing_25 : decode cX11_standing 25 = .ok (.ireturn, 1) := by decide +kernel
theorem dX11_able_0 : decode cX11_able 0 = .ok (.aload_n 0, 1) := by decide +kernel
theorem dX11_able_1 : decode cX11_able 1 = .ok (.invokevirtual 155, 3) := by decide +kernel
theorem dX11_able_4 : decode cX11_able 4 = .ok (.aload_n 0, 1) := by decide +kernel
theorem dX11_able_5 : decode cX11_able 5 = .ok (.getfield 164, 3) := by decide +kernel
theorem dX11_able_8 : decode cX11_able 8 = .ok (.ifCond .ne 9, 3) := by decide +kernel
theorem dX11_able_11 : decode cX11_able 11 = .ok (.aload_n 0, 1) := by decide +kernel
theorem dX11_able_12 : decode cX11_able 12 = .ok (.iconst 1, 1) := by decide +kernel
theorem dX11_able_13 : decode cX11_able 13 = .ok (.invokevirtual 158, 3) := by decide +kernel
theorem dX11_able_16 : decode cX11_able 16 = .ok (.ireturn, 1) := by decide +kernel
theorem dX11_able_17 : decode cX11_able 17 = .ok (.aload_n 0, 1) := by decide +kernel
theorem dX11_able_18 : decode cX11_able 18 = .ok (.invokevirtual 328, 3) := by decide +kernel
theorem dX11_able_21 : decode cX11_able 21 = .ok (.aload_n 0, 1) := by decide +kernel
theorem dX11_able_22 : decode cX11_able 22 = .ok (.iconst 0, 1) := by decide +kernel
theorem dX11_able_23 : decode cX11_able 23 = .ok (.invokestatic 340, 3) := by decide +kernel
theorem dX11_able_26 : decode cX11_able 26 = .ok (.invokevirtual 322, 3) := by decide +kernel
theorem dX11_able_29 : decode cX11_able 29 = .ok (.ireturn, 1) := by decide +kernel
theorem dX11_sits_0 : decode cX11_sits 0 = .ok (.aload_n 0, 1) := by decide +kernel
theorem dX11_sits_1 : decode cX11_sits 1 = .ok (.invokevirtual 155, 3) := by decide +kernel
theorem dX11_sits_4 : decode cX11_sits 4 = .ok (.aload_n 0, 1) := by decide +kernel
theorem dX11_sits_5 : decode cX11_sits 5 = .ok (.getfield 164, 3) := by decide +kernel
theorem dX11_sits_8 : decode cX11_sits 8 = .ok (.ifCond .eq 12, 3) := by decide +kernel
theorem dX11_sits_11 : decode cX11_sits 11 = .ok (.iload_n 1, 1) := by decide +kernel
theorem dX11_sits_12 : decode cX11_sits 12 = .ok (.iconst 0, 1) := by decide +kernel
theorem dX11_sits_13 : decode cX11_sits 13 = .ok (.iconst 3, 1) := by decide +kernel
theorem dX11_sits_14 : decode cX11_sits 14 = .ok (.invokestatic 143, 3) := by decide +kernel
theorem dX11_sits_17 : decode cX11_sits 17 = .ok (.ifCond .ne 9, 3) := by decide +kernel
theorem dX11_sits_20 : decode cX11_sits 20 = .ok (.aload_n 0, 1) := by decide +kernel
theorem dX11_sits_21 : decode cX11_sits 21 = .ok (.iconst 1, 1) := by decide +kernel
theorem dX11_sits_22 : decode cX11_sits 22 = .ok (.invokevirtual 158, 3) := by decide +kernel
theorem dX11_sits_25 : decode cX11_sits 25 = .ok (.ireturn, 1) := by decide +kernel
theorem dX11_sits_26 : decode cX11_sits 26 = .ok (.aload_n 0, 1) := by decide +kernel
theorem dX11_sits_27 : decode cX11_sits 27 = .ok (.invokevirtual 328, 3) := by decide +kernel
theorem dX11_sits_30 : decode cX11_sits 30 = .ok (.invokestatic 340, 3) := by decide +kernel
theorem dX11_sits_33 : decode cX11_sits 33 = .ok (.istore_n 2, 1) := by decide +kernel
theorem dX11_sits_34 : decode cX11_sits 34 = .ok (.iconst 0, 1) := by decide +kernel
theorem dX11_sits_35 : decode cX11_sits 35 = .ok (.istore_n 3, 1) := by decide +kernel
theorem dX11_sits_36 : decode cX11_sits 36 = .ok (.iconst 0, 1) := by decide +kernel
theorem dX11_sits_37 : decode cX11_sits 37 = .ok (.istore 4, 2) := by decide +kernel
theorem dX11_sits_39 : decode cX11_sits 39 = .ok (.iload 4, 2) := by decide +kernel
theorem dX11_sits_41 : decode cX11_sits 41 = .ok (.aload_n 0, 1) := by decide +kernel
theorem dX11_sits_42 : decode cX11_sits 42 = .ok (.getfield 20, 3) := by decide +kernel
theorem dX11_sits_45 : decode cX11_sits 45 = .ok (.iconst 4, 1) := by decide +kernel
theorem dX11_sits_46 : decode cX11_sits 46 = .ok (.iaload, 1) := by decide +kernel
theorem dX11_sits_47 : decode cX11_sits 47 = .ok (.if_icmp .ge 44, 3) := by decide +kernel
theorem dX11_sits_50 : decode cX11_sits 50 = .ok (.aload_n 0, 1) := by decide +kernel
theorem dX11_sits_51 : decode cX11_sits 51 = .ok (.iload_n 1, 1) := by decide +kernel
theorem dX11_sits_52 : decode cX11_sits 52 = .ok (.iload 4, 2) := by decide +kernel
theorem dX11_sits_54 : decode cX11_sits 54 = .ok (.iload_n 2, 1) := by decide +kernel
theorem dX11_sits_55 : decode cX11_sits 55 = .ok (.invokevirtual 334, 3) := by decide +kernel
theorem dX11_sits_58 : decode cX11_sits 58 = .ok (.istore 5, 2) := by decide +kernel
theorem dX11_sits_60 : decode cX11_sits 60 = .ok (.iload_n 3, 1) := by decide +kernel
theorem dX11_sits_61 : decode cX11_sits 61 = .ok (.iload 5, 2) := by decide +kernel
theorem dX11_sits_63 : decode cX11_sits 63 = .ok (.ifCond .ge 7, 3) := by decide +kernel
theorem dX11_sits_66 : decode cX11_sits 66 = .ok (.iconst 0, 1) := by decide +kernel
theorem dX11_sits_67 : decode cX11_sits 67 = .ok (.goto 4, 3) := by decide +kernel
theorem dX11_sits_70 : decode cX11_sits 70 = .ok (.iconst 1, 1) := by decide +kernel
theorem dX11_sits_71 : decode cX11_sits 71 = .ok (.iadd, 1) := by decide +kernel
theorem dX11_sits_72 : decode cX11_sits 72 = .ok (.istore_n 3, 1) := by decide +kernel
theorem dX11_sits_73 : decode cX11_sits 73 = .ok (.iload 5, 2) := by decide +kernel
theorem dX11_sits_75 : decode cX11_sits 75 = .ok (.ifCond .ge 7, 3) := by decide +kernel
theorem dX11_sits_78 : decode cX11_sits 78 = .ok (.iload_n 2, 1) := by decide +kernel
theorem dX11_sits_79 : decode cX11_sits 79 = .ok (.goto 5, 3) := by decide +kernel
theorem dX11_sits_82 : decode cX11_sits 82 = .ok (.iload 5, 2) := by decide +kernel
theorem dX11_sits_84 : decode cX11_sits 84 = .ok (.istore_n 2, 1) := by decide +kernel
theorem dX11_sits_85 : decode cX11_sits 85 = .ok (.iinc 4 1, 3) := by decide +kernel
theorem dX11_sits_88 : decode cX11_sits 88 = .ok (.goto (-49), 3) := by decide +kernel
theorem dX11_sits_91 : decode cX11_sits 91 = .ok (.iload_n 3, 1) := by decide +kernel
theorem dX11_sits_92 : decode cX11_sits 92 = .ok (.ireturn, 1) := by decide +kernel
theorem dX11_lettersAt_0 : decode cX11_lettersAt 0 = .ok (.iconst 0, 1) := by decide +kernel
theorem dX11_lettersAt_1 : decode cX11_lettersAt 1 = .ok (.istore_n 2, 1) := by decide +kernel
theorem dX11_lettersAt_2 : decode cX11_lettersAt 2 = .ok (.iconst 0, 1) := by decide +kernel
theorem dX11_lettersAt_3 : decode cX11_lettersAt 3 = .ok (.istore_n 3, 1) := by decide +kernel
theorem dX11_lettersAt_4 : decode cX11_lettersAt 4 = .ok (.iload_n 3, 1) := by decide +kernel
theorem dX11_lettersAt_5 : decode cX11_lettersAt 5 = .ok (.iconst 3, 1) := by decide +kernel
theorem dX11_lettersAt_6 : decode cX11_lettersAt 6 = .ok (.if_icmp .ge 39, 3) := by decide +kernel
theorem dX11_lettersAt_9 : decode cX11_lettersAt 9 = .ok (.iload_n 2, 1) := by decide +kernel
theorem dX11_lettersAt_10 : decode cX11_lettersAt 10 = .ok (.iload_n 1, 1) := by decide +kernel
theorem dX11_lettersAt_11 : decode cX11_lettersAt 11 = .ok (.iload_n 3, 1) := by decide +kernel
theorem dX11_lettersAt_12 : decode cX11_lettersAt 12 = .ok (.invokestatic 315, 3) := by decide +kernel
theorem dX11_lettersAt_15 : decode cX11_lettersAt 15 = .ok (.bipush 24, 2) := by decide +kernel
theorem dX11_lettersAt_17 : decode cX11_lettersAt 17 = .ok (.if_icmp .ne 7, 3) := by decide +kernel
theorem dX11_lettersAt_20 : decode cX11_lettersAt 20 = .ok (.iconst 0, 1) := by decide +kernel
theorem dX11_lettersAt_21 : decode cX11_lettersAt 21 = .ok (.goto 16, 3) := by decide +kernel
theorem dX11_lettersAt_24 : decode cX11_lettersAt 24 = .ok (.aload_n 0, 1) := by decide +kernel
theorem dX11_lettersAt_25 : decode cX11_lettersAt 25 = .ok (.getfield 20, 3) := by decide +kernel
theorem dX11_lettersAt_28 : decode cX11_lettersAt 28 = .ok (.bipush 7, 2) := by decide +kernel
theorem dX11_lettersAt_30 : decode cX11_lettersAt 30 = .ok (.iload_n 1, 1) := by decide +kernel
theorem dX11_lettersAt_31 : decode cX11_lettersAt 31 = .ok (.iload_n 3, 1) := by decide +kernel
theorem dX11_lettersAt_32 : decode cX11_lettersAt 32 = .ok (.invokestatic 315, 3) := by decide +kernel
theorem dX11_lettersAt_35 : decode cX11_lettersAt 35 = .ok (.iadd, 1) := by decide +kernel
theorem dX11_lettersAt_36 : decode cX11_lettersAt 36 = .ok (.iaload, 1) := by decide +kernel
theorem dX11_lettersAt_37 : decode cX11_lettersAt 37 = .ok (.iadd, 1) := by decide +kernel
theorem dX11_lettersAt_38 : decode cX11_lettersAt 38 = .ok (.istore_n 2, 1) := by decide +kernel
theorem dX11_lettersAt_39 : decode cX11_lettersAt 39 = .ok (.iinc 3 1, 3) := by decide +kernel
theorem dX11_lettersAt_42 : decode cX11_lettersAt 42 = .ok (.goto (-38), 3) := by decide +kernel
theorem dX11_lettersAt_45 : decode cX11_lettersAt 45 = .ok (.iload_n 2, 1) := by decide +kernel
theorem dX11_lettersAt_46 : decode cX11_lettersAt 46 = .ok (.ireturn, 1) := by decide +kernel
theorem dX11_areThere_0 : decode cX11_areThere 0 = .ok (.iconst 0, 1) := by decide +kernel
theorem dX11_areThere_1 : decode cX11_areThere 1 = .ok (.istore_n 3, 1) := by decide +kernel
theorem dX11_areThere_2 : decode cX11_areThere 2 = .ok (.iload_n 3, 1) := by decide +kernel
theorem dX11_areThere_3 : decode cX11_areThere 3 = .ok (.bipush 26, 2) := by decide +kernel
theorem dX11_areThere_5 : decode cX11_areThere 5 = .ok (.if_icmp .ge 16, 3) := by decide +kernel
theorem dX11_areThere_8 : decode cX11_areThere 8 = .ok (.aload_n 0, 1) := by decide +kernel
theorem dX11_areThere_9 : decode cX11_areThere 9 = .ok (.getfield 50, 3) := by decide +kernel
theorem dX11_areThere_12 : decode cX11_areThere 12 = .ok (.iload_n 3, 1) := by decide +kernel
theorem dX11_areThere_13 : decode cX11_areThere 13 = .ok (.iconst 0, 1) := by decide +kernel
theorem dX11_areThere_14 : decode cX11_areThere 14 = .ok (.iastore, 1) := by decide +kernel
theorem dX11_areThere_15 : decode cX11_areThere 15 = .ok (.iinc 3 1, 3) := by decide +kernel
theorem dX11_areThere_18 : decode cX11_areThere 18 = .ok (.goto (-16), 3) := by decide +kernel
theorem dX11_areThere_21 : decode cX11_areThere 21 = .ok (.iconst 0, 1) := by decide +kernel
theorem dX11_areThere_22 : decode cX11_areThere 22 = .ok (.istore_n 3, 1) := by decide +kernel
theorem dX11_areThere_23 : decode cX11_areThere 23 = .ok (.iload_n 3, 1) := by decide +kernel
theorem dX11_areThere_24 : decode cX11_areThere 24 = .ok (.iload_n 2, 1) := by decide +kernel
theorem dX11_areThere_25 : decode cX11_areThere 25 = .ok (.if_icmp .ge 28, 3) := by decide +kernel
theorem dX11_areThere_28 : decode cX11_areThere 28 = .ok (.aload_n 0, 1) := by decide +kernel
theorem dX11_areThere_29 : decode cX11_areThere 29 = .ok (.getfield 50, 3) := by decide +kernel
theorem dX11_areThere_32 : decode cX11_areThere 32 = .ok (.aload_n 0, 1) := by decide +kernel
theorem dX11_areThere_33 : decode cX11_areThere 33 = .ok (.getfield 20, 3) := by decide +kernel
theorem dX11_areThere_36 : decode cX11_areThere 36 = .ok (.sipush 295, 3) := by decide +kernel
theorem dX11_areThere_39 : decode cX11_areThere 39 = .ok (.iload_n 3, 1) := by decide +kernel
theorem dX11_areThere_40 : decode cX11_areThere 40 = .ok (.iadd, 1) := by decide +kernel
theorem dX11_areThere_41 : decode cX11_areThere 41 = .ok (.iaload, 1) := by decide +kernel
theorem dX11_areThere_42 : decode cX11_areThere 42 = .ok (.dup2, 1) := by decide +kernel
theorem dX11_areThere_43 : decode cX11_areThere 43 = .ok (.iaload, 1) := by decide +kernel
theorem dX11_areThere_44 : decode cX11_areThere 44 = .ok (.iconst 1, 1) := by decide +kernel
theorem dX11_areThere_45 : decode cX11_areThere 45 = .ok (.iadd, 1) := by decide +kernel
theorem dX11_areThere_46 : decode cX11_areThere 46 = .ok (.iastore, 1) := by decide +kernel
theorem dX11_areThere_47 : decode cX11_areThere 47 = .ok (.iinc 3 1, 3) := by decide +kernel
theorem dX11_areThere_50 : decode cX11_areThere 50 = .ok (.goto (-27), 3) := by decide +kernel
theorem dX11_areThere_53 : decode cX11_areThere 53 = .ok (.iconst 0, 1) := by decide +kernel
theorem dX11_areThere_54 : decode cX11_areThere 54 = .ok (.istore_n 3, 1) := by decide +kernel
theorem dX11_areThere_55 : decode cX11_areThere 55 = .ok (.iload_n 3, 1) := by decide +kernel
theorem dX11_areThere_56 : decode cX11_areThere 56 = .ok (.iconst 3, 1) := by decide +kernel
theorem dX11_areThere_57 : decode cX11_areThere 57 = .ok (.if_icmp .ge 64, 3) := by decide +kernel
theorem dX11_areThere_60 : decode cX11_areThere 60 = .ok (.iload_n 1, 1) := by decide +kernel
theorem dX11_areThere_61 : decode cX11_areThere 61 = .ok (.iload_n 3, 1) := by decide +kernel
theorem dX11_areThere_62 : decode cX11_areThere 62 = .ok (.invokestatic 315, 3) := by decide +kernel
theorem dX11_areThere_65 : decode cX11_areThere 65 = .ok (.istore 4, 2) := by decide +kernel
theorem dX11_areThere_67 : decode cX11_areThere 67 = .ok (.iconst 0, 1) := by decide +kernel
theorem dX11_areThere_68 : decode cX11_areThere 68 = .ok (.istore 5, 2) := by decide +kernel
theorem dX11_areThere_70 : decode cX11_areThere 70 = .ok (.iload 4, 2) := by decide +kernel
theorem dX11_areThere_72 : decode cX11_areThere 72 = .ok (.bipush 24, 2) := by decide +kernel
theorem dX11_areThere_74 : decode cX11_areThere 74 = .ok (.if_icmp .eq 41, 3) := by decide +kernel
theorem dX11_areThere_77 : decode cX11_areThere 77 = .ok (.iload 5, 2) := by decide +kernel
theorem dX11_areThere_79 : decode cX11_areThere 79 = .ok (.aload_n 0, 1) := by decide +kernel
theorem dX11_areThere_80 : decode cX11_areThere 80 = .ok (.getfield 20, 3) := by decide +kernel
theorem dX11_areThere_83 : decode cX11_areThere 83 = .ok (.bipush 7, 2) := by decide +kernel
theorem dX11_areThere_85 : decode cX11_areThere 85 = .ok (.iload 4, 2) := by decide +kernel
theorem dX11_areThere_87 : decode cX11_areThere 87 = .ok (.iadd, 1) := by decide +kernel
theorem dX11_areThere_88 : decode cX11_areThere 88 = .ok (.iaload, 1) := by decide +kernel
theorem dX11_areThere_89 : decode cX11_areThere 89 = .ok (.if_icmp .ge 26, 3) := by decide +kernel
theorem dX11_areThere_92 : decode cX11_areThere 92 = .ok (.aload_n 0, 1) := by decide +kernel
theorem dX11_areThere_93 : decode cX11_areThere 93 = .ok (.getfield 50, 3) := by decide +kernel
theorem dX11_areThere_96 : decode cX11_areThere 96 = .ok (.aload_n 0, 1) := by decide +kernel
theorem dX11_areThere_97 : decode cX11_areThere 97 = .ok (.iload 4, 2) := by decide +kernel
theorem dX11_areThere_99 : decode cX11_areThere 99 = .ok (.iload 5, 2) := by decide +kernel
theorem dX11_areThere_101 : decode cX11_areThere 101 = .ok (.invokevirtual 243, 3) := by decide +kernel
theorem dX11_areThere_104 : decode cX11_areThere 104 = .ok (.dup2, 1) := by decide +kernel
theorem dX11_areThere_105 : decode cX11_areThere 105 = .ok (.iaload, 1) := by decide +kernel
theorem dX11_areThere_106 : decode cX11_areThere 106 = .ok (.iconst 1, 1) := by decide +kernel
theorem dX11_areThere_107 : decode cX11_areThere 107 = .ok (.isub, 1) := by decide +kernel
theorem dX11_areThere_108 : decode cX11_areThere 108 = .ok (.iastore, 1) := by decide +kernel
theorem dX11_areThere_109 : decode cX11_areThere 109 = .ok (.iinc 5 1, 3) := by decide +kernel
theorem dX11_areThere_112 : decode cX11_areThere 112 = .ok (.goto (-42), 3) := by decide +kernel
theorem dX11_areThere_115 : decode cX11_areThere 115 = .ok (.iinc 3 1, 3) := by decide +kernel
theorem dX11_areThere_118 : decode cX11_areThere 118 = .ok (.goto (-63), 3) := by decide +kernel
theorem dX11_areThere_121 : decode cX11_areThere 121 = .ok (.iconst 1, 1) := by decide +kernel
theorem dX11_areThere_122 : decode cX11_areThere 122 = .ok (.istore_n 3, 1) := by decide +kernel
theorem dX11_areThere_123 : decode cX11_areThere 123 = .ok (.iconst 0, 1) := by decide +kernel
theorem dX11_areThere_124 : decode cX11_areThere 124 = .ok (.istore 4, 2) := by decide +kernel
theorem dX11_areThere_126 : decode cX11_areThere 126 = .ok (.iload 4, 2) := by decide +kernel
theorem dX11_areThere_128 : decode cX11_areThere 128 = .ok (.bipush 26, 2) := by decide +kernel
theorem dX11_areThere_130 : decode cX11_areThere 130 = .ok (.if_icmp .ge 29, 3) := by decide +kernel
theorem dX11_areThere_133 : decode cX11_areThere 133 = .ok (.iload_n 3, 1) := by decide +kernel
theorem dX11_areThere_134 : decode cX11_areThere 134 = .ok (.ifCond .eq 17, 3) := by decide +kernel
theorem dX11_areThere_137 : decode cX11_areThere 137 = .ok (.aload_n 0, 1) := by decide +kernel
theorem dX11_areThere_138 : decode cX11_areThere 138 = .ok (.getfield 50, 3) := by decide +kernel
theorem dX11_areThere_141 : decode cX11_areThere 141 = .ok (.iload 4, 2) := by decide +kernel
theorem dX11_areThere_143 : decode cX11_areThere 143 = .ok (.iaload, 1) := by decide +kernel
theorem dX11_areThere_144 : decode cX11_areThere 144 = .ok (.ifCond .lt 7, 3) := by decide +kernel
theorem dX11_areThere_147 : decode cX11_areThere 147 = .ok (.iconst 1, 1) := by decide +kernel
theorem dX11_areThere_148 : decode cX11_areThere 148 = .ok (.goto 4, 3) := by decide +kernel
theorem dX11_areThere_151 : decode cX11_areThere 151 = .ok (.iconst 0, 1) := by decide +kernel
theorem dX11_areThere_152 : decode cX11_areThere 152 = .ok (.istore_n 3, 1) := by decide +kernel
theorem dX11_areThere_153 : decode cX11_areThere 153 = .ok (.iinc 4 1, 3) := by decide +kernel
theorem dX11_areThere_156 : decode cX11_areThere 156 = .ok (.goto (-30), 3) := by decide +kernel
theorem dX11_areThere_159 : decode cX11_areThere 159 = .ok (.iload_n 3, 1) := by decide +kernel
theorem dX11_areThere_160 : decode cX11_areThere 160 = .ok (.ireturn, 1) := by decide +kernel
theorem dX11_walk_0 : decode cX11_walk 0 = .ok (.iconst 0, 1) := by decide +kernel
theorem dX11_walk_1 : decode cX11_walk 1 = .ok (.istore 5, 2) := by decide +kernel
theorem dX11_walk_3 : decode cX11_walk 3 = .ok (.iload 5, 2) := by decide +kernel
theorem dX11_walk_5 : decode cX11_walk 5 = .ok (.sipush 15625, 3) := by decide +kernel
theorem dX11_walk_8 : decode cX11_walk 8 = .ok (.if_icmp .ge 17, 3) := by decide +kernel
theorem dX11_walk_11 : decode cX11_walk 11 = .ok (.aload_n 0, 1) := by decide +kernel
theorem dX11_walk_12 : decode cX11_walk 12 = .ok (.getfield 66, 3) := by decide +kernel
theorem dX11_walk_15 : decode cX11_walk 15 = .ok (.iload 5, 2) := by decide +kernel
theorem dX11_walk_17 : decode cX11_walk 17 = .ok (.iconst (-1), 1) := by decide +kernel
theorem dX11_walk_18 : decode cX11_walk 18 = .ok (.iastore, 1) := by decide +kernel
theorem dX11_walk_19 : decode cX11_walk 19 = .ok (.iinc 5 1, 3) := by decide +kernel
theorem dX11_walk_22 : decode cX11_walk 22 = .ok (.goto (-19), 3) := by decide +kernel
theorem dX11_walk_25 : decode cX11_walk 25 = .ok (.aload_n 0, 1) := by decide +kernel
theorem dX11_walk_26 : decode cX11_walk 26 = .ok (.getfield 66, 3) := by decide +kernel
theorem dX11_walk_29 : decode cX11_walk 29 = .ok (.iload_n 1, 1) := by decide +kernel
theorem dX11_walk_30 : decode cX11_walk 30 = .ok (.iconst 0, 1) := by decide +kernel
theorem dX11_walk_31 : decode cX11_walk 31 = .ok (.iastore, 1) := by decide +kernel
theorem dX11_walk_32 : decode cX11_walk 32 = .ok (.aload_n 0, 1) := by decide +kernel
theorem dX11_walk_33 : decode cX11_walk 33 = .ok (.getfield 63, 3) := by decide +kernel
theorem dX11_walk_36 : decode cX11_walk 36 = .ok (.iconst 0, 1) := by decide +kernel
theorem dX11_walk_37 : decode cX11_walk 37 = .ok (.iload_n 1, 1) := by decide +kernel
theorem dX11_walk_38 : decode cX11_walk 38 = .ok (.iastore, 1) := by decide +kernel
theorem dX11_walk_39 : decode cX11_walk 39 = .ok (.iconst 1, 1) := by decide +kernel
theorem dX11_walk_40 : decode cX11_walk 40 = .ok (.istore 5, 2) := by decide +kernel
theorem dX11_walk_42 : decode cX11_walk 42 = .ok (.iconst 0, 1) := by decide +kernel
theorem dX11_walk_43 : decode cX11_walk 43 = .ok (.istore 6, 2) := by decide +kernel
theorem dX11_walk_45 : decode cX11_walk 45 = .ok (.iload 6, 2) := by decide +kernel
theorem dX11_walk_47 : decode cX11_walk 47 = .ok (.iload 5, 2) := by decide +kernel
theorem dX11_walk_49 : decode cX11_walk 49 = .ok (.if_icmp .ge 242, 3) := by decide +kernel
theorem dX11_walk_52 : decode cX11_walk 52 = .ok (.aload_n 0, 1) := by decide +kernel
theorem dX11_walk_53 : decode cX11_walk 53 = .ok (.getfield 63, 3) := by decide +kernel
theorem dX11_walk_56 : decode cX11_walk 56 = .ok (.iload 6, 2) := by decide +kernel
theorem dX11_walk_58 : decode cX11_walk 58 = .ok (.iaload, 1) := by decide +kernel
theorem dX11_walk_59 : decode cX11_walk 59 = .ok (.istore 7, 2) := by decide +kernel
theorem dX11_walk_61 : decode cX11_walk 61 = .ok (.iconst 0, 1) := by decide +kernel
theorem dX11_walk_62 : decode cX11_walk 62 = .ok (.istore 8, 2) := by decide +kernel
theorem dX11_walk_64 : decode cX11_walk 64 = .ok (.iload 8, 2) := by decide +kernel
theorem dX11_walk_66 : decode cX11_walk 66 = .ok (.aload_n 0, 1) := by decide +kernel
theorem dX11_walk_67 : decode cX11_walk 67 = .ok (.getfield 20, 3) := by decide +kernel
theorem dX11_walk_70 : decode cX11_walk 70 = .ok (.iconst 0, 1) := by decide +kernel
theorem dX11_walk_71 : decode cX11_walk 71 = .ok (.iaload, 1) := by decide +kernel
theorem dX11_walk_72 : decode cX11_walk 72 = .ok (.if_icmp .ge 213, 3) := by decide +kernel
theorem dX11_walk_75 : decode cX11_walk 75 = .ok (.iload 7, 2) := by decide +kernel
theorem dX11_walk_77 : decode cX11_walk 77 = .ok (.iload 8, 2) := by decide +kernel
theorem dX11_walk_79 : decode cX11_walk 79 = .ok (.invokestatic 315, 3) := by decide +kernel
theorem dX11_walk_82 : decode cX11_walk 82 = .ok (.istore 9, 2) := by decide +kernel
theorem dX11_walk_84 : decode cX11_walk 84 = .ok (.iconst 0, 1) := by decide +kernel
theorem dX11_walk_85 : decode cX11_walk 85 = .ok (.istore 10, 2) := by decide +kernel
theorem dX11_walk_87 : decode cX11_walk 87 = .ok (.iload 10, 2) := by decide +kernel
theorem dX11_walk_89 : decode cX11_walk 89 = .ok (.bipush 24, 2) := by decide +kernel
theorem dX11_walk_91 : decode cX11_walk 91 = .ok (.if_icmp .gt 188, 3) := by decide +kernel
theorem dX11_walk_94 : decode cX11_walk 94 = .ok (.iload 10, 2) := by decide +kernel
theorem dX11_walk_96 : decode cX11_walk 96 = .ok (.aload_n 0, 1) := by decide +kernel
theorem dX11_walk_97 : decode cX11_walk 97 = .ok (.getfield 20, 3) := by decide +kernel
theorem dX11_walk_100 : decode cX11_walk 100 = .ok (.iconst 3, 1) := by decide +kernel
theorem dX11_walk_101 : decode cX11_walk 101 = .ok (.iaload, 1) := by decide +kernel
theorem dX11_walk_102 : decode cX11_walk 102 = .ok (.if_icmp .ge 23, 3) := by decide +kernel
theorem dX11_walk_105 : decode cX11_walk 105 = .ok (.aload_n 0, 1) := by decide +kernel
theorem dX11_walk_106 : decode cX11_walk 106 = .ok (.getfield 32, 3) := by decide +kernel
theorem dX11_walk_109 : decode cX11_walk 109 = .ok (.bipush 24, 2) := by decide +kernel
theorem dX11_walk_111 : decode cX11_walk 111 = .ok (.iload 9, 2) := by decide +kernel
theorem dX11_walk_113 : decode cX11_walk 113 = .ok (.imul, 1) := by decide +kernel
theorem dX11_walk_114 : decode cX11_walk 114 = .ok (.iload 10, 2) := by decide +kernel
theorem dX11_walk_116 : decode cX11_walk 116 = .ok (.iadd, 1) := by decide +kernel
theorem dX11_walk_117 : decode cX11_walk 117 = .ok (.iaload, 1) := by decide +kernel
theorem dX11_walk_118 : decode cX11_walk 118 = .ok (.ifCond .lt 7, 3) := by decide +kernel
theorem dX11_walk_121 : decode cX11_walk 121 = .ok (.iconst 1, 1) := by decide +kernel
theorem dX11_walk_122 : decode cX11_walk 122 = .ok (.goto 4, 3) := by decide +kernel
theorem dX11_walk_125 : decode cX11_walk 125 = .ok (.iconst 0, 1) := by decide +kernel
theorem dX11_walk_126 : decode cX11_walk 126 = .ok (.istore 11, 2) := by decide +kernel
theorem dX11_walk_128 : decode cX11_walk 128 = .ok (.iload_n 2, 1) := by decide +kernel
theorem dX11_walk_129 : decode cX11_walk 129 = .ok (.ifCond .eq 48, 3) := by decide +kernel
theorem dX11_walk_132 : decode cX11_walk 132 = .ok (.iload 9, 2) := by decide +kernel
theorem dX11_walk_134 : decode cX11_walk 134 = .ok (.bipush 24, 2) := by decide +kernel
theorem dX11_walk_136 : decode cX11_walk 136 = .ok (.if_icmp .eq 41, 3) := by decide +kernel
theorem dX11_walk_139 : decode cX11_walk 139 = .ok (.iload 10, 2) := by decide +kernel
theorem dX11_walk_141 : decode cX11_walk 141 = .ok (.bipush 24, 2) := by decide +kernel
theorem dX11_walk_143 : decode cX11_walk 143 = .ok (.if_icmp .eq 14, 3) := by decide +kernel
theorem dX11_walk_146 : decode cX11_walk 146 = .ok (.iload 10, 2) := by decide +kernel
theorem dX11_walk_148 : decode cX11_walk 148 = .ok (.aload_n 0, 1) := by decide +kernel
theorem dX11_walk_149 : decode cX11_walk 149 = .ok (.getfield 20, 3) := by decide +kernel
theorem dX11_walk_152 : decode cX11_walk 152 = .ok (.iconst 3, 1) := by decide +kernel
theorem dX11_walk_153 : decode cX11_walk 153 = .ok (.iaload, 1) := by decide +kernel
theorem dX11_walk_154 : decode cX11_walk 154 = .ok (.if_icmp .ge 23, 3) := by decide +kernel
theorem dX11_walk_157 : decode cX11_walk 157 = .ok (.aload_n 0, 1) := by decide +kernel
theorem dX11_walk_158 : decode cX11_walk 158 = .ok (.getfield 32, 3) := by decide +kernel
theorem dX11_walk_161 : decode cX11_walk 161 = .ok (.bipush 24, 2) := by decide +kernel
theorem dX11_walk_163 : decode cX11_walk 163 = .ok (.iload 10, 2) := by decide +kernel
theorem dX11_walk_165 : decode cX11_walk 165 = .ok (.imul, 1) := by decide +kernel
theorem dX11_walk_166 : decode cX11_walk 166 = .ok (.iload 9, 2) := by decide +kernel
theorem dX11_walk_168 : decode cX11_walk 168 = .ok (.iadd, 1) := by decide +kernel
theorem dX11_walk_169 : decode cX11_walk 169 = .ok (.iaload, 1) := by decide +kernel
theorem dX11_walk_170 : decode cX11_walk 170 = .ok (.ifCond .lt 7, 3) := by decide +kernel
theorem dX11_walk_173 : decode cX11_walk 173 = .ok (.iconst 1, 1) := by decide +kernel
theorem dX11_walk_174 : decode cX11_walk 174 = .ok (.goto 4, 3) := by decide +kernel
theorem dX11_walk_177 : decode cX11_walk 177 = .ok (.iconst 0, 1) := by decide +kernel
theorem dX11_walk_178 : decode cX11_walk 178 = .ok (.istore 12, 2) := by decide +kernel
theorem dX11_walk_180 : decode cX11_walk 180 = .ok (.iload 11, 2) := by decide +kernel
theorem dX11_walk_182 : decode cX11_walk 182 = .ok (.ifCond .ne 11, 3) := by decide +kernel
theorem dX11_walk_185 : decode cX11_walk 185 = .ok (.iload 12, 2) := by decide +kernel
theorem dX11_walk_187 : decode cX11_walk 187 = .ok (.ifCond .ne 6, 3) := by decide +kernel
theorem dX11_walk_190 : decode cX11_walk 190 = .ok (.goto 83, 3) := by decide +kernel
theorem dX11_walk_193 : decode cX11_walk 193 = .ok (.iload 7, 2) := by decide +kernel
theorem dX11_walk_195 : decode cX11_walk 195 = .ok (.iload 8, 2) := by decide +kernel
theorem dX11_walk_197 : decode cX11_walk 197 = .ok (.iload 10, 2) := by decide +kernel
theorem dX11_walk_199 : decode cX11_walk 199 = .ok (.invokestatic 318, 3) := by decide +kernel
theorem dX11_walk_202 : decode cX11_walk 202 = .ok (.istore 13, 2) := by decide +kernel
theorem dX11_walk_204 : decode cX11_walk 204 = .ok (.aload_n 0, 1) := by decide +kernel
theorem dX11_walk_205 : decode cX11_walk 205 = .ok (.getfield 66, 3) := by decide +kernel
theorem dX11_walk_208 : decode cX11_walk 208 = .ok (.iload 13, 2) := by decide +kernel
theorem dX11_walk_210 : decode cX11_walk 210 = .ok (.iaload, 1) := by decide +kernel
theorem dX11_walk_211 : decode cX11_walk 211 = .ok (.ifCond .ge 62, 3) := by decide +kernel
theorem dX11_walk_214 : decode cX11_walk 214 = .ok (.iload_n 3, 1) := by decide +kernel
theorem dX11_walk_215 : decode cX11_walk 215 = .ok (.aload_n 0, 1) := by decide +kernel
theorem dX11_walk_216 : decode cX11_walk 216 = .ok (.iload 13, 2) := by decide +kernel
theorem dX11_walk_218 : decode cX11_walk 218 = .ok (.invokevirtual 343, 3) := by decide +kernel
theorem dX11_walk_221 : decode cX11_walk 221 = .ok (.isub, 1) := by decide +kernel
theorem dX11_walk_222 : decode cX11_walk 222 = .ok (.iload 4, 2) := by decide +kernel
theorem dX11_walk_224 : decode cX11_walk 224 = .ok (.if_icmp .gt 49, 3) := by decide +kernel
theorem dX11_walk_227 : decode cX11_walk 227 = .ok (.iload 11, 2) := by decide +kernel
theorem dX11_walk_229 : decode cX11_walk 229 = .ok (.ifCond .eq 16, 3) := by decide +kernel
theorem dX11_walk_232 : decode cX11_walk 232 = .ok (.aload_n 0, 1) := by decide +kernel
theorem dX11_walk_233 : decode cX11_walk 233 = .ok (.iload 13, 2) := by decide +kernel
theorem dX11_walk_235 : decode cX11_walk 235 = .ok (.iload_n 3, 1) := by decide +kernel
theorem dX11_walk_236 : decode cX11_walk 236 = .ok (.invokevirtual 346, 3) := by decide +kernel
theorem dX11_walk_239 : decode cX11_walk 239 = .ok (.ifCond .ne 6, 3) := by decide +kernel
theorem dX11_walk_242 : decode cX11_walk 242 = .ok (.goto 31, 3) := by decide +kernel
theorem dX11_walk_245 : decode cX11_walk 245 = .ok (.aload_n 0, 1) := by decide +kernel
theorem dX11_walk_246 : decode cX11_walk 246 = .ok (.getfield 66, 3) := by decide +kernel
theorem dX11_walk_249 : decode cX11_walk 249 = .ok (.iload 13, 2) := by decide +kernel
theorem dX11_walk_251 : decode cX11_walk 251 = .ok (.aload_n 0, 1) := by decide +kernel
theorem dX11_walk_252 : decode cX11_walk 252 = .ok (.getfield 66, 3) := by decide +kernel
theorem dX11_walk_255 : decode cX11_walk 255 = .ok (.iload 7, 2) := by decide +kernel
theorem dX11_walk_257 : decode cX11_walk 257 = .ok (.iaload, 1) := by decide +kernel
theorem dX11_walk_258 : decode cX11_walk 258 = .ok (.iconst 1, 1) := by decide +kernel
theorem dX11_walk_259 : decode cX11_walk 259 = .ok (.iadd, 1) := by decide +kernel
theorem dX11_walk_260 : decode cX11_walk 260 = .ok (.iastore, 1) := by decide +kernel
theorem dX11_walk_261 : decode cX11_walk 261 = .ok (.aload_n 0, 1) := by decide +kernel
theorem dX11_walk_262 : decode cX11_walk 262 = .ok (.getfield 63, 3) := by decide +kernel
theorem dX11_walk_265 : decode cX11_walk 265 = .ok (.iload 5, 2) := by decide +kernel
theorem dX11_walk_267 : decode cX11_walk 267 = .ok (.iload 13, 2) := by decide +kernel
theorem dX11_walk_269 : decode cX11_walk 269 = .ok (.iastore, 1) := by decide +kernel
theorem dX11_walk_270 : decode cX11_walk 270 = .ok (.iinc 5 1, 3) := by decide +kernel
theorem dX11_walk_273 : decode cX11_walk 273 = .ok (.iinc 10 1, 3) := by decide +kernel
theorem dX11_walk_276 : decode cX11_walk 276 = .ok (.goto (-189), 3) := by decide +kernel
theorem dX11_walk_279 : decode cX11_walk 279 = .ok (.iinc 8 1, 3) := by decide +kernel
theorem dX11_walk_282 : decode cX11_walk 282 = .ok (.goto (-218), 3) := by decide +kernel
theorem dX11_walk_285 : decode cX11_walk 285 = .ok (.iinc 6 1, 3) := by decide +kernel
theorem dX11_walk_288 : decode cX11_walk 288 = .ok (.goto (-243), 3) := by decide +kernel
theorem dX11_walk_291 : decode cX11_walk 291 = .ok (.iload 5, 2) := by decide +kernel
theorem dX11_walk_293 : decode cX11_walk 293 = .ok (.ireturn, 1) := by decide +kernel
theorem dX11_ever_0 : decode cX11_ever 0 = .ok (.aload_n 0, 1) := by decide +kernel
theorem dX11_ever_1 : decode cX11_ever 1 = .ok (.invokevirtual 155, 3) := by decide +kernel
theorem dX11_ever_4 : decode cX11_ever 4 = .ok (.aload_n 0, 1) := by decide +kernel
theorem dX11_ever_5 : decode cX11_ever 5 = .ok (.getfield 164, 3) := by decide +kernel
theorem dX11_ever_8 : decode cX11_ever 8 = .ok (.ifCond .ne 9, 3) := by decide +kernel
theorem dX11_ever_11 : decode cX11_ever 11 = .ok (.aload_n 0, 1) := by decide +kernel
theorem dX11_ever_12 : decode cX11_ever 12 = .ok (.iconst 1, 1) := by decide +kernel
theorem dX11_ever_13 : decode cX11_ever 13 = .ok (.invokevirtual 158, 3) := by decide +kernel
theorem dX11_ever_16 : decode cX11_ever 16 = .ok (.ireturn, 1) := by decide +kernel
theorem dX11_ever_17 : decode cX11_ever 17 = .ok (.aload_n 0, 1) := by decide +kernel
theorem dX11_ever_18 : decode cX11_ever 18 = .ok (.invokestatic 340, 3) := by decide +kernel
theorem dX11_ever_21 : decode cX11_ever 21 = .ok (.iconst 0, 1) := by decide +kernel
theorem dX11_ever_22 : decode cX11_ever 22 = .ok (.aload_n 0, 1) := by decide +kernel
theorem dX11_ever_23 : decode cX11_ever 23 = .ok (.getfield 20, 3) := by decide +kernel
theorem dX11_ever_26 : decode cX11_ever 26 = .ok (.iconst 4, 1) := by decide +kernel
theorem dX11_ever_27 : decode cX11_ever 27 = .ok (.iaload, 1) := by decide +kernel
theorem dX11_ever_28 : decode cX11_ever 28 = .ok (.bipush 8, 2) := by decide +kernel
theorem dX11_ever_30 : decode cX11_ever 30 = .ok (.invokevirtual 349, 3) := by decide +kernel
theorem dX11_ever_33 : decode cX11_ever 33 = .ok (.istore_n 1, 1) := by decide +kernel
theorem dX11_ever_34 : decode cX11_ever 34 = .ok (.iconst 0, 1) := by decide +kernel
theorem dX11_ever_35 : decode cX11_ever 35 = .ok (.istore_n 2, 1) := by decide +kernel
theorem dX11_ever_36 : decode cX11_ever 36 = .ok (.iconst 0, 1) := by decide +kernel
theorem dX11_ever_37 : decode cX11_ever 37 = .ok (.istore_n 3, 1) := by decide +kernel
theorem dX11_ever_38 : decode cX11_ever 38 = .ok (.iload_n 3, 1) := by decide +kernel
theorem dX11_ever_39 : decode cX11_ever 39 = .ok (.iload_n 1, 1) := by decide +kernel
theorem dX11_ever_40 : decode cX11_ever 40 = .ok (.if_icmp .ge 38, 3) := by decide +kernel
theorem dX11_ever_43 : decode cX11_ever 43 = .ok (.aload_n 0, 1) := by decide +kernel
theorem dX11_ever_44 : decode cX11_ever 44 = .ok (.aload_n 0, 1) := by decide +kernel
theorem dX11_ever_45 : decode cX11_ever 45 = .ok (.getfield 63, 3) := by decide +kernel
theorem dX11_ever_48 : decode cX11_ever 48 = .ok (.iload_n 3, 1) := by decide +kernel
theorem dX11_ever_49 : decode cX11_ever 49 = .ok (.iaload, 1) := by decide +kernel
theorem dX11_ever_50 : decode cX11_ever 50 = .ok (.invokevirtual 343, 3) := by decide +kernel
theorem dX11_ever_53 : decode cX11_ever 53 = .ok (.iload_n 2, 1) := by decide +kernel
theorem dX11_ever_54 : decode cX11_ever 54 = .ok (.if_icmp .le 16, 3) := by decide +kernel
theorem dX11_ever_57 : decode cX11_ever 57 = .ok (.aload_n 0, 1) := by decide +kernel
theorem dX11_ever_58 : decode cX11_ever 58 = .ok (.aload_n 0, 1) := by decide +kernel
theorem dX11_ever_59 : decode cX11_ever 59 = .ok (.getfield 63, 3) := by decide +kernel
theorem dX11_ever_62 : decode cX11_ever 62 = .ok (.iload_n 3, 1) := by decide +kernel
theorem dX11_ever_63 : decode cX11_ever 63 = .ok (.iaload, 1) := by decide +kernel
theorem dX11_ever_64 : decode cX11_ever 64 = .ok (.invokevirtual 343, 3) := by decide +kernel
theorem dX11_ever_67 : decode cX11_ever 67 = .ok (.goto 4, 3) := by decide +kernel
theorem dX11_ever_70 : decode cX11_ever 70 = .ok (.iload_n 2, 1) := by decide +kernel
theorem dX11_ever_71 : decode cX11_ever 71 = .ok (.istore_n 2, 1) := by decide +kernel
theorem dX11_ever_72 : decode cX11_ever 72 = .ok (.iinc 3 1, 3) := by decide +kernel
theorem dX11_ever_75 : decode cX11_ever 75 = .ok (.goto (-37), 3) := by decide +kernel
theorem dX11_ever_78 : decode cX11_ever 78 = .ok (.iload_n 2, 1) := by decide +kernel
theorem dX11_ever_79 : decode cX11_ever 79 = .ok (.ireturn, 1) := by decide +kernel
theorem dX11_mayBe_0 : decode cX11_mayBe 0 = .ok (.iload_n 2, 1) := by decide +kernel
theorem dX11_mayBe_1 : decode cX11_mayBe 1 = .ok (.iconst (-1), 1) := by decide +kernel
theorem dX11_mayBe_2 : decode cX11_mayBe 2 = .ok (.if_icmp .eq 19, 3) := by decide +kernel
theorem dX11_mayBe_5 : decode cX11_mayBe 5 = .ok (.aload_n 0, 1) := by decide +kernel
theorem dX11_mayBe_6 : decode cX11_mayBe 6 = .ok (.iload_n 1, 1) := by decide +kernel
theorem dX11_mayBe_7 : decode cX11_mayBe 7 = .ok (.invokevirtual 309, 3) := by decide +kernel
theorem dX11_mayBe_10 : decode cX11_mayBe 10 = .ok (.ifCond .eq 15, 3) := by decide +kernel
theorem dX11_mayBe_13 : decode cX11_mayBe 13 = .ok (.aload_n 0, 1) := by decide +kernel
theorem dX11_mayBe_14 : decode cX11_mayBe 14 = .ok (.iload_n 2, 1) := by decide +kernel
theorem dX11_mayBe_15 : decode cX11_mayBe 15 = .ok (.invokevirtual 249, 3) := by decide +kernel
theorem dX11_mayBe_18 : decode cX11_mayBe 18 = .ok (.ifCond .eq 7, 3) := by decide +kernel
theorem dX11_mayBe_21 : decode cX11_mayBe 21 = .ok (.iconst 1, 1) := by decide +kernel
theorem dX11_mayBe_22 : decode cX11_mayBe 22 = .ok (.goto 4, 3) := by decide +kernel
theorem dX11_mayBe_25 : decode cX11_mayBe 25 = .ok (.iconst 0, 1) := by decide +kernel
theorem dX11_mayBe_26 : decode cX11_mayBe 26 = .ok (.ireturn, 1) := by decide +kernel
theorem dX11_isGoodOrNone_0 : decode cX11_isGoodOrNone 0 = .ok (.iload_n 1, 1) := by decide +kernel
theorem dX11_isGoodOrNone_1 : decode cX11_isGoodOrNone 1 = .ok (.iconst (-1), 1) := by decide +kernel
theorem dX11_isGoodOrNone_2 : decode cX11_isGoodOrNone 2 = .ok (.if_icmp .eq 11, 3) := by decide +kernel
theorem dX11_isGoodOrNone_5 : decode cX11_isGoodOrNone 5 = .ok (.aload_n 0, 1) := by decide +kernel
theorem dX11_isGoodOrNone_6 : decode cX11_isGoodOrNone 6 = .ok (.iload_n 1, 1) := by decide +kernel
theorem dX11_isGoodOrNone_7 : decode cX11_isGoodOrNone 7 = .ok (.invokevirtual 240, 3) := by decide +kernel
theorem dX11_isGoodOrNone_10 : decode cX11_isGoodOrNone 10 = .ok (.ifCond .eq 7, 3) := by decide +kernel
theorem dX11_isGoodOrNone_13 : decode cX11_isGoodOrNone 13 = .ok (.iconst 1, 1) := by decide +kernel
theorem dX11_isGoodOrNone_14 : decode cX11_isGoodOrNone 14 = .ok (.goto 4, 3) := by decide +kernel
theorem dX11_isGoodOrNone_17 : decode cX11_isGoodOrNone 17 = .ok (.iconst 0, 1) := by decide +kernel
theorem dX11_isGoodOrNone_18 : decode cX11_isGoodOrNone 18 = .ok (.ireturn, 1) := by decide +kernel
theorem dX11_steps_0 : decode cX11_steps 0 = .ok (.aload_n 0, 1) := by decide +kernel
theorem dX11_steps_1 : decode cX11_steps 1 = .ok (.invokevirtual 155, 3) := by decide +kernel
theorem dX11_steps_4 : decode cX11_steps 4 = .ok (.aload_n 0, 1) := by decide +kernel
theorem dX11_steps_5 : decode cX11_steps 5 = .ok (.getfield 164, 3) := by decide +kernel
theorem dX11_steps_8 : decode cX11_steps 8 = .ok (.ifCond .eq 30, 3) := by decide +kernel
theorem dX11_steps_11 : decode cX11_steps 11 = .ok (.aload_n 0, 1) := by decide +kernel
theorem dX11_steps_12 : decode cX11_steps 12 = .ok (.iconst 0, 1) := by decide +kernel
theorem dX11_steps_13 : decode cX11_steps 13 = .ok (.iload_n 1, 1) := by decide +kernel
theorem dX11_steps_14 : decode cX11_steps 14 = .ok (.invokevirtual 353, 3) := by decide +kernel
theorem dX11_steps_17 : decode cX11_steps 17 = .ok (.ifCond .eq 21, 3) := by decide +kernel
theorem dX11_steps_20 : decode cX11_steps 20 = .ok (.aload_n 0, 1) := by decide +kernel
theorem dX11_steps_21 : decode cX11_steps 21 = .ok (.iconst 1, 1) := by decide +kernel
theorem dX11_steps_22 : decode cX11_steps 22 = .ok (.iload_n 2, 1) := by decide +kernel
theorem dX11_steps_23 : decode cX11_steps 23 = .ok (.invokevirtual 353, 3) := by decide +kernel
theorem dX11_steps_26 : decode cX11_steps 26 = .ok (.ifCond .eq 12, 3) := by decide +kernel
theorem dX11_steps_29 : decode cX11_steps 29 = .ok (.aload_n 0, 1) := by decide +kernel
theorem dX11_steps_30 : decode cX11_steps 30 = .ok (.iconst 2, 1) := by decide +kernel
theorem dX11_steps_31 : decode cX11_steps 31 = .ok (.iload_n 3, 1) := by decide +kernel
theorem dX11_steps_32 : decode cX11_steps 32 = .ok (.invokevirtual 353, 3) := by decide +kernel
theorem dX11_steps_35 : decode cX11_steps 35 = .ok (.ifCond .ne 9, 3) := by decide +kernel
theorem dX11_steps_38 : decode cX11_steps 38 = .ok (.aload_n 0, 1) := by decide +kernel
theorem dX11_steps_39 : decode cX11_steps 39 = .ok (.iconst 1, 1) := by decide +kernel
theorem dX11_steps_40 : decode cX11_steps 40 = .ok (.invokevirtual 158, 3) := by decide +kernel
theorem dX11_steps_43 : decode cX11_steps 43 = .ok (.ireturn, 1) := by decide +kernel
theorem dX11_steps_44 : decode cX11_steps 44 = .ok (.iload 4, 2) := by decide +kernel
theorem dX11_steps_46 : decode cX11_steps 46 = .ok (.iconst 0, 1) := by decide +kernel
theorem dX11_steps_47 : decode cX11_steps 47 = .ok (.bipush 8, 2) := by decide +kernel
theorem dX11_steps_49 : decode cX11_steps 49 = .ok (.invokestatic 143, 3) := by decide +kernel
theorem dX11_steps_52 : decode cX11_steps 52 = .ok (.ifCond .ne 9, 3) := by decide +kernel
theorem dX11_steps_55 : decode cX11_steps 55 = .ok (.aload_n 0, 1) := by decide +kernel
theorem dX11_steps_56 : decode cX11_steps 56 = .ok (.iconst 2, 1) := by decide +kernel
theorem dX11_steps_57 : decode cX11_steps 57 = .ok (.invokevirtual 158, 3) := by decide +kernel
theorem dX11_steps_60 : decode cX11_steps 60 = .ok (.ireturn, 1) := by decide +kernel
theorem dX11_steps_61 : decode cX11_steps 61 = .ok (.aload_n 0, 1) := by decide +kernel
theorem dX11_steps_62 : decode cX11_steps 62 = .ok (.iload_n 1, 1) := by decide +kernel
theorem dX11_steps_63 : decode cX11_steps 63 = .ok (.invokevirtual 356, 3) := by decide +kernel
theorem dX11_steps_66 : decode cX11_steps 66 = .ok (.ifCond .eq 19, 3) := by decide +kernel
theorem dX11_steps_69 : decode cX11_steps 69 = .ok (.aload_n 0, 1) := by decide +kernel
theorem dX11_steps_70 : decode cX11_steps 70 = .ok (.iload_n 2, 1) := by decide +kernel
theorem dX11_steps_71 : decode cX11_steps 71 = .ok (.invokevirtual 356, 3) := by decide +kernel
theorem dX11_steps_74 : decode cX11_steps 74 = .ok (.ifCond .eq 11, 3) := by decide +kernel
theorem dX11_steps_77 : decode cX11_steps 77 = .ok (.aload_n 0, 1) := by decide +kernel
theorem dX11_steps_78 : decode cX11_steps 78 = .ok (.iload_n 3, 1) := by decide +kernel
theorem dX11_steps_79 : decode cX11_steps 79 = .ok (.invokevirtual 356, 3) := by decide +kernel
theorem dX11_steps_82 : decode cX11_steps 82 = .ok (.ifCond .ne 9, 3) := by decide +kernel
theorem dX11_steps_85 : decode cX11_steps 85 = .ok (.aload_n 0, 1) := by decide +kernel
theorem dX11_steps_86 : decode cX11_steps 86 = .ok (.iconst 5, 1) := by decide +kernel
theorem dX11_steps_87 : decode cX11_steps 87 = .ok (.invokevirtual 158, 3) := by decide +kernel
theorem dX11_steps_90 : decode cX11_steps 90 = .ok (.ireturn, 1) := by decide +kernel
theorem dX11_steps_91 : decode cX11_steps 91 = .ok (.iload_n 1, 1) := by decide +kernel
theorem dX11_steps_92 : decode cX11_steps 92 = .ok (.iconst (-1), 1) := by decide +kernel
theorem dX11_steps_93 : decode cX11_steps 93 = .ok (.if_icmp .ne 8, 3) := by decide +kernel
theorem dX11_steps_96 : decode cX11_steps 96 = .ok (.bipush 24, 2) := by decide +kernel
theorem dX11_steps_98 : decode cX11_steps 98 = .ok (.goto 4, 3) := by decide +kernel
theorem dX11_steps_101 : decode cX11_steps 101 = .ok (.iload_n 1, 1) := by decide +kernel
theorem dX11_steps_102 : decode cX11_steps 102 = .ok (.bipush 25, 2) := by decide +kernel
theorem dX11_steps_104 : decode cX11_steps 104 = .ok (.iload_n 2, 1) := by decide +kernel
theorem dX11_steps_105 : decode cX11_steps 105 = .ok (.iconst (-1), 1) := by decide +kernel
theorem dX11_steps_106 : decode cX11_steps 106 = .ok (.if_icmp .ne 8, 3) := by decide +kernel
theorem dX11_steps_109 : decode cX11_steps 109 = .ok (.bipush 24, 2) := by decide +kernel
theorem dX11_steps_111 : decode cX11_steps 111 = .ok (.goto 4, 3) := by decide +kernel
theorem dX11_steps_114 : decode cX11_steps 114 = .ok (.iload_n 2, 1) := by decide +kernel
theorem dX11_steps_115 : decode cX11_steps 115 = .ok (.imul, 1) := by decide +kernel
theorem dX11_steps_116 : decode cX11_steps 116 = .ok (.iadd, 1) := by decide +kernel
theorem dX11_steps_117 : decode cX11_steps 117 = .ok (.sipush 625, 3) := by decide +kernel
theorem dX11_steps_120 : decode cX11_steps 120 = .ok (.iload_n 3, 1) := by decide +kernel
theorem dX11_steps_121 : decode cX11_steps 121 = .ok (.iconst (-1), 1) := by decide +kernel
theorem dX11_steps_122 : decode cX11_steps 122 = .ok (.if_icmp .ne 8, 3) := by decide +kernel
theorem dX11_steps_125 : decode cX11_steps 125 = .ok (.bipush 24, 2) := by decide +kernel
theorem dX11_steps_127 : decode cX11_steps 127 = .ok (.goto 4, 3) := by decide +kernel
theorem dX11_steps_130 : decode cX11_steps 130 = .ok (.iload_n 3, 1) := by decide +kernel
theorem dX11_steps_131 : decode cX11_steps 131 = .ok (.imul, 1) := by decide +kernel
theorem dX11_steps_132 : decode cX11_steps 132 = .ok (.iadd, 1) := by decide +kernel
theorem dX11_steps_133 : decode cX11_steps 133 = .ok (.istore 5, 2) := by decide +kernel
theorem dX11_steps_135 : decode cX11_steps 135 = .ok (.aload_n 0, 1) := by decide +kernel
theorem dX11_steps_136 : decode cX11_steps 136 = .ok (.aload_n 0, 1) := by decide +kernel
theorem dX11_steps_137 : decode cX11_steps 137 = .ok (.invokevirtual 331, 3) := by decide +kernel
theorem dX11_steps_140 : decode cX11_steps 140 = .ok (.iconst 1, 1) := by decide +kernel
theorem dX11_steps_141 : decode cX11_steps 141 = .ok (.aload_n 0, 1) := by decide +kernel
theorem dX11_steps_142 : decode cX11_steps 142 = .ok (.getfield 26, 3) := by decide +kernel
theorem dX11_steps_145 : decode cX11_steps 145 = .ok (.iconst 4, 1) := by decide +kernel
theorem dX11_steps_146 : decode cX11_steps 146 = .ok (.iaload, 1) := by decide +kernel
theorem dX11_steps_147 : decode cX11_steps 147 = .ok (.iload 4, 2) := by decide +kernel
theorem dX11_steps_149 : decode cX11_steps 149 = .ok (.invokevirtual 349, 3) := by decide +kernel
theorem dX11_steps_152 : decode cX11_steps 152 = .ok (.pop, 1) := by decide +kernel
theorem dX11_steps_153 : decode cX11_steps 153 = .ok (.aload_n 0, 1) := by decide +kernel
theorem dX11_steps_154 : decode cX11_steps 154 = .ok (.getfield 66, 3) := by decide +kernel
theorem dX11_steps_157 : decode cX11_steps 157 = .ok (.iload 5, 2) := by decide +kernel
theorem dX11_steps_159 : decode cX11_steps 159 = .ok (.iaload, 1) := by decide +kernel
theorem dX11_steps_160 : decode cX11_steps 160 = .ok (.ifCond .ge 8, 3) := by decide +kernel
theorem dX11_steps_163 : decode cX11_steps 163 = .ok (.bipush (-2), 2) := by decide +kernel
theorem dX11_steps_165 : decode cX11_steps 165 = .ok (.goto 10, 3) := by decide +kernel
theorem dX11_steps_168 : decode cX11_steps 168 = .ok (.aload_n 0, 1) := by decide +kernel
theorem dX11_steps_169 : decode cX11_steps 169 = .ok (.getfield 66, 3) := by decide +kernel
theorem dX11_steps_172 : decode cX11_steps 172 = .ok (.iload 5, 2) := by decide +kernel
theorem dX11_steps_174 : decode cX11_steps 174 = .ok (.iaload, 1) := by decide +kernel
theorem dX11_steps_175 : decode cX11_steps 175 = .ok (.ireturn, 1) := by decide +kernel
theorem dX11_weights_0 : decode cX11_weights 0 = .ok (.iconst 0, 1) := by decide +kernel
theorem dX11_weights_1 : decode cX11_weights 1 = .ok (.istore_n 1, 1) := by decide +kernel
theorem dX11_weights_2 : decode cX11_weights 2 = .ok (.iconst 0, 1) := by decide +kernel
theorem dX11_weights_3 : decode cX11_weights 3 = .ok (.istore_n 2, 1) := by decide +kernel
theorem dX11_weights_4 : decode cX11_weights 4 = .ok (.iload_n 2, 1) := by decide +kernel
theorem dX11_weights_5 : decode cX11_weights 5 = .ok (.aload_n 0, 1) := by decide +kernel
theorem dX11_weights_6 : decode cX11_weights 6 = .ok (.getfield 20, 3) := by decide +kernel
theorem dX11_weights_9 : decode cX11_weights 9 = .ok (.iconst 5, 1) := by decide +kernel
theorem dX11_weights_10 : decode cX11_weights 10 = .ok (.iaload, 1) := by decide +kernel
theorem dX11_weights_11 : decode cX11_weights 11 = .ok (.if_icmp .ge 22, 3) := by decide +kernel
theorem dX11_weights_14 : decode cX11_weights 14 = .ok (.iload_n 1, 1) := by decide +kernel
theorem dX11_weights_15 : decode cX11_weights 15 = .ok (.aload_n 0, 1) := by decide +kernel
theorem dX11_weights_16 : decode cX11_weights 16 = .ok (.getfield 20, 3) := by decide +kernel
theorem dX11_weights_19 : decode cX11_weights 19 = .ok (.sipush 309, 3) := by decide +kernel
theorem dX11_weights_22 : decode cX11_weights 22 = .ok (.iload_n 2, 1) := by decide +kernel
theorem dX11_weights_23 : decode cX11_weights 23 = .ok (.iadd, 1) := by decide +kernel
theorem dX11_weights_24 : decode cX11_weights 24 = .ok (.iaload, 1) := by decide +kernel
theorem dX11_weights_25 : decode cX11_weights 25 = .ok (.iadd, 1) := by decide +kernel
theorem dX11_weights_26 : decode cX11_weights 26 = .ok (.istore_n 1, 1) := by decide +kernel
theorem dX11_weights_27 : decode cX11_weights 27 = .ok (.iinc 2 1, 3) := by decide +kernel
theorem dX11_weights_30 : decode cX11_weights 30 = .ok (.goto (-26), 3) := by decide +kernel
theorem dX11_weights_33 : decode cX11_weights 33 = .ok (.iload_n 1, 1) := by decide +kernel
theorem dX11_weights_34 : decode cX11_weights 34 = .ok (.ireturn, 1) := by decide +kernel
theorem dX11_power_0 : decode cX11_power 0 = .ok (.lconst 1, 1) := by decide +kernel
theorem dX11_power_1 : decode cX11_power 1 = .ok (.lstore_n 2, 1) := by decide +kernel
theorem dX11_power_2 : decode cX11_power 2 = .ok (.iconst 0, 1) := by decide +kernel
theorem dX11_power_3 : decode cX11_power 3 = .ok (.istore 4, 2) := by decide +kernel
theorem dX11_power_5 : decode cX11_power 5 = .ok (.iload 4, 2) := by decide +kernel
theorem dX11_power_7 : decode cX11_power 7 = .ok (.iload_n 1, 1) := by decide +kernel
theorem dX11_power_8 : decode cX11_power 8 = .ok (.if_icmp .ge 17, 3) := by decide +kernel
theorem dX11_power_11 : decode cX11_power 11 = .ok (.lload_n 2, 1) := by decide +kernel
theorem dX11_power_12 : decode cX11_power 12 = .ok (.aload_n 0, 1) := by decide +kernel
theorem dX11_power_13 : decode cX11_power 13 = .ok (.invokevirtual 359, 3) := by decide +kernel
theorem dX11_power_16 : decode cX11_power 16 = .ok (.i2l, 1) := by decide +kernel
theorem dX11_power_17 : decode cX11_power 17 = .ok (.lmul, 1) := by decide +kernel
theorem dX11_power_18 : decode cX11_power 18 = .ok (.lstore_n 2, 1) := by decide +kernel
theorem dX11_power_19 : decode cX11_power 19 = .ok (.iinc 4 1, 3) := by decide +kernel
theorem dX11_power_22 : decode cX11_power 22 = .ok (.goto (-17), 3) := by decide +kernel
theorem dX11_power_25 : decode cX11_power 25 = .ok (.lload_n 2, 1) := by decide +kernel
theorem dX11_power_26 : decode cX11_power 26 = .ok (.lreturn, 1) := by decide +kernel
theorem dX11_hopeOf_0 : decode cX11_hopeOf 0 = .ok (.iload_n 2, 1) := by decide +kernel
theorem dX11_hopeOf_1 : decode cX11_hopeOf 1 = .ok (.ifCond .ne 5, 3) := by decide +kernel
theorem dX11_hopeOf_4 : decode cX11_hopeOf 4 = .ok (.lconst 0, 1) := by decide +kernel
theorem dX11_hopeOf_5 : decode cX11_hopeOf 5 = .ok (.lreturn, 1) := by decide +kernel
theorem dX11_hopeOf_6 : decode cX11_hopeOf 6 = .ok (.sipush 15625, 3) := by decide +kernel
theorem dX11_hopeOf_9 : decode cX11_hopeOf 9 = .ok (.iload_n 2, 1) := by decide +kernel
theorem dX11_hopeOf_10 : decode cX11_hopeOf 10 = .ok (.iconst 1, 1) := by decide +kernel
theorem dX11_hopeOf_11 : decode cX11_hopeOf 11 = .ok (.isub, 1) := by decide +kernel
theorem dX11_hopeOf_12 : decode cX11_hopeOf 12 = .ok (.imul, 1) := by decide +kernel
theorem dX11_hopeOf_13 : decode cX11_hopeOf 13 = .ok (.iload_n 1, 1) := by decide +kernel
theorem dX11_hopeOf_14 : decode cX11_hopeOf 14 = .ok (.iadd, 1) := by decide +kernel
theorem dX11_hopeOf_15 : decode cX11_hopeOf 15 = .ok (.istore_n 3, 1) := by decide +kernel
theorem dX11_hopeOf_16 : decode cX11_hopeOf 16 = .ok (.aload_n 0, 1) := by decide +kernel
theorem dX11_hopeOf_17 : decode cX11_hopeOf 17 = .ok (.getfield 70, 3) := by decide +kernel
theorem dX11_hopeOf_20 : decode cX11_hopeOf 20 = .ok (.iload_n 3, 1) := by decide +kernel
theorem dX11_hopeOf_21 : decode cX11_hopeOf 21 = .ok (.laload, 1) := by decide +kernel
theorem dX11_hopeOf_22 : decode cX11_hopeOf 22 = .ok (.lconst 0, 1) := by decide +kernel
theorem dX11_hopeOf_23 : decode cX11_hopeOf 23 = .ok (.lcmp, 1) := by decide +kernel
theorem dX11_hopeOf_24 : decode cX11_hopeOf 24 = .ok (.ifCond .lt 10, 3) := by decide +kernel
theorem dX11_hopeOf_27 : decode cX11_hopeOf 27 = .ok (.aload_n 0, 1) := by decide +kernel
theorem dX11_hopeOf_28 : decode cX11_hopeOf 28 = .ok (.getfield 70, 3) := by decide +kernel
theorem dX11_hopeOf_31 : decode cX11_hopeOf 31 = .ok (.iload_n 3, 1) := by decide +kernel
theorem dX11_hopeOf_32 : decode cX11_hopeOf 32 = .ok (.laload, 1) := by decide +kernel
theorem dX11_hopeOf_33 : decode cX11_hopeOf 33 = .ok (.lreturn, 1) := by decide +kernel
theorem dX11_hopeOf_34 : decode cX11_hopeOf 34 = .ok (.lconst 0, 1) := by decide +kernel
theorem dX11_hopeOf_35 : decode cX11_hopeOf 35 = .ok (.lstore 4, 2) := by decide +kernel
theorem dX11_hopeOf_37 : decode cX11_hopeOf 37 = .ok (.iconst 0, 1) := by decide +kernel
theorem dX11_hopeOf_38 : decode cX11_hopeOf 38 = .ok (.istore 6, 2) := by decide +kernel
theorem dX11_hopeOf_40 : decode cX11_hopeOf 40 = .ok (.iload 6, 2) := by decide +kernel
theorem dX11_hopeOf_42 : decode cX11_hopeOf 42 = .ok (.aload_n 0, 1) := by decide +kernel
theorem dX11_hopeOf_43 : decode cX11_hopeOf 43 = .ok (.getfield 20, 3) := by decide +kernel
theorem dX11_hopeOf_46 : decode cX11_hopeOf 46 = .ok (.iconst 5, 1) := by decide +kernel
theorem dX11_hopeOf_47 : decode cX11_hopeOf 47 = .ok (.iaload, 1) := by decide +kernel
theorem dX11_hopeOf_48 : decode cX11_hopeOf 48 = .ok (.if_icmp .ge 145, 3) := by decide +kernel
theorem dX11_hopeOf_51 : decode cX11_hopeOf 51 = .ok (.aload_n 0, 1) := by decide +kernel
theorem dX11_hopeOf_52 : decode cX11_hopeOf 52 = .ok (.iload_n 1, 1) := by decide +kernel
theorem dX11_hopeOf_53 : decode cX11_hopeOf 53 = .ok (.iload_n 2, 1) := by decide +kernel
theorem dX11_hopeOf_54 : decode cX11_hopeOf 54 = .ok (.iconst 1, 1) := by decide +kernel
theorem dX11_hopeOf_55 : decode cX11_hopeOf 55 = .ok (.isub, 1) := by decide +kernel
theorem dX11_hopeOf_56 : decode cX11_hopeOf 56 = .ok (.invokevirtual 362, 3) := by decide +kernel
theorem dX11_hopeOf_59 : decode cX11_hopeOf 59 = .ok (.lstore 7, 2) := by decide +kernel
theorem dX11_hopeOf_61 : decode cX11_hopeOf 61 = .ok (.iconst 0, 1) := by decide +kernel
theorem dX11_hopeOf_62 : decode cX11_hopeOf 62 = .ok (.istore 9, 2) := by decide +kernel
theorem dX11_hopeOf_64 : decode cX11_hopeOf 64 = .ok (.iload 9, 2) := by decide +kernel
theorem dX11_hopeOf_66 : decode cX11_hopeOf 66 = .ok (.aload_n 0, 1) := by decide +kernel
theorem dX11_hopeOf_67 : decode cX11_hopeOf 67 = .ok (.getfield 20, 3) := by decide +kernel
theorem dX11_hopeOf_70 : decode cX11_hopeOf 70 = .ok (.iconst 0, 1) := by decide +kernel
theorem dX11_hopeOf_71 : decode cX11_hopeOf 71 = .ok (.iaload, 1) := by decide +kernel
theorem dX11_hopeOf_72 : decode cX11_hopeOf 72 = .ok (.if_icmp .ge 95, 3) := by decide +kernel
theorem dX11_hopeOf_75 : decode cX11_hopeOf 75 = .ok (.iconst 0, 1) := by decide +kernel
theorem dX11_hopeOf_76 : decode cX11_hopeOf 76 = .ok (.istore 10, 2) := by decide +kernel
theorem dX11_hopeOf_78 : decode cX11_hopeOf 78 = .ok (.iload 10, 2) := by decide +kernel
theorem dX11_hopeOf_80 : decode cX11_hopeOf 80 = .ok (.aload_n 0, 1) := by decide +kernel
theorem dX11_hopeOf_81 : decode cX11_hopeOf 81 = .ok (.getfield 20, 3) := by decide +kernel
theorem dX11_hopeOf_84 : decode cX11_hopeOf 84 = .ok (.iconst 3, 1) := by decide +kernel
theorem dX11_hopeOf_85 : decode cX11_hopeOf 85 = .ok (.iaload, 1) := by decide +kernel
theorem dX11_hopeOf_86 : decode cX11_hopeOf 86 = .ok (.if_icmp .ge 75, 3) := by decide +kernel
theorem dX11_hopeOf_89 : decode cX11_hopeOf 89 = .ok (.aload_n 0, 1) := by decide +kernel
theorem dX11_hopeOf_90 : decode cX11_hopeOf 90 = .ok (.iload_n 1, 1) := by decide +kernel
theorem dX11_hopeOf_91 : decode cX11_hopeOf 91 = .ok (.iload 9, 2) := by decide +kernel
theorem dX11_hopeOf_93 : decode cX11_hopeOf 93 = .ok (.iload 10, 2) := by decide +kernel
theorem dX11_hopeOf_95 : decode cX11_hopeOf 95 = .ok (.aload_n 0, 1) := by decide +kernel
theorem dX11_hopeOf_96 : decode cX11_hopeOf 96 = .ok (.getfield 20, 3) := by decide +kernel
theorem dX11_hopeOf_99 : decode cX11_hopeOf 99 = .ok (.sipush 303, 3) := by decide +kernel
theorem dX11_hopeOf_102 : decode cX11_hopeOf 102 = .ok (.iload 6, 2) := by decide +kernel
theorem dX11_hopeOf_104 : decode cX11_hopeOf 104 = .ok (.iadd, 1) := by decide +kernel
theorem dX11_hopeOf_105 : decode cX11_hopeOf 105 = .ok (.iaload, 1) := by decide +kernel
theorem dX11_hopeOf_106 : decode cX11_hopeOf 106 = .ok (.invokevirtual 325, 3) := by decide +kernel
theorem dX11_hopeOf_109 : decode cX11_hopeOf 109 = .ok (.istore 11, 2) := by decide +kernel
theorem dX11_hopeOf_111 : decode cX11_hopeOf 111 = .ok (.iload 11, 2) := by decide +kernel
theorem dX11_hopeOf_113 : decode cX11_hopeOf 113 = .ok (.ifCond .ge 6, 3) := by decide +kernel
theorem dX11_hopeOf_116 : decode cX11_hopeOf 116 = .ok (.goto 39, 3) := by decide +kernel
theorem dX11_hopeOf_119 : decode cX11_hopeOf 119 = .ok (.aload_n 0, 1) := by decide +kernel
theorem dX11_hopeOf_120 : decode cX11_hopeOf 120 = .ok (.iload_n 2, 1) := by decide +kernel
theorem dX11_hopeOf_121 : decode cX11_hopeOf 121 = .ok (.iconst 1, 1) := by decide +kernel
theorem dX11_hopeOf_122 : decode cX11_hopeOf 122 = .ok (.isub, 1) := by decide +kernel
theorem dX11_hopeOf_123 : decode cX11_hopeOf 123 = .ok (.invokevirtual 366, 3) := by decide +kernel
theorem dX11_hopeOf_126 : decode cX11_hopeOf 126 = .ok (.aload_n 0, 1) := by decide +kernel
theorem dX11_hopeOf_127 : decode cX11_hopeOf 127 = .ok (.iload 11, 2) := by decide +kernel
theorem dX11_hopeOf_129 : decode cX11_hopeOf 129 = .ok (.iload_n 2, 1) := by decide +kernel
theorem dX11_hopeOf_130 : decode cX11_hopeOf 130 = .ok (.iconst 1, 1) := by decide +kernel
theorem dX11_hopeOf_131 : decode cX11_hopeOf 131 = .ok (.isub, 1) := by decide +kernel
theorem dX11_hopeOf_132 : decode cX11_hopeOf 132 = .ok (.invokevirtual 362, 3) := by decide +kernel
theorem dX11_hopeOf_135 : decode cX11_hopeOf 135 = .ok (.ladd, 1) := by decide +kernel
theorem dX11_hopeOf_136 : decode cX11_hopeOf 136 = .ok (.lstore 12, 2) := by decide +kernel
theorem dX11_hopeOf_138 : decode cX11_hopeOf 138 = .ok (.lload 12, 2) := by decide +kernel
theorem dX11_hopeOf_140 : decode cX11_hopeOf 140 = .ok (.lload 7, 2) := by decide +kernel
theorem dX11_hopeOf_142 : decode cX11_hopeOf 142 = .ok (.lcmp, 1) := by decide +kernel
theorem dX11_hopeOf_143 : decode cX11_hopeOf 143 = .ok (.ifCond .le 8, 3) := by decide +kernel
theorem dX11_hopeOf_146 : decode cX11_hopeOf 146 = .ok (.lload 12, 2) := by decide +kernel
theorem dX11_hopeOf_148 : decode cX11_hopeOf 148 = .ok (.goto 5, 3) := by decide +kernel
theorem dX11_hopeOf_151 : decode cX11_hopeOf 151 = .ok (.lload 7, 2) := by decide +kernel
theorem dX11_hopeOf_153 : decode cX11_hopeOf 153 = .ok (.lstore 7, 2) := by decide +kernel
theorem dX11_hopeOf_155 : decode cX11_hopeOf 155 = .ok (.iinc 10 1, 3) := by decide +kernel
theorem dX11_hopeOf_158 : decode cX11_hopeOf 158 = .ok (.goto (-80), 3) := by decide +kernel
theorem dX11_hopeOf_161 : decode cX11_hopeOf 161 = .ok (.iinc 9 1, 3) := by decide +kernel
theorem dX11_hopeOf_164 : decode cX11_hopeOf 164 = .ok (.goto (-100), 3) := by decide +kernel
theorem dX11_hopeOf_167 : decode cX11_hopeOf 167 = .ok (.lload 4, 2) := by decide +kernel
theorem dX11_hopeOf_169 : decode cX11_hopeOf 169 = .ok (.aload_n 0, 1) := by decide +kernel
theorem dX11_hopeOf_170 : decode cX11_hopeOf 170 = .ok (.getfield 20, 3) := by decide +kernel
theorem dX11_hopeOf_173 : decode cX11_hopeOf 173 = .ok (.sipush 309, 3) := by decide +kernel
theorem dX11_hopeOf_176 : decode cX11_hopeOf 176 = .ok (.iload 6, 2) := by decide +kernel
theorem dX11_hopeOf_178 : decode cX11_hopeOf 178 = .ok (.iadd, 1) := by decide +kernel
theorem dX11_hopeOf_179 : decode cX11_hopeOf 179 = .ok (.iaload, 1) := by decide +kernel
theorem dX11_hopeOf_180 : decode cX11_hopeOf 180 = .ok (.i2l, 1) := by decide +kernel
theorem dX11_hopeOf_181 : decode cX11_hopeOf 181 = .ok (.lload 7, 2) := by decide +kernel
theorem dX11_hopeOf_183 : decode cX11_hopeOf 183 = .ok (.lmul, 1) := by decide +kernel
theorem dX11_hopeOf_184 : decode cX11_hopeOf 184 = .ok (.ladd, 1) := by decide +kernel
theorem dX11_hopeOf_185 : decode cX11_hopeOf 185 = .ok (.lstore 4, 2) := by decide +kernel
theorem dX11_hopeOf_187 : decode cX11_hopeOf 187 = .ok (.iinc 6 1, 3) := by decide +kernel
theorem dX11_hopeOf_190 : decode cX11_hopeOf 190 = .ok (.goto (-150), 3) := by decide +kernel
theorem dX11_hopeOf_193 : decode cX11_hopeOf 193 = .ok (.aload_n 0, 1) := by decide +kernel
theorem dX11_hopeOf_194 : decode cX11_hopeOf 194 = .ok (.getfield 70, 3) := by decide +kernel
theorem dX11_hopeOf_197 : decode cX11_hopeOf 197 = .ok (.iload_n 3, 1) := by decide +kernel
theorem dX11_hopeOf_198 : decode cX11_hopeOf 198 = .ok (.lload 4, 2) := by decide +kernel
theorem dX11_hopeOf_200 : decode cX11_hopeOf 200 = .ok (.lastore, 1) := by decide +kernel
theorem dX11_hopeOf_201 : decode cX11_hopeOf 201 = .ok (.lload 4, 2) := by decide +kernel
theorem dX11_hopeOf_203 : decode cX11_hopeOf 203 = .ok (.lreturn, 1) := by decide +kernel
theorem dX11_common_0 : decode cX11_common 0 = .ok (.lload_n 0, 1) := by decide +kernel
theorem dX11_common_1 : decode cX11_common 1 = .ok (.lstore 4, 2) := by decide +kernel
theorem dX11_common_3 : decode cX11_common 3 = .ok (.lload_n 2, 1) := by decide +kernel
theorem dX11_common_4 : decode cX11_common 4 = .ok (.lstore 6, 2) := by decide +kernel
theorem dX11_common_6 : decode cX11_common 6 = .ok (.lload 6, 2) := by decide +kernel
theorem dX11_common_8 : decode cX11_common 8 = .ok (.lconst 0, 1) := by decide +kernel
theorem dX11_common_9 : decode cX11_common 9 = .ok (.lcmp, 1) := by decide +kernel
theorem dX11_common_10 : decode cX11_common 10 = .ok (.ifCond .eq 21, 3) := by decide +kernel
theorem dX11_common_13 : decode cX11_common 13 = .ok (.lload 4, 2) := by decide +kernel
theorem dX11_common_15 : decode cX11_common 15 = .ok (.lload 6, 2) := by decide +kernel
theorem dX11_common_17 : decode cX11_common 17 = .ok (.lrem, 1) := by decide +kernel
theorem dX11_common_18 : decode cX11_common 18 = .ok (.lstore 8, 2) := by decide +kernel
theorem dX11_common_20 : decode cX11_common 20 = .ok (.lload 6, 2) := by decide +kernel
theorem dX11_common_22 : decode cX11_common 22 = .ok (.lstore 4, 2) := by decide +kernel
theorem dX11_common_24 : decode cX11_common 24 = .ok (.lload 8, 2) := by decide +kernel
theorem dX11_common_26 : decode cX11_common 26 = .ok (.lstore 6, 2) := by decide +kernel
theorem dX11_common_28 : decode cX11_common 28 = .ok (.goto (-22), 3) := by decide +kernel
theorem dX11_common_31 : decode cX11_common 31 = .ok (.lload 4, 2) := by decide +kernel
theorem dX11_common_33 : decode cX11_common 33 = .ok (.lreturn, 1) := by decide +kernel
theorem dX11_hope_0 : decode cX11_hope 0 = .ok (.aload_n 0, 1) := by decide +kernel
theorem dX11_hope_1 : decode cX11_hope 1 = .ok (.invokevirtual 155, 3) := by decide +kernel
theorem dX11_hope_4 : decode cX11_hope 4 = .ok (.aload_n 0, 1) := by decide +kernel
theorem dX11_hope_5 : decode cX11_hope 5 = .ok (.getfield 164, 3) := by decide +kernel
theorem dX11_hope_8 : decode cX11_hope 8 = .ok (.ifCond .ne 10, 3) := by decide +kernel
theorem dX11_hope_11 : decode cX11_hope 11 = .ok (.aload_n 0, 1) := by decide +kernel
theorem dX11_hope_12 : decode cX11_hope 12 = .ok (.iconst 1, 1) := by decide +kernel
theorem dX11_hope_13 : decode cX11_hope 13 = .ok (.invokevirtual 158, 3) := by decide +kernel
theorem dX11_hope_16 : decode cX11_hope 16 = .ok (.i2l, 1) := by decide +kernel
theorem dX11_hope_17 : decode cX11_hope 17 = .ok (.lreturn, 1) := by decide +kernel
theorem dX11_hope_18 : decode cX11_hope 18 = .ok (.iload_n 1, 1) := by decide +kernel
theorem dX11_hope_19 : decode cX11_hope 19 = .ok (.iconst 1, 1) := by decide +kernel
theorem dX11_hope_20 : decode cX11_hope 20 = .ok (.iconst 4, 1) := by decide +kernel
theorem dX11_hope_21 : decode cX11_hope 21 = .ok (.invokestatic 143, 3) := by decide +kernel
theorem dX11_hope_24 : decode cX11_hope 24 = .ok (.ifCond .ne 10, 3) := by decide +kernel
theorem dX11_hope_27 : decode cX11_hope 27 = .ok (.aload_n 0, 1) := by decide +kernel
theorem dX11_hope_28 : decode cX11_hope 28 = .ok (.iconst 2, 1) := by decide +kernel
theorem dX11_hope_29 : decode cX11_hope 29 = .ok (.invokevirtual 158, 3) := by decide +kernel
theorem dX11_hope_32 : decode cX11_hope 32 = .ok (.i2l, 1) := by decide +kernel
theorem dX11_hope_33 : decode cX11_hope 33 = .ok (.lreturn, 1) := by decide +kernel
theorem dX11_hope_34 : decode cX11_hope 34 = .ok (.aload_n 0, 1) := by decide +kernel
theorem dX11_hope_35 : decode cX11_hope 35 = .ok (.getfield 20, 3) := by decide +kernel
theorem dX11_hope_38 : decode cX11_hope 38 = .ok (.iconst 5, 1) := by decide +kernel
theorem dX11_hope_39 : decode cX11_hope 39 = .ok (.iaload, 1) := by decide +kernel
theorem dX11_hope_40 : decode cX11_hope 40 = .ok (.ifCond .ne 11, 3) := by decide +kernel
theorem dX11_hope_43 : decode cX11_hope 43 = .ok (.aload_n 0, 1) := by decide +kernel
theorem dX11_hope_44 : decode cX11_hope 44 = .ok (.bipush 6, 2) := by decide +kernel
theorem dX11_hope_46 : decode cX11_hope 46 = .ok (.invokevirtual 158, 3) := by decide +kernel
theorem dX11_hope_49 : decode cX11_hope 49 = .ok (.i2l, 1) := by decide +kernel
theorem dX11_hope_50 : decode cX11_hope 50 = .ok (.lreturn, 1) := by decide +kernel
theorem dX11_hope_51 : decode cX11_hope 51 = .ok (.iconst 0, 1) := by decide +kernel
theorem dX11_hope_52 : decode cX11_hope 52 = .ok (.istore_n 3, 1) := by decide +kernel
theorem dX11_hope_53 : decode cX11_hope 53 = .ok (.iload_n 3, 1) := by decide +kernel
theorem dX11_hope_54 : decode cX11_hope 54 = .ok (.ldc 69, 2) := by decide +kernel
theorem dX11_hope_56 : decode cX11_hope 56 = .ok (.if_icmp .ge 18, 3) := by decide +kernel
theorem dX11_hope_59 : decode cX11_hope 59 = .ok (.aload_n 0, 1) := by decide +kernel
theorem dX11_hope_60 : decode cX11_hope 60 = .ok (.getfield 70, 3) := by decide +kernel
theorem dX11_hope_63 : decode cX11_hope 63 = .ok (.iload_n 3, 1) := by decide +kernel
theorem dX11_hope_64 : decode cX11_hope 64 = .ok (.ldc2_w 370, 3) := by decide +kernel
theorem dX11_hope_67 : decode cX11_hope 67 = .ok (.lastore, 1) := by decide +kernel
theorem dX11_hope_68 : decode cX11_hope 68 = .ok (.iinc 3 1, 3) := by decide +kernel
theorem dX11_hope_71 : decode cX11_hope 71 = .ok (.goto (-18), 3) := by decide +kernel
theorem dX11_hope_74 : decode cX11_hope 74 = .ok (.aload_n 0, 1) := by decide +kernel
theorem dX11_hope_75 : decode cX11_hope 75 = .ok (.aload_n 0, 1) := by decide +kernel
theorem dX11_hope_76 : decode cX11_hope 76 = .ok (.invokevirtual 331, 3) := by decide +kernel
theorem dX11_hope_79 : decode cX11_hope 79 = .ok (.iload_n 1, 1) := by decide +kernel
theorem dX11_hope_80 : decode cX11_hope 80 = .ok (.invokevirtual 362, 3) := by decide +kernel
theorem dX11_hope_83 : decode cX11_hope 83 = .ok (.lstore_n 3, 1) := by decide +kernel
theorem dX11_hope_84 : decode cX11_hope 84 = .ok (.lload_n 3, 1) := by decide +kernel
theorem dX11_hope_85 : decode cX11_hope 85 = .ok (.aload_n 0, 1) := by decide +kernel
theorem dX11_hope_86 : decode cX11_hope 86 = .ok (.iload_n 1, 1) := by decide +kernel
theorem dX11_hope_87 : decode cX11_hope 87 = .ok (.invokevirtual 366, 3) := by decide +kernel
theorem dX11_hope_90 : decode cX11_hope 90 = .ok (.invokestatic 372, 3) := by decide +kernel
theorem dX11_hope_93 : decode cX11_hope 93 = .ok (.lstore 5, 2) := by decide +kernel
theorem dX11_hope_95 : decode cX11_hope 95 = .ok (.iload_n 2, 1) := by decide +kernel
theorem dX11_hope_96 : decode cX11_hope 96 = .ok (.ifCond .eq 11, 3) := by decide +kernel
theorem dX11_hope_99 : decode cX11_hope 99 = .ok (.aload_n 0, 1) := by decide +kernel
theorem dX11_hope_100 : decode cX11_hope 100 = .ok (.iload_n 1, 1) := by decide +kernel
theorem dX11_hope_101 : decode cX11_hope 101 = .ok (.invokevirtual 366, 3) := by decide +kernel
theorem dX11_hope_104 : decode cX11_hope 104 = .ok (.goto 4, 3) := by decide +kernel
theorem dX11_hope_107 : decode cX11_hope 107 = .ok (.lload_n 3, 1) := by decide +kernel
theorem dX11_hope_108 : decode cX11_hope 108 = .ok (.lload 5, 2) := by decide +kernel
theorem dX11_hope_110 : decode cX11_hope 110 = .ok (.ldiv, 1) := by decide +kernel
theorem dX11_hope_111 : decode cX11_hope 111 = .ok (.lreturn, 1) := by decide +kernel
theorem dX11_grundyOf_0 : decode cX11_grundyOf 0 = .ok (.iconst 0, 1) := by decide +kernel
theorem dX11_grundyOf_1 : decode cX11_grundyOf 1 = .ok (.istore_n 2, 1) := by decide +kernel
theorem dX11_grundyOf_2 : decode cX11_grundyOf 2 = .ok (.iconst 0, 1) := by decide +kernel
theorem dX11_grundyOf_3 : decode cX11_grundyOf 3 = .ok (.istore_n 3, 1) := by decide +kernel
theorem dX11_grundyOf_4 : decode cX11_grundyOf 4 = .ok (.iload_n 3, 1) := by decide +kernel
theorem dX11_grundyOf_5 : decode cX11_grundyOf 5 = .ok (.aload_n 0, 1) := by decide +kernel
theorem dX11_grundyOf_6 : decode cX11_grundyOf 6 = .ok (.getfield 20, 3) := by decide +kernel
theorem dX11_grundyOf_9 : decode cX11_grundyOf 9 = .ok (.iconst 0, 1) := by decide +kernel
theorem dX11_grundyOf_10 : decode cX11_grundyOf 10 = .ok (.iaload, 1) := by decide +kernel
theorem dX11_grundyOf_11 : decode cX11_grundyOf 11 = .ok (.if_icmp .ge 22, 3) := by decide +kernel
theorem dX11_grundyOf_14 : decode cX11_grundyOf 14 = .ok (.iload_n 2, 1) := by decide +kernel
theorem dX11_grundyOf_15 : decode cX11_grundyOf 15 = .ok (.aload_n 0, 1) := by decide +kernel
theorem dX11_grundyOf_16 : decode cX11_grundyOf 16 = .ok (.getfield 38, 3) := by decide +kernel
theorem dX11_grundyOf_19 : decode cX11_grundyOf 19 = .ok (.iload_n 1, 1) := by decide +kernel
theorem dX11_grundyOf_20 : decode cX11_grundyOf 20 = .ok (.iload_n 3, 1) := by decide +kernel
theorem dX11_grundyOf_21 : decode cX11_grundyOf 21 = .ok (.invokestatic 315, 3) := by decide +kernel
theorem dX11_grundyOf_24 : decode cX11_grundyOf 24 = .ok (.iaload, 1) := by decide +kernel
theorem dX11_grundyOf_25 : decode cX11_grundyOf 25 = .ok (.ixor, 1) := by decide +kernel
theorem dX11_grundyOf_26 : decode cX11_grundyOf 26 = .ok (.istore_n 2, 1) := by decide +kernel
theorem dX11_grundyOf_27 : decode cX11_grundyOf 27 = .ok (.iinc 3 1, 3) := by decide +kernel
theorem dX11_grundyOf_30 : decode cX11_grundyOf 30 = .ok (.goto (-26), 3) := by decide +kernel
theorem dX11_grundyOf_33 : decode cX11_grundyOf 33 = .ok (.iload_n 2, 1) := by decide +kernel
theorem dX11_grundyOf_34 : decode cX11_grundyOf 34 = .ok (.ireturn, 1) := by decide +kernel
theorem dX11_game_0 : decode cX11_game 0 = .ok (.aload_n 0, 1) := by decide +kernel
theorem dX11_game_1 : decode cX11_game 1 = .ok (.invokevirtual 155, 3) := by decide +kernel
theorem dX11_game_4 : decode cX11_game 4 = .ok (.aload_n 0, 1) := by decide +kernel
theorem dX11_game_5 : decode cX11_game 5 = .ok (.getfield 164, 3) := by decide +kernel
theorem dX11_game_8 : decode cX11_game 8 = .ok (.ifCond .eq 14, 3) := by decide +kernel
theorem dX11_game_11 : decode cX11_game 11 = .ok (.aload_n 0, 1) := by decide +kernel
theorem dX11_game_12 : decode cX11_game 12 = .ok (.aload_n 0, 1) := by decide +kernel
theorem dX11_game_13 : decode cX11_game 13 = .ok (.invokevirtual 331, 3) := by decide +kernel
theorem dX11_game_16 : decode cX11_game 16 = .ok (.invokevirtual 376, 3) := by decide +kernel
theorem dX11_game_19 : decode cX11_game 19 = .ok (.goto 8, 3) := by decide +kernel
theorem dX11_game_22 : decode cX11_game 22 = .ok (.aload_n 0, 1) := by decide +kernel
theorem dX11_game_23 : decode cX11_game 23 = .ok (.iconst 1, 1) := by decide +kernel
theorem dX11_game_24 : decode cX11_game 24 = .ok (.invokevirtual 158, 3) := by decide +kernel
theorem dX11_game_27 : decode cX11_game 27 = .ok (.ireturn, 1) := by decide +kernel
theorem dX11_move_0 : decode cX11_move 0 = .ok (.aload_n 0, 1) := by decide +kernel
theorem dX11_move_1 : decode cX11_move 1 = .ok (.invokevirtual 155, 3) := by decide +kernel
theorem dX11_move_4 : decode cX11_move 4 = .ok (.aload_n 0, 1) := by decide +kernel
theorem dX11_move_5 : decode cX11_move 5 = .ok (.getfield 164, 3) := by decide +kernel
theorem dX11_move_8 : decode cX11_move 8 = .ok (.ifCond .ne 9, 3) := by decide +kernel
theorem dX11_move_11 : decode cX11_move 11 = .ok (.aload_n 0, 1) := by decide +kernel
theorem dX11_move_12 : decode cX11_move 12 = .ok (.iconst 1, 1) := by decide +kernel
theorem dX11_move_13 : decode cX11_move 13 = .ok (.invokevirtual 158, 3) := by decide +kernel
theorem dX11_move_16 : decode cX11_move 16 = .ok (.ireturn, 1) := by decide +kernel
theorem dX11_move_17 : decode cX11_move 17 = .ok (.iconst 0, 1) := by decide +kernel
theorem dX11_move_18 : decode cX11_move 18 = .ok (.istore_n 1, 1) := by decide +kernel
theorem dX11_move_19 : decode cX11_move 19 = .ok (.iload_n 1, 1) := by decide +kernel
theorem dX11_move_20 : decode cX11_move 20 = .ok (.aload_n 0, 1) := by decide +kernel
theorem dX11_move_21 : decode cX11_move 21 = .ok (.getfield 20, 3) := by decide +kernel
theorem dX11_move_24 : decode cX11_move 24 = .ok (.iconst 0, 1) := by decide +kernel
theorem dX11_move_25 : decode cX11_move 25 = .ok (.iaload, 1) := by decide +kernel
theorem dX11_move_26 : decode cX11_move 26 = .ok (.if_icmp .ge 69, 3) := by decide +kernel
theorem dX11_move_29 : decode cX11_move 29 = .ok (.iconst 0, 1) := by decide +kernel
theorem dX11_move_30 : decode cX11_move 30 = .ok (.istore_n 2, 1) := by decide +kernel
theorem dX11_move_31 : decode cX11_move 31 = .ok (.iload_n 2, 1) := by decide +kernel
theorem dX11_move_32 : decode cX11_move 32 = .ok (.aload_n 0, 1) := by decide +kernel
theorem dX11_move_33 : decode cX11_move 33 = .ok (.getfield 20, 3) := by decide +kernel
theorem dX11_move_36 : decode cX11_move 36 = .ok (.iconst 3, 1) := by decide +kernel
theorem dX11_move_37 : decode cX11_move 37 = .ok (.iaload, 1) := by decide +kernel
theorem dX11_move_38 : decode cX11_move 38 = .ok (.if_icmp .ge 51, 3) := by decide +kernel
theorem dX11_move_41 : decode cX11_move 41 = .ok (.aload_n 0, 1) := by decide +kernel
theorem dX11_move_42 : decode cX11_move 42 = .ok (.getfield 32, 3) := by decide +kernel
theorem dX11_move_45 : decode cX11_move 45 = .ok (.bipush 24, 2) := by decide +kernel
theorem dX11_move_47 : decode cX11_move 47 = .ok (.aload_n 0, 1) := by decide +kernel
theorem dX11_move_48 : decode cX11_move 48 = .ok (.getfield 26, 3) := by decide +kernel
theorem dX11_move_51 : decode cX11_move 51 = .ok (.iload_n 1, 1) := by decide +kernel
theorem dX11_move_52 : decode cX11_move 52 = .ok (.iaload, 1) := by decide +kernel
theorem dX11_move_53 : decode cX11_move 53 = .ok (.imul, 1) := by decide +kernel
theorem dX11_move_54 : decode cX11_move 54 = .ok (.iload_n 2, 1) := by decide +kernel
theorem dX11_move_55 : decode cX11_move 55 = .ok (.iadd, 1) := by decide +kernel
theorem dX11_move_56 : decode cX11_move 56 = .ok (.iaload, 1) := by decide +kernel
theorem dX11_move_57 : decode cX11_move 57 = .ok (.ifCond .lt 26, 3) := by decide +kernel
theorem dX11_move_60 : decode cX11_move 60 = .ok (.aload_n 0, 1) := by decide +kernel
theorem dX11_move_61 : decode cX11_move 61 = .ok (.aload_n 0, 1) := by decide +kernel
theorem dX11_move_62 : decode cX11_move 62 = .ok (.invokevirtual 331, 3) := by decide +kernel
theorem dX11_move_65 : decode cX11_move 65 = .ok (.iload_n 1, 1) := by decide +kernel
theorem dX11_move_66 : decode cX11_move 66 = .ok (.iload_n 2, 1) := by decide +kernel
theorem dX11_move_67 : decode cX11_move 67 = .ok (.invokestatic 318, 3) := by decide +kernel
theorem dX11_move_70 : decode cX11_move 70 = .ok (.invokevirtual 376, 3) := by decide +kernel
theorem dX11_move_73 : decode cX11_move 73 = .ok (.ifCond .ne 10, 3) := by decide +kernel
theorem dX11_move_76 : decode cX11_move 76 = .ok (.bipush 24, 2) := by decide +kernel
theorem dX11_move_78 : decode cX11_move 78 = .ok (.iload_n 1, 1) := by decide +kernel
theorem dX11_move_79 : decode cX11_move 79 = .ok (.imul, 1) := by decide +kernel
theorem dX11_move_80 : decode cX11_move 80 = .ok (.iload_n 2, 1) := by decide +kernel
theorem dX11_move_81 : decode cX11_move 81 = .ok (.iadd, 1) := by decide +kernel
theorem dX11_move_82 : decode cX11_move 82 = .ok (.ireturn, 1) := by decide +kernel
theorem dX11_move_83 : decode cX11_move 83 = .ok (.iinc 2 1, 3) := by decide +kernel
theorem dX11_move_86 : decode cX11_move 86 = .ok (.goto (-55), 3) := by decide +kernel
theorem dX11_move_89 : decode cX11_move 89 = .ok (.iinc 1 1, 3) := by decide +kernel
theorem dX11_move_92 : decode cX11_move 92 = .ok (.goto (-73), 3) := by decide +kernel
theorem dX11_move_95 : decode cX11_move 95 = .ok (.bipush (-2), 2) := by decide +kernel
theorem dX11_move_97 : decode cX11_move 97 = .ok (.ireturn, 1) := by decide +kernel
theorem dX11_mark_0 : decode cX11_mark 0 = .ok (.aload_n 0, 1) := by decide +kernel
theorem dX11_mark_1 : decode cX11_mark 1 = .ok (.invokevirtual 155, 3) := by decide +kernel
theorem dX11_mark_4 : decode cX11_mark 4 = .ok (.aload_n 0, 1) := by decide +kernel
theorem dX11_mark_5 : decode cX11_mark 5 = .ok (.getfield 164, 3) := by decide +kernel
theorem dX11_mark_8 : decode cX11_mark 8 = .ok (.ifCond .ne 9, 3) := by decide +kernel
theorem dX11_mark_11 : decode cX11_mark 11 = .ok (.aload_n 0, 1) := by decide +kernel
theorem dX11_mark_12 : decode cX11_mark 12 = .ok (.iconst 1, 1) := by decide +kernel
theorem dX11_mark_13 : decode cX11_mark 13 = .ok (.invokevirtual 158, 3) := by decide +kernel
theorem dX11_mark_16 : decode cX11_mark 16 = .ok (.ireturn, 1) := by decide +kernel
theorem dX11_mark_17 : decode cX11_mark 17 = .ok (.aload_n 0, 1) := by decide +kernel
