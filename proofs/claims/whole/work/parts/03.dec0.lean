theorem dX0_init_0 : decode cX0_init 0 = .ok (.aload_n 0, 1) := by decide +kernel
theorem dX0_init_1 : decode cX0_init 1 = .ok (.invokespecial 3, 3) := by decide +kernel
theorem dX0_init_4 : decode cX0_init 4 = .ok (.aload_n 0, 1) := by decide +kernel
theorem dX0_init_5 : decode cX0_init 5 = .ok (.sipush 2925, 3) := by decide +kernel
theorem dX0_init_8 : decode cX0_init 8 = .ok (.newarray .int, 2) := by decide +kernel
theorem dX0_init_10 : decode cX0_init 10 = .ok (.putfield 11, 3) := by decide +kernel
theorem dX0_init_13 : decode cX0_init 13 = .ok (.aload_n 0, 1) := by decide +kernel
theorem dX0_init_14 : decode cX0_init 14 = .ok (.sipush 11700, 3) := by decide +kernel
theorem dX0_init_17 : decode cX0_init 17 = .ok (.newarray .int, 2) := by decide +kernel
theorem dX0_init_19 : decode cX0_init 19 = .ok (.putfield 15, 3) := by decide +kernel
theorem dX0_init_22 : decode cX0_init 22 = .ok (.aload_n 0, 1) := by decide +kernel
theorem dX0_init_23 : decode cX0_init 23 = .ok (.aload_n 1, 1) := by decide +kernel
theorem dX0_init_24 : decode cX0_init 24 = .ok (.putfield 18, 3) := by decide +kernel
theorem dX0_init_27 : decode cX0_init 27 = .ok (.aload_n 0, 1) := by decide +kernel
theorem dX0_init_28 : decode cX0_init 28 = .ok (.aload_n 2, 1) := by decide +kernel
theorem dX0_init_29 : decode cX0_init 29 = .ok (.putfield 22, 3) := by decide +kernel
theorem dX0_init_32 : decode cX0_init 32 = .ok (.return_, 1) := by decide +kernel
theorem dX0_forget_0 : decode cX0_forget 0 = .ok (.aload_n 0, 1) := by decide +kernel
theorem dX0_forget_1 : decode cX0_forget 1 = .ok (.getfield 26, 3) := by decide +kernel
theorem dX0_forget_4 : decode cX0_forget 4 = .ok (.ifCond .eq 16, 3) := by decide +kernel
theorem dX0_forget_7 : decode cX0_forget 7 = .ok (.aload_n 0, 1) := by decide +kernel
theorem dX0_forget_8 : decode cX0_forget 8 = .ok (.getfield 11, 3) := by decide +kernel
theorem dX0_forget_11 : decode cX0_forget 11 = .ok (.iconst 0, 1) := by decide +kernel
theorem dX0_forget_12 : decode cX0_forget 12 = .ok (.invokestatic 30, 3) := by decide +kernel
theorem dX0_forget_15 : decode cX0_forget 15 = .ok (.aload_n 0, 1) := by decide +kernel
theorem dX0_forget_16 : decode cX0_forget 16 = .ok (.iconst 0, 1) := by decide +kernel
theorem dX0_forget_17 : decode cX0_forget 17 = .ok (.putfield 26, 3) := by decide +kernel
theorem dX0_forget_20 : decode cX0_forget 20 = .ok (.aload_n 0, 1) := by decide +kernel
theorem dX0_forget_21 : decode cX0_forget 21 = .ok (.getfield 36, 3) := by decide +kernel
theorem dX0_forget_24 : decode cX0_forget 24 = .ok (.ifCond .eq 16, 3) := by decide +kernel
theorem dX0_forget_27 : decode cX0_forget 27 = .ok (.aload_n 0, 1) := by decide +kernel
theorem dX0_forget_28 : decode cX0_forget 28 = .ok (.getfield 15, 3) := by decide +kernel
theorem dX0_forget_31 : decode cX0_forget 31 = .ok (.iconst 0, 1) := by decide +kernel
theorem dX0_forget_32 : decode cX0_forget 32 = .ok (.invokestatic 30, 3) := by decide +kernel
theorem dX0_forget_35 : decode cX0_forget 35 = .ok (.aload_n 0, 1) := by decide +kernel
theorem dX0_forget_36 : decode cX0_forget 36 = .ok (.iconst 0, 1) := by decide +kernel
theorem dX0_forget_37 : decode cX0_forget 37 = .ok (.putfield 36, 3) := by decide +kernel
theorem dX0_forget_40 : decode cX0_forget 40 = .ok (.return_, 1) := by decide +kernel
theorem dX0_fromBeginning_0 : decode cX0_fromBeginning 0 = .ok (.aload_n 0, 1) := by decide +kernel
theorem dX0_fromBeginning_1 : decode cX0_fromBeginning 1 = .ok (.iconst 0, 1) := by decide +kernel
theorem dX0_fromBeginning_2 : decode cX0_fromBeginning 2 = .ok (.bipush 24, 2) := by decide +kernel
theorem dX0_fromBeginning_4 : decode cX0_fromBeginning 4 = .ok (.bipush 24, 2) := by decide +kernel
theorem dX0_fromBeginning_6 : decode cX0_fromBeginning 6 = .ok (.bipush 24, 2) := by decide +kernel
theorem dX0_fromBeginning_8 : decode cX0_fromBeginning 8 = .ok (.invokevirtual 39, 3) := by decide +kernel
theorem dX0_fromBeginning_11 : decode cX0_fromBeginning 11 = .ok (.ireturn, 1) := by decide +kernel
theorem dX0_behindNext_0 : decode cX0_behindNext 0 = .ok (.aload_n 0, 1) := by decide +kernel
theorem dX0_behindNext_1 : decode cX0_behindNext 1 = .ok (.aload_n 1, 1) := by decide +kernel
theorem dX0_behindNext_2 : decode cX0_behindNext 2 = .ok (.getfield 43, 3) := by decide +kernel
theorem dX0_behindNext_5 : decode cX0_behindNext 5 = .ok (.iconst 1, 1) := by decide +kernel
theorem dX0_behindNext_6 : decode cX0_behindNext 6 = .ok (.iadd, 1) := by decide +kernel
theorem dX0_behindNext_7 : decode cX0_behindNext 7 = .ok (.iload_n 2, 1) := by decide +kernel
theorem dX0_behindNext_8 : decode cX0_behindNext 8 = .ok (.ifCond .ne 7, 3) := by decide +kernel
theorem dX0_behindNext_11 : decode cX0_behindNext 11 = .ok (.iload_n 3, 1) := by decide +kernel
theorem dX0_behindNext_12 : decode cX0_behindNext 12 = .ok (.goto 8, 3) := by decide +kernel
theorem dX0_behindNext_15 : decode cX0_behindNext 15 = .ok (.aload_n 1, 1) := by decide +kernel
theorem dX0_behindNext_16 : decode cX0_behindNext 16 = .ok (.iconst 0, 1) := by decide +kernel
theorem dX0_behindNext_17 : decode cX0_behindNext 17 = .ok (.invokevirtual 49, 3) := by decide +kernel
theorem dX0_behindNext_20 : decode cX0_behindNext 20 = .ok (.iload_n 2, 1) := by decide +kernel
theorem dX0_behindNext_21 : decode cX0_behindNext 21 = .ok (.iconst 1, 1) := by decide +kernel
theorem dX0_behindNext_22 : decode cX0_behindNext 22 = .ok (.if_icmp .ne 7, 3) := by decide +kernel
theorem dX0_behindNext_25 : decode cX0_behindNext 25 = .ok (.iload_n 3, 1) := by decide +kernel
theorem dX0_behindNext_26 : decode cX0_behindNext 26 = .ok (.goto 8, 3) := by decide +kernel
theorem dX0_behindNext_29 : decode cX0_behindNext 29 = .ok (.aload_n 1, 1) := by decide +kernel
theorem dX0_behindNext_30 : decode cX0_behindNext 30 = .ok (.iconst 1, 1) := by decide +kernel
theorem dX0_behindNext_31 : decode cX0_behindNext 31 = .ok (.invokevirtual 49, 3) := by decide +kernel
theorem dX0_behindNext_34 : decode cX0_behindNext 34 = .ok (.iload_n 2, 1) := by decide +kernel
theorem dX0_behindNext_35 : decode cX0_behindNext 35 = .ok (.iconst 2, 1) := by decide +kernel
theorem dX0_behindNext_36 : decode cX0_behindNext 36 = .ok (.if_icmp .ne 7, 3) := by decide +kernel
theorem dX0_behindNext_39 : decode cX0_behindNext 39 = .ok (.iload_n 3, 1) := by decide +kernel
theorem dX0_behindNext_40 : decode cX0_behindNext 40 = .ok (.goto 8, 3) := by decide +kernel
theorem dX0_behindNext_43 : decode cX0_behindNext 43 = .ok (.aload_n 1, 1) := by decide +kernel
theorem dX0_behindNext_44 : decode cX0_behindNext 44 = .ok (.iconst 2, 1) := by decide +kernel
theorem dX0_behindNext_45 : decode cX0_behindNext 45 = .ok (.invokevirtual 49, 3) := by decide +kernel
theorem dX0_behindNext_48 : decode cX0_behindNext 48 = .ok (.invokevirtual 39, 3) := by decide +kernel
theorem dX0_behindNext_51 : decode cX0_behindNext 51 = .ok (.ireturn, 1) := by decide +kernel
theorem dX0_hopeFrom_0 : decode cX0_hopeFrom 0 = .ok (.aload_n 0, 1) := by decide +kernel
theorem dX0_hopeFrom_1 : decode cX0_hopeFrom 1 = .ok (.iload_n 2, 1) := by decide +kernel
theorem dX0_hopeFrom_2 : decode cX0_hopeFrom 2 = .ok (.aload_n 1, 1) := by decide +kernel
theorem dX0_hopeFrom_3 : decode cX0_hopeFrom 3 = .ok (.iconst 0, 1) := by decide +kernel
theorem dX0_hopeFrom_4 : decode cX0_hopeFrom 4 = .ok (.invokevirtual 49, 3) := by decide +kernel
theorem dX0_hopeFrom_7 : decode cX0_hopeFrom 7 = .ok (.aload_n 1, 1) := by decide +kernel
theorem dX0_hopeFrom_8 : decode cX0_hopeFrom 8 = .ok (.iconst 1, 1) := by decide +kernel
theorem dX0_hopeFrom_9 : decode cX0_hopeFrom 9 = .ok (.invokevirtual 49, 3) := by decide +kernel
theorem dX0_hopeFrom_12 : decode cX0_hopeFrom 12 = .ok (.aload_n 1, 1) := by decide +kernel
theorem dX0_hopeFrom_13 : decode cX0_hopeFrom 13 = .ok (.iconst 2, 1) := by decide +kernel
theorem dX0_hopeFrom_14 : decode cX0_hopeFrom 14 = .ok (.invokevirtual 49, 3) := by decide +kernel
theorem dX0_hopeFrom_17 : decode cX0_hopeFrom 17 = .ok (.invokevirtual 53, 3) := by decide +kernel
theorem dX0_hopeFrom_20 : decode cX0_hopeFrom 20 = .ok (.ireturn, 1) := by decide +kernel
theorem dX0_mostFrom_0 : decode cX0_mostFrom 0 = .ok (.iload_n 2, 1) := by decide +kernel
theorem dX0_mostFrom_1 : decode cX0_mostFrom 1 = .ok (.iload_n 3, 1) := by decide +kernel
theorem dX0_mostFrom_2 : decode cX0_mostFrom 2 = .ok (.iload 4, 2) := by decide +kernel
theorem dX0_mostFrom_4 : decode cX0_mostFrom 4 = .ok (.invokestatic 56, 3) := by decide +kernel
theorem dX0_mostFrom_7 : decode cX0_mostFrom 7 = .ok (.invokestatic 56, 3) := by decide +kernel
theorem dX0_mostFrom_10 : decode cX0_mostFrom 10 = .ok (.istore 5, 2) := by decide +kernel
theorem dX0_mostFrom_12 : decode cX0_mostFrom 12 = .ok (.iload_n 2, 1) := by decide +kernel
theorem dX0_mostFrom_13 : decode cX0_mostFrom 13 = .ok (.iload_n 3, 1) := by decide +kernel
theorem dX0_mostFrom_14 : decode cX0_mostFrom 14 = .ok (.iload 4, 2) := by decide +kernel
theorem dX0_mostFrom_16 : decode cX0_mostFrom 16 = .ok (.invokestatic 62, 3) := by decide +kernel
theorem dX0_mostFrom_19 : decode cX0_mostFrom 19 = .ok (.invokestatic 62, 3) := by decide +kernel
theorem dX0_mostFrom_22 : decode cX0_mostFrom 22 = .ok (.istore 6, 2) := by decide +kernel
theorem dX0_mostFrom_24 : decode cX0_mostFrom 24 = .ok (.iload_n 2, 1) := by decide +kernel
theorem dX0_mostFrom_25 : decode cX0_mostFrom 25 = .ok (.iload_n 3, 1) := by decide +kernel
theorem dX0_mostFrom_26 : decode cX0_mostFrom 26 = .ok (.iadd, 1) := by decide +kernel
theorem dX0_mostFrom_27 : decode cX0_mostFrom 27 = .ok (.iload 4, 2) := by decide +kernel
theorem dX0_mostFrom_29 : decode cX0_mostFrom 29 = .ok (.iadd, 1) := by decide +kernel
theorem dX0_mostFrom_30 : decode cX0_mostFrom 30 = .ok (.iload 5, 2) := by decide +kernel
theorem dX0_mostFrom_32 : decode cX0_mostFrom 32 = .ok (.isub, 1) := by decide +kernel
theorem dX0_mostFrom_33 : decode cX0_mostFrom 33 = .ok (.iload 6, 2) := by decide +kernel
theorem dX0_mostFrom_35 : decode cX0_mostFrom 35 = .ok (.isub, 1) := by decide +kernel
theorem dX0_mostFrom_36 : decode cX0_mostFrom 36 = .ok (.istore 7, 2) := by decide +kernel
theorem dX0_mostFrom_38 : decode cX0_mostFrom 38 = .ok (.iload_n 1, 1) := by decide +kernel
theorem dX0_mostFrom_39 : decode cX0_mostFrom 39 = .ok (.ifCond .lt 26, 3) := by decide +kernel
theorem dX0_mostFrom_42 : decode cX0_mostFrom 42 = .ok (.iload_n 1, 1) := by decide +kernel
theorem dX0_mostFrom_43 : decode cX0_mostFrom 43 = .ok (.aload_n 0, 1) := by decide +kernel
theorem dX0_mostFrom_44 : decode cX0_mostFrom 44 = .ok (.getfield 18, 3) := by decide +kernel
theorem dX0_mostFrom_47 : decode cX0_mostFrom 47 = .ok (.getfield 65, 3) := by decide +kernel
theorem dX0_mostFrom_50 : decode cX0_mostFrom 50 = .ok (.if_icmp .ge 15, 3) := by decide +kernel
theorem dX0_mostFrom_53 : decode cX0_mostFrom 53 = .ok (.iload 5, 2) := by decide +kernel
theorem dX0_mostFrom_55 : decode cX0_mostFrom 55 = .ok (.ifCond .lt 10, 3) := by decide +kernel
theorem dX0_mostFrom_58 : decode cX0_mostFrom 58 = .ok (.iload 6, 2) := by decide +kernel
theorem dX0_mostFrom_60 : decode cX0_mostFrom 60 = .ok (.bipush 25, 2) := by decide +kernel
theorem dX0_mostFrom_62 : decode cX0_mostFrom 62 = .ok (.if_icmp .lt 5, 3) := by decide +kernel
theorem dX0_mostFrom_65 : decode cX0_mostFrom 65 = .ok (.iconst 0, 1) := by decide +kernel
theorem dX0_mostFrom_66 : decode cX0_mostFrom 66 = .ok (.ireturn, 1) := by decide +kernel
theorem dX0_mostFrom_67 : decode cX0_mostFrom 67 = .ok (.iload 5, 2) := by decide +kernel
theorem dX0_mostFrom_69 : decode cX0_mostFrom 69 = .ok (.iload 7, 2) := by decide +kernel
theorem dX0_mostFrom_71 : decode cX0_mostFrom 71 = .ok (.iload 6, 2) := by decide +kernel
theorem dX0_mostFrom_73 : decode cX0_mostFrom 73 = .ok (.invokestatic 70, 3) := by decide +kernel
theorem dX0_mostFrom_76 : decode cX0_mostFrom 76 = .ok (.istore 8, 2) := by decide +kernel
theorem dX0_mostFrom_78 : decode cX0_mostFrom 78 = .ok (.iconst 4, 1) := by decide +kernel
theorem dX0_mostFrom_79 : decode cX0_mostFrom 79 = .ok (.iload_n 1, 1) := by decide +kernel
theorem dX0_mostFrom_80 : decode cX0_mostFrom 80 = .ok (.imul, 1) := by decide +kernel
theorem dX0_mostFrom_81 : decode cX0_mostFrom 81 = .ok (.istore 9, 2) := by decide +kernel
theorem dX0_mostFrom_83 : decode cX0_mostFrom 83 = .ok (.aload_n 0, 1) := by decide +kernel
theorem dX0_mostFrom_84 : decode cX0_mostFrom 84 = .ok (.getfield 11, 3) := by decide +kernel
theorem dX0_mostFrom_87 : decode cX0_mostFrom 87 = .ok (.iload 8, 2) := by decide +kernel
theorem dX0_mostFrom_89 : decode cX0_mostFrom 89 = .ok (.iaload, 1) := by decide +kernel
theorem dX0_mostFrom_90 : decode cX0_mostFrom 90 = .ok (.iload 9, 2) := by decide +kernel
theorem dX0_mostFrom_92 : decode cX0_mostFrom 92 = .ok (.iushr, 1) := by decide +kernel
theorem dX0_mostFrom_93 : decode cX0_mostFrom 93 = .ok (.bipush 15, 2) := by decide +kernel
theorem dX0_mostFrom_95 : decode cX0_mostFrom 95 = .ok (.iand, 1) := by decide +kernel
theorem dX0_mostFrom_96 : decode cX0_mostFrom 96 = .ok (.istore 10, 2) := by decide +kernel
theorem dX0_mostFrom_98 : decode cX0_mostFrom 98 = .ok (.iload 10, 2) := by decide +kernel
theorem dX0_mostFrom_100 : decode cX0_mostFrom 100 = .ok (.ifCond .le 8, 3) := by decide +kernel
theorem dX0_mostFrom_103 : decode cX0_mostFrom 103 = .ok (.iload 10, 2) := by decide +kernel
theorem dX0_mostFrom_105 : decode cX0_mostFrom 105 = .ok (.iconst 1, 1) := by decide +kernel
theorem dX0_mostFrom_106 : decode cX0_mostFrom 106 = .ok (.isub, 1) := by decide +kernel
theorem dX0_mostFrom_107 : decode cX0_mostFrom 107 = .ok (.ireturn, 1) := by decide +kernel
theorem dX0_mostFrom_108 : decode cX0_mostFrom 108 = .ok (.aload_n 0, 1) := by decide +kernel
theorem dX0_mostFrom_109 : decode cX0_mostFrom 109 = .ok (.iload_n 1, 1) := by decide +kernel
theorem dX0_mostFrom_110 : decode cX0_mostFrom 110 = .ok (.iconst 1, 1) := by decide +kernel
theorem dX0_mostFrom_111 : decode cX0_mostFrom 111 = .ok (.iadd, 1) := by decide +kernel
theorem dX0_mostFrom_112 : decode cX0_mostFrom 112 = .ok (.iload 5, 2) := by decide +kernel
theorem dX0_mostFrom_114 : decode cX0_mostFrom 114 = .ok (.iload 7, 2) := by decide +kernel
theorem dX0_mostFrom_116 : decode cX0_mostFrom 116 = .ok (.iload 6, 2) := by decide +kernel
theorem dX0_mostFrom_118 : decode cX0_mostFrom 118 = .ok (.invokevirtual 39, 3) := by decide +kernel
theorem dX0_mostFrom_121 : decode cX0_mostFrom 121 = .ok (.aload_n 0, 1) := by decide +kernel
theorem dX0_mostFrom_122 : decode cX0_mostFrom 122 = .ok (.iload_n 1, 1) := by decide +kernel
theorem dX0_mostFrom_123 : decode cX0_mostFrom 123 = .ok (.iload 5, 2) := by decide +kernel
theorem dX0_mostFrom_125 : decode cX0_mostFrom 125 = .ok (.iload 7, 2) := by decide +kernel
theorem dX0_mostFrom_127 : decode cX0_mostFrom 127 = .ok (.iload 6, 2) := by decide +kernel
theorem dX0_mostFrom_129 : decode cX0_mostFrom 129 = .ok (.invokevirtual 74, 3) := by decide +kernel
theorem dX0_mostFrom_132 : decode cX0_mostFrom 132 = .ok (.invokestatic 62, 3) := by decide +kernel
theorem dX0_mostFrom_135 : decode cX0_mostFrom 135 = .ok (.istore 11, 2) := by decide +kernel
theorem dX0_mostFrom_137 : decode cX0_mostFrom 137 = .ok (.aload_n 0, 1) := by decide +kernel
theorem dX0_mostFrom_138 : decode cX0_mostFrom 138 = .ok (.getfield 18, 3) := by decide +kernel
theorem dX0_mostFrom_141 : decode cX0_mostFrom 141 = .ok (.getfield 77, 3) := by decide +kernel
theorem dX0_mostFrom_144 : decode cX0_mostFrom 144 = .ok (.iconst 1, 1) := by decide +kernel
theorem dX0_mostFrom_145 : decode cX0_mostFrom 145 = .ok (.if_icmp .le 28, 3) := by decide +kernel
theorem dX0_mostFrom_148 : decode cX0_mostFrom 148 = .ok (.iload 7, 2) := by decide +kernel
theorem dX0_mostFrom_150 : decode cX0_mostFrom 150 = .ok (.iload 5, 2) := by decide +kernel
theorem dX0_mostFrom_152 : decode cX0_mostFrom 152 = .ok (.if_icmp .eq 21, 3) := by decide +kernel
theorem dX0_mostFrom_155 : decode cX0_mostFrom 155 = .ok (.iload 11, 2) := by decide +kernel
theorem dX0_mostFrom_157 : decode cX0_mostFrom 157 = .ok (.aload_n 0, 1) := by decide +kernel
theorem dX0_mostFrom_158 : decode cX0_mostFrom 158 = .ok (.iload_n 1, 1) := by decide +kernel
theorem dX0_mostFrom_159 : decode cX0_mostFrom 159 = .ok (.iload 7, 2) := by decide +kernel
theorem dX0_mostFrom_161 : decode cX0_mostFrom 161 = .ok (.iload 5, 2) := by decide +kernel
theorem dX0_mostFrom_163 : decode cX0_mostFrom 163 = .ok (.iload 6, 2) := by decide +kernel
theorem dX0_mostFrom_165 : decode cX0_mostFrom 165 = .ok (.invokevirtual 74, 3) := by decide +kernel
theorem dX0_mostFrom_168 : decode cX0_mostFrom 168 = .ok (.invokestatic 62, 3) := by decide +kernel
theorem dX0_mostFrom_171 : decode cX0_mostFrom 171 = .ok (.istore 11, 2) := by decide +kernel
theorem dX0_mostFrom_173 : decode cX0_mostFrom 173 = .ok (.aload_n 0, 1) := by decide +kernel
theorem dX0_mostFrom_174 : decode cX0_mostFrom 174 = .ok (.getfield 18, 3) := by decide +kernel
theorem dX0_mostFrom_177 : decode cX0_mostFrom 177 = .ok (.getfield 77, 3) := by decide +kernel
theorem dX0_mostFrom_180 : decode cX0_mostFrom 180 = .ok (.iconst 2, 1) := by decide +kernel
theorem dX0_mostFrom_181 : decode cX0_mostFrom 181 = .ok (.if_icmp .le 28, 3) := by decide +kernel
theorem dX0_mostFrom_184 : decode cX0_mostFrom 184 = .ok (.iload 6, 2) := by decide +kernel
theorem dX0_mostFrom_186 : decode cX0_mostFrom 186 = .ok (.iload 7, 2) := by decide +kernel
theorem dX0_mostFrom_188 : decode cX0_mostFrom 188 = .ok (.if_icmp .eq 21, 3) := by decide +kernel
theorem dX0_mostFrom_191 : decode cX0_mostFrom 191 = .ok (.iload 11, 2) := by decide +kernel
theorem dX0_mostFrom_193 : decode cX0_mostFrom 193 = .ok (.aload_n 0, 1) := by decide +kernel
theorem dX0_mostFrom_194 : decode cX0_mostFrom 194 = .ok (.iload_n 1, 1) := by decide +kernel
theorem dX0_mostFrom_195 : decode cX0_mostFrom 195 = .ok (.iload 6, 2) := by decide +kernel
theorem dX0_mostFrom_197 : decode cX0_mostFrom 197 = .ok (.iload 5, 2) := by decide +kernel
theorem dX0_mostFrom_199 : decode cX0_mostFrom 199 = .ok (.iload 7, 2) := by decide +kernel
theorem dX0_mostFrom_201 : decode cX0_mostFrom 201 = .ok (.invokevirtual 74, 3) := by decide +kernel
theorem dX0_mostFrom_204 : decode cX0_mostFrom 204 = .ok (.invokestatic 62, 3) := by decide +kernel
theorem dX0_mostFrom_207 : decode cX0_mostFrom 207 = .ok (.istore 11, 2) := by decide +kernel
theorem dX0_mostFrom_209 : decode cX0_mostFrom 209 = .ok (.aload_n 0, 1) := by decide +kernel
theorem dX0_mostFrom_210 : decode cX0_mostFrom 210 = .ok (.getfield 11, 3) := by decide +kernel
theorem dX0_mostFrom_213 : decode cX0_mostFrom 213 = .ok (.iload 8, 2) := by decide +kernel
theorem dX0_mostFrom_215 : decode cX0_mostFrom 215 = .ok (.dup2, 1) := by decide +kernel
theorem dX0_mostFrom_216 : decode cX0_mostFrom 216 = .ok (.iaload, 1) := by decide +kernel
theorem dX0_mostFrom_217 : decode cX0_mostFrom 217 = .ok (.iload 11, 2) := by decide +kernel
theorem dX0_mostFrom_219 : decode cX0_mostFrom 219 = .ok (.iconst 1, 1) := by decide +kernel
theorem dX0_mostFrom_220 : decode cX0_mostFrom 220 = .ok (.iadd, 1) := by decide +kernel
theorem dX0_mostFrom_221 : decode cX0_mostFrom 221 = .ok (.iload 9, 2) := by decide +kernel
theorem dX0_mostFrom_223 : decode cX0_mostFrom 223 = .ok (.ishl, 1) := by decide +kernel
theorem dX0_mostFrom_224 : decode cX0_mostFrom 224 = .ok (.ior, 1) := by decide +kernel
theorem dX0_mostFrom_225 : decode cX0_mostFrom 225 = .ok (.iastore, 1) := by decide +kernel
theorem dX0_mostFrom_226 : decode cX0_mostFrom 226 = .ok (.aload_n 0, 1) := by decide +kernel
theorem dX0_mostFrom_227 : decode cX0_mostFrom 227 = .ok (.iconst 1, 1) := by decide +kernel
theorem dX0_mostFrom_228 : decode cX0_mostFrom 228 = .ok (.putfield 26, 3) := by decide +kernel
theorem dX0_mostFrom_231 : decode cX0_mostFrom 231 = .ok (.iload 11, 2) := by decide +kernel
theorem dX0_mostFrom_233 : decode cX0_mostFrom 233 = .ok (.ireturn, 1) := by decide +kernel
theorem dX0_mostSeated_0 : decode cX0_mostSeated 0 = .ok (.aload_n 0, 1) := by decide +kernel
theorem dX0_mostSeated_1 : decode cX0_mostSeated 1 = .ok (.getfield 18, 3) := by decide +kernel
theorem dX0_mostSeated_4 : decode cX0_mostSeated 4 = .ok (.iload_n 1, 1) := by decide +kernel
theorem dX0_mostSeated_5 : decode cX0_mostSeated 5 = .ok (.invokevirtual 80, 3) := by decide +kernel
theorem dX0_mostSeated_8 : decode cX0_mostSeated 8 = .ok (.istore 5, 2) := by decide +kernel
theorem dX0_mostSeated_10 : decode cX0_mostSeated 10 = .ok (.iconst 0, 1) := by decide +kernel
theorem dX0_mostSeated_11 : decode cX0_mostSeated 11 = .ok (.istore 6, 2) := by decide +kernel
theorem dX0_mostSeated_13 : decode cX0_mostSeated 13 = .ok (.iconst 0, 1) := by decide +kernel
theorem dX0_mostSeated_14 : decode cX0_mostSeated 14 = .ok (.istore 7, 2) := by decide +kernel
theorem dX0_mostSeated_16 : decode cX0_mostSeated 16 = .ok (.iload 7, 2) := by decide +kernel
theorem dX0_mostSeated_18 : decode cX0_mostSeated 18 = .ok (.aload_n 0, 1) := by decide +kernel
theorem dX0_mostSeated_19 : decode cX0_mostSeated 19 = .ok (.getfield 22, 3) := by decide +kernel
theorem dX0_mostSeated_22 : decode cX0_mostSeated 22 = .ok (.iload_n 2, 1) := by decide +kernel
theorem dX0_mostSeated_23 : decode cX0_mostSeated 23 = .ok (.invokevirtual 83, 3) := by decide +kernel
theorem dX0_mostSeated_26 : decode cX0_mostSeated 26 = .ok (.if_icmp .ge 53, 3) := by decide +kernel
theorem dX0_mostSeated_29 : decode cX0_mostSeated 29 = .ok (.aload_n 0, 1) := by decide +kernel
theorem dX0_mostSeated_30 : decode cX0_mostSeated 30 = .ok (.getfield 22, 3) := by decide +kernel
theorem dX0_mostSeated_33 : decode cX0_mostSeated 33 = .ok (.iload_n 2, 1) := by decide +kernel
theorem dX0_mostSeated_34 : decode cX0_mostSeated 34 = .ok (.iload 7, 2) := by decide +kernel
theorem dX0_mostSeated_36 : decode cX0_mostSeated 36 = .ok (.invokevirtual 88, 3) := by decide +kernel
theorem dX0_mostSeated_39 : decode cX0_mostSeated 39 = .ok (.iload 5, 2) := by decide +kernel
theorem dX0_mostSeated_41 : decode cX0_mostSeated 41 = .ok (.if_icmp .ne 32, 3) := by decide +kernel
theorem dX0_mostSeated_44 : decode cX0_mostSeated 44 = .ok (.iload 6, 2) := by decide +kernel
theorem dX0_mostSeated_46 : decode cX0_mostSeated 46 = .ok (.iconst 1, 1) := by decide +kernel
theorem dX0_mostSeated_47 : decode cX0_mostSeated 47 = .ok (.aload_n 0, 1) := by decide +kernel
theorem dX0_mostSeated_48 : decode cX0_mostSeated 48 = .ok (.iload_n 1, 1) := by decide +kernel
theorem dX0_mostSeated_49 : decode cX0_mostSeated 49 = .ok (.iconst 1, 1) := by decide +kernel
theorem dX0_mostSeated_50 : decode cX0_mostSeated 50 = .ok (.iadd, 1) := by decide +kernel
theorem dX0_mostSeated_51 : decode cX0_mostSeated 51 = .ok (.aload_n 0, 1) := by decide +kernel
theorem dX0_mostSeated_52 : decode cX0_mostSeated 52 = .ok (.getfield 22, 3) := by decide +kernel
theorem dX0_mostSeated_55 : decode cX0_mostSeated 55 = .ok (.iload_n 2, 1) := by decide +kernel
theorem dX0_mostSeated_56 : decode cX0_mostSeated 56 = .ok (.iload 7, 2) := by decide +kernel
theorem dX0_mostSeated_58 : decode cX0_mostSeated 58 = .ok (.invokevirtual 91, 3) := by decide +kernel
theorem dX0_mostSeated_61 : decode cX0_mostSeated 61 = .ok (.iload_n 3, 1) := by decide +kernel
theorem dX0_mostSeated_62 : decode cX0_mostSeated 62 = .ok (.iload 4, 2) := by decide +kernel
theorem dX0_mostSeated_64 : decode cX0_mostSeated 64 = .ok (.invokevirtual 39, 3) := by decide +kernel
theorem dX0_mostSeated_67 : decode cX0_mostSeated 67 = .ok (.iadd, 1) := by decide +kernel
theorem dX0_mostSeated_68 : decode cX0_mostSeated 68 = .ok (.invokestatic 62, 3) := by decide +kernel
theorem dX0_mostSeated_71 : decode cX0_mostSeated 71 = .ok (.istore 6, 2) := by decide +kernel
theorem dX0_mostSeated_73 : decode cX0_mostSeated 73 = .ok (.iinc 7 1, 3) := by decide +kernel
theorem dX0_mostSeated_76 : decode cX0_mostSeated 76 = .ok (.goto (-60), 3) := by decide +kernel
theorem dX0_mostSeated_79 : decode cX0_mostSeated 79 = .ok (.iload 6, 2) := by decide +kernel
theorem dX0_mostSeated_81 : decode cX0_mostSeated 81 = .ok (.ireturn, 1) := by decide +kernel
theorem dX0_hoped_0 : decode cX0_hoped 0 = .ok (.iload_n 2, 1) := by decide +kernel
theorem dX0_hoped_1 : decode cX0_hoped 1 = .ok (.iload_n 3, 1) := by decide +kernel
theorem dX0_hoped_2 : decode cX0_hoped 2 = .ok (.iload 4, 2) := by decide +kernel
theorem dX0_hoped_4 : decode cX0_hoped 4 = .ok (.invokestatic 56, 3) := by decide +kernel
theorem dX0_hoped_7 : decode cX0_hoped 7 = .ok (.invokestatic 56, 3) := by decide +kernel
theorem dX0_hoped_10 : decode cX0_hoped 10 = .ok (.istore 5, 2) := by decide +kernel
theorem dX0_hoped_12 : decode cX0_hoped 12 = .ok (.iload_n 2, 1) := by decide +kernel
theorem dX0_hoped_13 : decode cX0_hoped 13 = .ok (.iload_n 3, 1) := by decide +kernel
theorem dX0_hoped_14 : decode cX0_hoped 14 = .ok (.iload 4, 2) := by decide +kernel
theorem dX0_hoped_16 : decode cX0_hoped 16 = .ok (.invokestatic 62, 3) := by decide +kernel
theorem dX0_hoped_19 : decode cX0_hoped 19 = .ok (.invokestatic 62, 3) := by decide +kernel
theorem dX0_hoped_22 : decode cX0_hoped 22 = .ok (.istore 6, 2) := by decide +kernel
theorem dX0_hoped_24 : decode cX0_hoped 24 = .ok (.iload_n 2, 1) := by decide +kernel
theorem dX0_hoped_25 : decode cX0_hoped 25 = .ok (.iload_n 3, 1) := by decide +kernel
theorem dX0_hoped_26 : decode cX0_hoped 26 = .ok (.iadd, 1) := by decide +kernel
theorem dX0_hoped_27 : decode cX0_hoped 27 = .ok (.iload 4, 2) := by decide +kernel
theorem dX0_hoped_29 : decode cX0_hoped 29 = .ok (.iadd, 1) := by decide +kernel
theorem dX0_hoped_30 : decode cX0_hoped 30 = .ok (.iload 5, 2) := by decide +kernel
theorem dX0_hoped_32 : decode cX0_hoped 32 = .ok (.isub, 1) := by decide +kernel
theorem dX0_hoped_33 : decode cX0_hoped 33 = .ok (.iload 6, 2) := by decide +kernel
theorem dX0_hoped_35 : decode cX0_hoped 35 = .ok (.isub, 1) := by decide +kernel
theorem dX0_hoped_36 : decode cX0_hoped 36 = .ok (.istore 7, 2) := by decide +kernel
theorem dX0_hoped_38 : decode cX0_hoped 38 = .ok (.iload_n 1, 1) := by decide +kernel
theorem dX0_hoped_39 : decode cX0_hoped 39 = .ok (.iconst 1, 1) := by decide +kernel
theorem dX0_hoped_40 : decode cX0_hoped 40 = .ok (.if_icmp .lt 20, 3) := by decide +kernel
theorem dX0_hoped_43 : decode cX0_hoped 43 = .ok (.iload_n 1, 1) := by decide +kernel
theorem dX0_hoped_44 : decode cX0_hoped 44 = .ok (.iconst 4, 1) := by decide +kernel
theorem dX0_hoped_45 : decode cX0_hoped 45 = .ok (.if_icmp .gt 15, 3) := by decide +kernel
theorem dX0_hoped_48 : decode cX0_hoped 48 = .ok (.iload 5, 2) := by decide +kernel
theorem dX0_hoped_50 : decode cX0_hoped 50 = .ok (.ifCond .lt 10, 3) := by decide +kernel
theorem dX0_hoped_53 : decode cX0_hoped 53 = .ok (.iload 6, 2) := by decide +kernel
theorem dX0_hoped_55 : decode cX0_hoped 55 = .ok (.bipush 25, 2) := by decide +kernel
theorem dX0_hoped_57 : decode cX0_hoped 57 = .ok (.if_icmp .lt 5, 3) := by decide +kernel
theorem dX0_hoped_60 : decode cX0_hoped 60 = .ok (.iconst 0, 1) := by decide +kernel
theorem dX0_hoped_61 : decode cX0_hoped 61 = .ok (.ireturn, 1) := by decide +kernel
theorem dX0_hoped_62 : decode cX0_hoped 62 = .ok (.iload_n 1, 1) := by decide +kernel
theorem dX0_hoped_63 : decode cX0_hoped 63 = .ok (.iconst 1, 1) := by decide +kernel
theorem dX0_hoped_64 : decode cX0_hoped 64 = .ok (.isub, 1) := by decide +kernel
theorem dX0_hoped_65 : decode cX0_hoped 65 = .ok (.sipush 2925, 3) := by decide +kernel
theorem dX0_hoped_68 : decode cX0_hoped 68 = .ok (.imul, 1) := by decide +kernel
theorem dX0_hoped_69 : decode cX0_hoped 69 = .ok (.iload 5, 2) := by decide +kernel
theorem dX0_hoped_71 : decode cX0_hoped 71 = .ok (.iload 7, 2) := by decide +kernel
theorem dX0_hoped_73 : decode cX0_hoped 73 = .ok (.iload 6, 2) := by decide +kernel
theorem dX0_hoped_75 : decode cX0_hoped 75 = .ok (.invokestatic 70, 3) := by decide +kernel
theorem dX0_hoped_78 : decode cX0_hoped 78 = .ok (.iadd, 1) := by decide +kernel
theorem dX0_hoped_79 : decode cX0_hoped 79 = .ok (.istore 8, 2) := by decide +kernel
theorem dX0_hoped_81 : decode cX0_hoped 81 = .ok (.aload_n 0, 1) := by decide +kernel
theorem dX0_hoped_82 : decode cX0_hoped 82 = .ok (.getfield 15, 3) := by decide +kernel
theorem dX0_hoped_85 : decode cX0_hoped 85 = .ok (.iload 8, 2) := by decide +kernel
theorem dX0_hoped_87 : decode cX0_hoped 87 = .ok (.iaload, 1) := by decide +kernel
theorem dX0_hoped_88 : decode cX0_hoped 88 = .ok (.ifCond .le 13, 3) := by decide +kernel
theorem dX0_hoped_91 : decode cX0_hoped 91 = .ok (.aload_n 0, 1) := by decide +kernel
theorem dX0_hoped_92 : decode cX0_hoped 92 = .ok (.getfield 15, 3) := by decide +kernel
theorem dX0_hoped_95 : decode cX0_hoped 95 = .ok (.iload 8, 2) := by decide +kernel
theorem dX0_hoped_97 : decode cX0_hoped 97 = .ok (.iaload, 1) := by decide +kernel
theorem dX0_hoped_98 : decode cX0_hoped 98 = .ok (.iconst 1, 1) := by decide +kernel
theorem dX0_hoped_99 : decode cX0_hoped 99 = .ok (.isub, 1) := by decide +kernel
theorem dX0_hoped_100 : decode cX0_hoped 100 = .ok (.ireturn, 1) := by decide +kernel
theorem dX0_hoped_101 : decode cX0_hoped 101 = .ok (.aload_n 0, 1) := by decide +kernel
theorem dX0_hoped_102 : decode cX0_hoped 102 = .ok (.iload_n 1, 1) := by decide +kernel
theorem dX0_hoped_103 : decode cX0_hoped 103 = .ok (.iconst 1, 1) := by decide +kernel
theorem dX0_hoped_104 : decode cX0_hoped 104 = .ok (.isub, 1) := by decide +kernel
theorem dX0_hoped_105 : decode cX0_hoped 105 = .ok (.iload 5, 2) := by decide +kernel
theorem dX0_hoped_107 : decode cX0_hoped 107 = .ok (.iload 7, 2) := by decide +kernel
theorem dX0_hoped_109 : decode cX0_hoped 109 = .ok (.iload 6, 2) := by decide +kernel
theorem dX0_hoped_111 : decode cX0_hoped 111 = .ok (.invokevirtual 53, 3) := by decide +kernel
theorem dX0_hoped_114 : decode cX0_hoped 114 = .ok (.istore 9, 2) := by decide +kernel
theorem dX0_hoped_116 : decode cX0_hoped 116 = .ok (.iconst 0, 1) := by decide +kernel
theorem dX0_hoped_117 : decode cX0_hoped 117 = .ok (.istore 10, 2) := by decide +kernel
theorem dX0_hoped_119 : decode cX0_hoped 119 = .ok (.iconst 0, 1) := by decide +kernel
theorem dX0_hoped_120 : decode cX0_hoped 120 = .ok (.istore 11, 2) := by decide +kernel
theorem dX0_hoped_122 : decode cX0_hoped 122 = .ok (.iload 11, 2) := by decide +kernel
theorem dX0_hoped_124 : decode cX0_hoped 124 = .ok (.aload_n 0, 1) := by decide +kernel
theorem dX0_hoped_125 : decode cX0_hoped 125 = .ok (.getfield 18, 3) := by decide +kernel
theorem dX0_hoped_128 : decode cX0_hoped 128 = .ok (.getfield 94, 3) := by decide +kernel
theorem dX0_hoped_131 : decode cX0_hoped 131 = .ok (.if_icmp .ge 133, 3) := by decide +kernel
theorem dX0_hoped_134 : decode cX0_hoped 134 = .ok (.aload_n 0, 1) := by decide +kernel
theorem dX0_hoped_135 : decode cX0_hoped 135 = .ok (.getfield 18, 3) := by decide +kernel
theorem dX0_hoped_138 : decode cX0_hoped 138 = .ok (.iload 11, 2) := by decide +kernel
theorem dX0_hoped_140 : decode cX0_hoped 140 = .ok (.invokevirtual 97, 3) := by decide +kernel
theorem dX0_hoped_143 : decode cX0_hoped 143 = .ok (.istore 12, 2) := by decide +kernel
theorem dX0_hoped_145 : decode cX0_hoped 145 = .ok (.iload 9, 2) := by decide +kernel
theorem dX0_hoped_147 : decode cX0_hoped 147 = .ok (.aload_n 0, 1) := by decide +kernel
theorem dX0_hoped_148 : decode cX0_hoped 148 = .ok (.iload_n 1, 1) := by decide +kernel
theorem dX0_hoped_149 : decode cX0_hoped 149 = .ok (.iload 12, 2) := by decide +kernel
theorem dX0_hoped_151 : decode cX0_hoped 151 = .ok (.iload 5, 2) := by decide +kernel
theorem dX0_hoped_153 : decode cX0_hoped 153 = .ok (.iload 7, 2) := by decide +kernel
theorem dX0_hoped_155 : decode cX0_hoped 155 = .ok (.iload 6, 2) := by decide +kernel
theorem dX0_hoped_157 : decode cX0_hoped 157 = .ok (.invokevirtual 100, 3) := by decide +kernel
theorem dX0_hoped_160 : decode cX0_hoped 160 = .ok (.invokestatic 62, 3) := by decide +kernel
theorem dX0_hoped_163 : decode cX0_hoped 163 = .ok (.istore 13, 2) := by decide +kernel
theorem dX0_hoped_165 : decode cX0_hoped 165 = .ok (.aload_n 0, 1) := by decide +kernel
theorem dX0_hoped_166 : decode cX0_hoped 166 = .ok (.getfield 18, 3) := by decide +kernel
theorem dX0_hoped_169 : decode cX0_hoped 169 = .ok (.getfield 77, 3) := by decide +kernel
theorem dX0_hoped_172 : decode cX0_hoped 172 = .ok (.iconst 1, 1) := by decide +kernel
theorem dX0_hoped_173 : decode cX0_hoped 173 = .ok (.if_icmp .le 30, 3) := by decide +kernel
theorem dX0_hoped_176 : decode cX0_hoped 176 = .ok (.iload 7, 2) := by decide +kernel
theorem dX0_hoped_178 : decode cX0_hoped 178 = .ok (.iload 5, 2) := by decide +kernel
theorem dX0_hoped_180 : decode cX0_hoped 180 = .ok (.if_icmp .eq 23, 3) := by decide +kernel
theorem dX0_hoped_183 : decode cX0_hoped 183 = .ok (.iload 13, 2) := by decide +kernel
theorem dX0_hoped_185 : decode cX0_hoped 185 = .ok (.aload_n 0, 1) := by decide +kernel
theorem dX0_hoped_186 : decode cX0_hoped 186 = .ok (.iload_n 1, 1) := by decide +kernel
theorem dX0_hoped_187 : decode cX0_hoped 187 = .ok (.iload 12, 2) := by decide +kernel
theorem dX0_hoped_189 : decode cX0_hoped 189 = .ok (.iload 7, 2) := by decide +kernel
theorem dX0_hoped_191 : decode cX0_hoped 191 = .ok (.iload 5, 2) := by decide +kernel
theorem dX0_hoped_193 : decode cX0_hoped 193 = .ok (.iload 6, 2) := by decide +kernel
theorem dX0_hoped_195 : decode cX0_hoped 195 = .ok (.invokevirtual 100, 3) := by decide +kernel
theorem dX0_hoped_198 : decode cX0_hoped 198 = .ok (.invokestatic 62, 3) := by decide +kernel
theorem dX0_hoped_201 : decode cX0_hoped 201 = .ok (.istore 13, 2) := by decide +kernel
theorem dX0_hoped_203 : decode cX0_hoped 203 = .ok (.aload_n 0, 1) := by decide +kernel
theorem dX0_hoped_204 : decode cX0_hoped 204 = .ok (.getfield 18, 3) := by decide +kernel
theorem dX0_hoped_207 : decode cX0_hoped 207 = .ok (.getfield 77, 3) := by decide +kernel
theorem dX0_hoped_210 : decode cX0_hoped 210 = .ok (.iconst 2, 1) := by decide +kernel
theorem dX0_hoped_211 : decode cX0_hoped 211 = .ok (.if_icmp .le 30, 3) := by decide +kernel
theorem dX0_hoped_214 : decode cX0_hoped 214 = .ok (.iload 6, 2) := by decide +kernel
theorem dX0_hoped_216 : decode cX0_hoped 216 = .ok (.iload 7, 2) := by decide +kernel
theorem dX0_hoped_218 : decode cX0_hoped 218 = .ok (.if_icmp .eq 23, 3) := by decide +kernel
theorem dX0_hoped_221 : decode cX0_hoped 221 = .ok (.iload 13, 2) := by decide +kernel
theorem dX0_hoped_223 : decode cX0_hoped 223 = .ok (.aload_n 0, 1) := by decide +kernel
theorem dX0_hoped_224 : decode cX0_hoped 224 = .ok (.iload_n 1, 1) := by decide +kernel
theorem dX0_hoped_225 : decode cX0_hoped 225 = .ok (.iload 12, 2) := by decide +kernel
theorem dX0_hoped_227 : decode cX0_hoped 227 = .ok (.iload 6, 2) := by decide +kernel
theorem dX0_hoped_229 : decode cX0_hoped 229 = .ok (.iload 5, 2) := by decide +kernel
theorem dX0_hoped_231 : decode cX0_hoped 231 = .ok (.iload 7, 2) := by decide +kernel
theorem dX0_hoped_233 : decode cX0_hoped 233 = .ok (.invokevirtual 100, 3) := by decide +kernel
theorem dX0_hoped_236 : decode cX0_hoped 236 = .ok (.invokestatic 62, 3) := by decide +kernel
theorem dX0_hoped_239 : decode cX0_hoped 239 = .ok (.istore 13, 2) := by decide +kernel
theorem dX0_hoped_241 : decode cX0_hoped 241 = .ok (.iload 10, 2) := by decide +kernel
theorem dX0_hoped_243 : decode cX0_hoped 243 = .ok (.aload_n 0, 1) := by decide +kernel
theorem dX0_hoped_244 : decode cX0_hoped 244 = .ok (.getfield 18, 3) := by decide +kernel
theorem dX0_hoped_247 : decode cX0_hoped 247 = .ok (.iload 11, 2) := by decide +kernel
theorem dX0_hoped_249 : decode cX0_hoped 249 = .ok (.invokevirtual 104, 3) := by decide +kernel
theorem dX0_hoped_252 : decode cX0_hoped 252 = .ok (.iload 13, 2) := by decide +kernel
theorem dX0_hoped_254 : decode cX0_hoped 254 = .ok (.imul, 1) := by decide +kernel
theorem dX0_hoped_255 : decode cX0_hoped 255 = .ok (.iadd, 1) := by decide +kernel
theorem dX0_hoped_256 : decode cX0_hoped 256 = .ok (.istore 10, 2) := by decide +kernel
theorem dX0_hoped_258 : decode cX0_hoped 258 = .ok (.iinc 11 1, 3) := by decide +kernel
theorem dX0_hoped_261 : decode cX0_hoped 261 = .ok (.goto (-139), 3) := by decide +kernel
theorem dX0_hoped_264 : decode cX0_hoped 264 = .ok (.aload_n 0, 1) := by decide +kernel
theorem dX0_hoped_265 : decode cX0_hoped 265 = .ok (.getfield 15, 3) := by decide +kernel
theorem dX0_hoped_268 : decode cX0_hoped 268 = .ok (.iload 8, 2) := by decide +kernel
theorem dX0_hoped_270 : decode cX0_hoped 270 = .ok (.iload 10, 2) := by decide +kernel
theorem dX0_hoped_272 : decode cX0_hoped 272 = .ok (.iconst 1, 1) := by decide +kernel
theorem dX0_hoped_273 : decode cX0_hoped 273 = .ok (.iadd, 1) := by decide +kernel
theorem dX0_hoped_274 : decode cX0_hoped 274 = .ok (.iastore, 1) := by decide +kernel
theorem dX0_hoped_275 : decode cX0_hoped 275 = .ok (.aload_n 0, 1) := by decide +kernel
theorem dX0_hoped_276 : decode cX0_hoped 276 = .ok (.iconst 1, 1) := by decide +kernel
theorem dX0_hoped_277 : decode cX0_hoped 277 = .ok (.putfield 36, 3) := by decide +kernel
theorem dX0_hoped_280 : decode cX0_hoped 280 = .ok (.iload 10, 2) := by decide +kernel
theorem dX0_hoped_282 : decode cX0_hoped 282 = .ok (.ireturn, 1) := by decide +kernel
theorem dX0_hopedSeated_0 : decode cX0_hopedSeated 0 = .ok (.iconst 0, 1) := by decide +kernel
theorem dX0_hopedSeated_1 : decode cX0_hopedSeated 1 = .ok (.istore 6, 2) := by decide +kernel
theorem dX0_hopedSeated_3 : decode cX0_hopedSeated 3 = .ok (.iconst 0, 1) := by decide +kernel
theorem dX0_hopedSeated_4 : decode cX0_hopedSeated 4 = .ok (.istore 7, 2) := by decide +kernel
theorem dX0_hopedSeated_6 : decode cX0_hopedSeated 6 = .ok (.iload 7, 2) := by decide +kernel
theorem dX0_hopedSeated_8 : decode cX0_hopedSeated 8 = .ok (.aload_n 0, 1) := by decide +kernel
theorem dX0_hopedSeated_9 : decode cX0_hopedSeated 9 = .ok (.getfield 22, 3) := by decide +kernel
theorem dX0_hopedSeated_12 : decode cX0_hopedSeated 12 = .ok (.iload_n 3, 1) := by decide +kernel
theorem dX0_hopedSeated_13 : decode cX0_hopedSeated 13 = .ok (.invokevirtual 83, 3) := by decide +kernel
theorem dX0_hopedSeated_16 : decode cX0_hopedSeated 16 = .ok (.if_icmp .ge 59, 3) := by decide +kernel
theorem dX0_hopedSeated_19 : decode cX0_hopedSeated 19 = .ok (.aload_n 0, 1) := by decide +kernel
theorem dX0_hopedSeated_20 : decode cX0_hopedSeated 20 = .ok (.getfield 22, 3) := by decide +kernel
theorem dX0_hopedSeated_23 : decode cX0_hopedSeated 23 = .ok (.iload_n 3, 1) := by decide +kernel
theorem dX0_hopedSeated_24 : decode cX0_hopedSeated 24 = .ok (.iload 7, 2) := by decide +kernel
theorem dX0_hopedSeated_26 : decode cX0_hopedSeated 26 = .ok (.invokevirtual 88, 3) := by decide +kernel
theorem dX0_hopedSeated_29 : decode cX0_hopedSeated 29 = .ok (.iload_n 2, 1) := by decide +kernel
theorem dX0_hopedSeated_30 : decode cX0_hopedSeated 30 = .ok (.if_icmp .ne 39, 3) := by decide +kernel
theorem dX0_hopedSeated_33 : decode cX0_hopedSeated 33 = .ok (.iload 6, 2) := by decide +kernel
theorem dX0_hopedSeated_35 : decode cX0_hopedSeated 35 = .ok (.aload_n 0, 1) := by decide +kernel
theorem dX0_hopedSeated_36 : decode cX0_hopedSeated 36 = .ok (.iload_n 1, 1) := by decide +kernel
theorem dX0_hopedSeated_37 : decode cX0_hopedSeated 37 = .ok (.iconst 1, 1) := by decide +kernel
theorem dX0_hopedSeated_38 : decode cX0_hopedSeated 38 = .ok (.isub, 1) := by decide +kernel
theorem dX0_hopedSeated_39 : decode cX0_hopedSeated 39 = .ok (.invokevirtual 107, 3) := by decide +kernel
theorem dX0_hopedSeated_42 : decode cX0_hopedSeated 42 = .ok (.aload_n 0, 1) := by decide +kernel
theorem dX0_hopedSeated_43 : decode cX0_hopedSeated 43 = .ok (.iload_n 1, 1) := by decide +kernel
theorem dX0_hopedSeated_44 : decode cX0_hopedSeated 44 = .ok (.iconst 1, 1) := by decide +kernel
theorem dX0_hopedSeated_45 : decode cX0_hopedSeated 45 = .ok (.isub, 1) := by decide +kernel
theorem dX0_hopedSeated_46 : decode cX0_hopedSeated 46 = .ok (.aload_n 0, 1) := by decide +kernel
theorem dX0_hopedSeated_47 : decode cX0_hopedSeated 47 = .ok (.getfield 22, 3) := by decide +kernel
theorem dX0_hopedSeated_50 : decode cX0_hopedSeated 50 = .ok (.iload_n 3, 1) := by decide +kernel
theorem dX0_hopedSeated_51 : decode cX0_hopedSeated 51 = .ok (.iload 7, 2) := by decide +kernel
theorem dX0_hopedSeated_53 : decode cX0_hopedSeated 53 = .ok (.invokevirtual 91, 3) := by decide +kernel
theorem dX0_hopedSeated_56 : decode cX0_hopedSeated 56 = .ok (.iload 4, 2) := by decide +kernel
theorem dX0_hopedSeated_58 : decode cX0_hopedSeated 58 = .ok (.iload 5, 2) := by decide +kernel
theorem dX0_hopedSeated_60 : decode cX0_hopedSeated 60 = .ok (.invokevirtual 53, 3) := by decide +kernel
theorem dX0_hopedSeated_63 : decode cX0_hopedSeated 63 = .ok (.iadd, 1) := by decide +kernel
theorem dX0_hopedSeated_64 : decode cX0_hopedSeated 64 = .ok (.invokestatic 62, 3) := by decide +kernel
theorem dX0_hopedSeated_67 : decode cX0_hopedSeated 67 = .ok (.istore 6, 2) := by decide +kernel
theorem dX0_hopedSeated_69 : decode cX0_hopedSeated 69 = .ok (.iinc 7 1, 3) := by decide +kernel
theorem dX0_hopedSeated_72 : decode cX0_hopedSeated 72 = .ok (.goto (-66), 3) := by decide +kernel
theorem dX0_hopedSeated_75 : decode cX0_hopedSeated 75 = .ok (.iload 6, 2) := by decide +kernel
theorem dX0_hopedSeated_77 : decode cX0_hopedSeated 77 = .ok (.ireturn, 1) := by decide +kernel
theorem dX0_weightOf_0 : decode cX0_weightOf 0 = .ok (.iconst 0, 1) := by decide +kernel
theorem dX0_weightOf_1 : decode cX0_weightOf 1 = .ok (.istore_n 2, 1) := by decide +kernel
theorem dX0_weightOf_2 : decode cX0_weightOf 2 = .ok (.iconst 0, 1) := by decide +kernel
theorem dX0_weightOf_3 : decode cX0_weightOf 3 = .ok (.istore_n 3, 1) := by decide +kernel
theorem dX0_weightOf_4 : decode cX0_weightOf 4 = .ok (.iload_n 3, 1) := by decide +kernel
theorem dX0_weightOf_5 : decode cX0_weightOf 5 = .ok (.aload_n 0, 1) := by decide +kernel
theorem dX0_weightOf_6 : decode cX0_weightOf 6 = .ok (.getfield 18, 3) := by decide +kernel
theorem dX0_weightOf_9 : decode cX0_weightOf 9 = .ok (.getfield 94, 3) := by decide +kernel
theorem dX0_weightOf_12 : decode cX0_weightOf 12 = .ok (.if_icmp .ge 20, 3) := by decide +kernel
theorem dX0_weightOf_15 : decode cX0_weightOf 15 = .ok (.iload_n 2, 1) := by decide +kernel
theorem dX0_weightOf_16 : decode cX0_weightOf 16 = .ok (.aload_n 0, 1) := by decide +kernel
theorem dX0_weightOf_17 : decode cX0_weightOf 17 = .ok (.getfield 18, 3) := by decide +kernel
theorem dX0_weightOf_20 : decode cX0_weightOf 20 = .ok (.iload_n 3, 1) := by decide +kernel
theorem dX0_weightOf_21 : decode cX0_weightOf 21 = .ok (.invokevirtual 104, 3) := by decide +kernel
theorem dX0_weightOf_24 : decode cX0_weightOf 24 = .ok (.iadd, 1) := by decide +kernel
theorem dX0_weightOf_25 : decode cX0_weightOf 25 = .ok (.istore_n 2, 1) := by decide +kernel
theorem dX0_weightOf_26 : decode cX0_weightOf 26 = .ok (.iinc 3 1, 3) := by decide +kernel
theorem dX0_weightOf_29 : decode cX0_weightOf 29 = .ok (.goto (-25), 3) := by decide +kernel
theorem dX0_weightOf_32 : decode cX0_weightOf 32 = .ok (.iconst 1, 1) := by decide +kernel
theorem dX0_weightOf_33 : decode cX0_weightOf 33 = .ok (.istore_n 3, 1) := by decide +kernel
theorem dX0_weightOf_34 : decode cX0_weightOf 34 = .ok (.iconst 0, 1) := by decide +kernel
theorem dX0_weightOf_35 : decode cX0_weightOf 35 = .ok (.istore 4, 2) := by decide +kernel
theorem dX0_weightOf_37 : decode cX0_weightOf 37 = .ok (.iload 4, 2) := by decide +kernel
theorem dX0_weightOf_39 : decode cX0_weightOf 39 = .ok (.iload_n 1, 1) := by decide +kernel
theorem dX0_weightOf_40 : decode cX0_weightOf 40 = .ok (.if_icmp .ge 19, 3) := by decide +kernel
theorem dX0_weightOf_43 : decode cX0_weightOf 43 = .ok (.iload 4, 2) := by decide +kernel
theorem dX0_weightOf_45 : decode cX0_weightOf 45 = .ok (.iconst 4, 1) := by decide +kernel
theorem dX0_weightOf_46 : decode cX0_weightOf 46 = .ok (.if_icmp .ge 13, 3) := by decide +kernel
theorem dX0_weightOf_49 : decode cX0_weightOf 49 = .ok (.iload_n 3, 1) := by decide +kernel
theorem dX0_weightOf_50 : decode cX0_weightOf 50 = .ok (.iload_n 2, 1) := by decide +kernel
theorem dX0_weightOf_51 : decode cX0_weightOf 51 = .ok (.imul, 1) := by decide +kernel
theorem dX0_weightOf_52 : decode cX0_weightOf 52 = .ok (.istore_n 3, 1) := by decide +kernel
theorem dX0_weightOf_53 : decode cX0_weightOf 53 = .ok (.iinc 4 1, 3) := by decide +kernel
theorem dX0_weightOf_56 : decode cX0_weightOf 56 = .ok (.goto (-19), 3) := by decide +kernel
theorem dX0_weightOf_59 : decode cX0_weightOf 59 = .ok (.iload_n 3, 1) := by decide +kernel
theorem dX0_weightOf_60 : decode cX0_weightOf 60 = .ok (.ireturn, 1) := by decide +kernel
theorem dX0_slotOf_0 : decode cX0_slotOf 0 = .ok (.iload_n 2, 1) := by decide +kernel
theorem dX0_slotOf_1 : decode cX0_slotOf 1 = .ok (.iload_n 2, 1) := by decide +kernel
theorem dX0_slotOf_2 : decode cX0_slotOf 2 = .ok (.iconst 1, 1) := by decide +kernel
theorem dX0_slotOf_3 : decode cX0_slotOf 3 = .ok (.iadd, 1) := by decide +kernel
theorem dX0_slotOf_4 : decode cX0_slotOf 4 = .ok (.imul, 1) := by decide +kernel
theorem dX0_slotOf_5 : decode cX0_slotOf 5 = .ok (.iload_n 2, 1) := by decide +kernel
theorem dX0_slotOf_6 : decode cX0_slotOf 6 = .ok (.iconst 2, 1) := by decide +kernel
theorem dX0_slotOf_7 : decode cX0_slotOf 7 = .ok (.iadd, 1) := by decide +kernel
theorem dX0_slotOf_8 : decode cX0_slotOf 8 = .ok (.imul, 1) := by decide +kernel
theorem dX0_slotOf_9 : decode cX0_slotOf 9 = .ok (.bipush 6, 2) := by decide +kernel
theorem dX0_slotOf_11 : decode cX0_slotOf 11 = .ok (.idiv, 1) := by decide +kernel
theorem dX0_slotOf_12 : decode cX0_slotOf 12 = .ok (.iload_n 1, 1) := by decide +kernel
theorem dX0_slotOf_13 : decode cX0_slotOf 13 = .ok (.iload_n 1, 1) := by decide +kernel
theorem dX0_slotOf_14 : decode cX0_slotOf 14 = .ok (.iconst 1, 1) := by decide +kernel
theorem dX0_slotOf_15 : decode cX0_slotOf 15 = .ok (.iadd, 1) := by decide +kernel
theorem dX0_slotOf_16 : decode cX0_slotOf 16 = .ok (.imul, 1) := by decide +kernel
theorem dX0_slotOf_17 : decode cX0_slotOf 17 = .ok (.iconst 2, 1) := by decide +kernel
theorem dX0_slotOf_18 : decode cX0_slotOf 18 = .ok (.idiv, 1) := by decide +kernel
theorem dX0_slotOf_19 : decode cX0_slotOf 19 = .ok (.iadd, 1) := by decide +kernel
theorem dX0_slotOf_20 : decode cX0_slotOf 20 = .ok (.iload_n 0, 1) := by decide +kernel
theorem dX0_slotOf_21 : decode cX0_slotOf 21 = .ok (.iadd, 1) := by decide +kernel
theorem dX0_slotOf_22 : decode cX0_slotOf 22 = .ok (.istore_n 3, 1) := by decide +kernel
theorem dX0_slotOf_23 : decode cX0_slotOf 23 = .ok (.iload_n 3, 1) := by decide +kernel
theorem dX0_slotOf_24 : decode cX0_slotOf 24 = .ok (.ifCond .lt 10, 3) := by decide +kernel
theorem dX0_slotOf_27 : decode cX0_slotOf 27 = .ok (.iload_n 3, 1) := by decide +kernel
theorem dX0_slotOf_28 : decode cX0_slotOf 28 = .ok (.sipush 2925, 3) := by decide +kernel
theorem dX0_slotOf_31 : decode cX0_slotOf 31 = .ok (.if_icmp .lt 7, 3) := by decide +kernel
theorem dX0_slotOf_34 : decode cX0_slotOf 34 = .ok (.iconst 0, 1) := by decide +kernel
theorem dX0_slotOf_35 : decode cX0_slotOf 35 = .ok (.goto 4, 3) := by decide +kernel
theorem dX0_slotOf_38 : decode cX0_slotOf 38 = .ok (.iload_n 3, 1) := by decide +kernel
theorem dX0_slotOf_39 : decode cX0_slotOf 39 = .ok (.ireturn, 1) := by decide +kernel
theorem dX1_init_0 : decode cX1_init 0 = .ok (.aload_n 0, 1) := by decide +kernel
theorem dX1_init_1 : decode cX1_init 1 = .ok (.invokespecial 3, 3) := by decide +kernel
theorem dX1_init_4 : decode cX1_init 4 = .ok (.aload_n 0, 1) := by decide +kernel
theorem dX1_init_5 : decode cX1_init 5 = .ok (.bipush 25, 2) := by decide +kernel
theorem dX1_init_7 : decode cX1_init 7 = .ok (.bipush 24, 2) := by decide +kernel
theorem dX1_init_9 : decode cX1_init 9 = .ok (.multianewarray 9 2, 4) := by decide +kernel
theorem dX1_init_13 : decode cX1_init 13 = .ok (.putfield 11, 3) := by decide +kernel
theorem dX1_init_16 : decode cX1_init 16 = .ok (.aload_n 0, 1) := by decide +kernel
theorem dX1_init_17 : decode cX1_init 17 = .ok (.bipush 25, 2) := by decide +kernel
theorem dX1_init_19 : decode cX1_init 19 = .ok (.bipush 24, 2) := by decide +kernel
theorem dX1_init_21 : decode cX1_init 21 = .ok (.multianewarray 9 2, 4) := by decide +kernel
theorem dX1_init_25 : decode cX1_init 25 = .ok (.putfield 16, 3) := by decide +kernel
theorem dX1_init_28 : decode cX1_init 28 = .ok (.aload_n 0, 1) := by decide +kernel
theorem dX1_init_29 : decode cX1_init 29 = .ok (.bipush 25, 2) := by decide +kernel
theorem dX1_init_31 : decode cX1_init 31 = .ok (.bipush 24, 2) := by decide +kernel
theorem dX1_init_33 : decode cX1_init 33 = .ok (.multianewarray 9 2, 4) := by decide +kernel
theorem dX1_init_37 : decode cX1_init 37 = .ok (.putfield 19, 3) := by decide +kernel
theorem dX1_init_40 : decode cX1_init 40 = .ok (.aload_n 0, 1) := by decide +kernel
theorem dX1_init_41 : decode cX1_init 41 = .ok (.bipush 25, 2) := by decide +kernel
theorem dX1_init_43 : decode cX1_init 43 = .ok (.bipush 24, 2) := by decide +kernel
theorem dX1_init_45 : decode cX1_init 45 = .ok (.multianewarray 9 2, 4) := by decide +kernel
theorem dX1_init_49 : decode cX1_init 49 = .ok (.putfield 22, 3) := by decide +kernel
theorem dX1_init_52 : decode cX1_init 52 = .ok (.aload_n 0, 1) := by decide +kernel
theorem dX1_init_53 : decode cX1_init 53 = .ok (.bipush 25, 2) := by decide +kernel
theorem dX1_init_55 : decode cX1_init 55 = .ok (.newarray .int, 2) := by decide +kernel
theorem dX1_init_57 : decode cX1_init 57 = .ok (.putfield 25, 3) := by decide +kernel
theorem dX1_init_60 : decode cX1_init 60 = .ok (.aload_n 0, 1) := by decide +kernel
theorem dX1_init_61 : decode cX1_init 61 = .ok (.bipush 24, 2) := by decide +kernel
theorem dX1_init_63 : decode cX1_init 63 = .ok (.bipush 25, 2) := by decide +kernel
theorem dX1_init_65 : decode cX1_init 65 = .ok (.multianewarray 9 2, 4) := by decide +kernel
theorem dX1_init_69 : decode cX1_init 69 = .ok (.putfield 29, 3) := by decide +kernel
theorem dX1_init_72 : decode cX1_init 72 = .ok (.aload_n 0, 1) := by decide +kernel
theorem dX1_init_73 : decode cX1_init 73 = .ok (.bipush 24, 2) := by decide +kernel
theorem dX1_init_75 : decode cX1_init 75 = .ok (.newarray .int, 2) := by decide +kernel
theorem dX1_init_77 : decode cX1_init 77 = .ok (.putfield 32, 3) := by decide +kernel
theorem dX1_init_80 : decode cX1_init 80 = .ok (.aload_n 0, 1) := by decide +kernel
theorem dX1_init_81 : decode cX1_init 81 = .ok (.bipush 25, 2) := by decide +kernel
theorem dX1_init_83 : decode cX1_init 83 = .ok (.newarray .int, 2) := by decide +kernel
theorem dX1_init_85 : decode cX1_init 85 = .ok (.putfield 35, 3) := by decide +kernel
theorem dX1_init_88 : decode cX1_init 88 = .ok (.aload_n 0, 1) := by decide +kernel
theorem dX1_init_89 : decode cX1_init 89 = .ok (.bipush 25, 2) := by decide +kernel
theorem dX1_init_91 : decode cX1_init 91 = .ok (.newarray .int, 2) := by decide +kernel
theorem dX1_init_93 : decode cX1_init 93 = .ok (.putfield 38, 3) := by decide +kernel
theorem dX1_init_96 : decode cX1_init 96 = .ok (.aload_n 0, 1) := by decide +kernel
theorem dX1_init_97 : decode cX1_init 97 = .ok (.bipush 25, 2) := by decide +kernel
theorem dX1_init_99 : decode cX1_init 99 = .ok (.newarray .int, 2) := by decide +kernel
theorem dX1_init_101 : decode cX1_init 101 = .ok (.putfield 41, 3) := by decide +kernel
theorem dX1_init_104 : decode cX1_init 104 = .ok (.aload_n 0, 1) := by decide +kernel
theorem dX1_init_105 : decode cX1_init 105 = .ok (.aload_n 1, 1) := by decide +kernel
theorem dX1_init_106 : decode cX1_init 106 = .ok (.putfield 44, 3) := by decide +kernel
theorem dX1_init_109 : decode cX1_init 109 = .ok (.return_, 1) := by decide +kernel
theorem dX1_weave_0 : decode cX1_weave 0 = .ok (.iconst 0, 1) := by decide +kernel
theorem dX1_weave_1 : decode cX1_weave 1 = .ok (.istore_n 1, 1) := by decide +kernel
theorem dX1_weave_2 : decode cX1_weave 2 = .ok (.iload_n 1, 1) := by decide +kernel
theorem dX1_weave_3 : decode cX1_weave 3 = .ok (.bipush 24, 2) := by decide +kernel
theorem dX1_weave_5 : decode cX1_weave 5 = .ok (.if_icmp .ge 71, 3) := by decide +kernel
theorem dX1_weave_8 : decode cX1_weave 8 = .ok (.iconst 0, 1) := by decide +kernel
theorem dX1_weave_9 : decode cX1_weave 9 = .ok (.istore_n 2, 1) := by decide +kernel
theorem dX1_weave_10 : decode cX1_weave 10 = .ok (.iload_n 2, 1) := by decide +kernel
theorem dX1_weave_11 : decode cX1_weave 11 = .ok (.bipush 24, 2) := by decide +kernel
theorem dX1_weave_13 : decode cX1_weave 13 = .ok (.if_icmp .ge 23, 3) := by decide +kernel
theorem dX1_weave_16 : decode cX1_weave 16 = .ok (.aload_n 0, 1) := by decide +kernel
theorem dX1_weave_17 : decode cX1_weave 17 = .ok (.getfield 11, 3) := by decide +kernel
theorem dX1_weave_20 : decode cX1_weave 20 = .ok (.iload_n 2, 1) := by decide +kernel
theorem dX1_weave_21 : decode cX1_weave 21 = .ok (.aaload, 1) := by decide +kernel
theorem dX1_weave_22 : decode cX1_weave 22 = .ok (.iload_n 1, 1) := by decide +kernel
theorem dX1_weave_23 : decode cX1_weave 23 = .ok (.aload_n 0, 1) := by decide +kernel
theorem dX1_weave_24 : decode cX1_weave 24 = .ok (.iload_n 2, 1) := by decide +kernel
theorem dX1_weave_25 : decode cX1_weave 25 = .ok (.iload_n 1, 1) := by decide +kernel
theorem dX1_weave_26 : decode cX1_weave 26 = .ok (.invokevirtual 48, 3) := by decide +kernel
theorem dX1_weave_29 : decode cX1_weave 29 = .ok (.iastore, 1) := by decide +kernel
theorem dX1_weave_30 : decode cX1_weave 30 = .ok (.iinc 2 1, 3) := by decide +kernel
theorem dX1_weave_33 : decode cX1_weave 33 = .ok (.goto (-23), 3) := by decide +kernel
theorem dX1_weave_36 : decode cX1_weave 36 = .ok (.aload_n 0, 1) := by decide +kernel
theorem dX1_weave_37 : decode cX1_weave 37 = .ok (.getfield 11, 3) := by decide +kernel
theorem dX1_weave_40 : decode cX1_weave 40 = .ok (.bipush 24, 2) := by decide +kernel
theorem dX1_weave_42 : decode cX1_weave 42 = .ok (.aaload, 1) := by decide +kernel
theorem dX1_weave_43 : decode cX1_weave 43 = .ok (.iload_n 1, 1) := by decide +kernel
theorem dX1_weave_44 : decode cX1_weave 44 = .ok (.aload_n 0, 1) := by decide +kernel
theorem dX1_weave_45 : decode cX1_weave 45 = .ok (.getfield 44, 3) := by decide +kernel
theorem dX1_weave_48 : decode cX1_weave 48 = .ok (.iload_n 1, 1) := by decide +kernel
theorem dX1_weave_49 : decode cX1_weave 49 = .ok (.invokevirtual 52, 3) := by decide +kernel
theorem dX1_weave_52 : decode cX1_weave 52 = .ok (.iconst 1, 1) := by decide +kernel
theorem dX1_weave_53 : decode cX1_weave 53 = .ok (.if_icmp .ne 15, 3) := by decide +kernel
theorem dX1_weave_56 : decode cX1_weave 56 = .ok (.aload_n 0, 1) := by decide +kernel
theorem dX1_weave_57 : decode cX1_weave 57 = .ok (.getfield 44, 3) := by decide +kernel
theorem dX1_weave_60 : decode cX1_weave 60 = .ok (.iload_n 1, 1) := by decide +kernel
theorem dX1_weave_61 : decode cX1_weave 61 = .ok (.iconst 0, 1) := by decide +kernel
theorem dX1_weave_62 : decode cX1_weave 62 = .ok (.invokevirtual 58, 3) := by decide +kernel
theorem dX1_weave_65 : decode cX1_weave 65 = .ok (.goto 4, 3) := by decide +kernel
theorem dX1_weave_68 : decode cX1_weave 68 = .ok (.iconst (-1), 1) := by decide +kernel
theorem dX1_weave_69 : decode cX1_weave 69 = .ok (.iastore, 1) := by decide +kernel
theorem dX1_weave_70 : decode cX1_weave 70 = .ok (.iinc 1 1, 3) := by decide +kernel
theorem dX1_weave_73 : decode cX1_weave 73 = .ok (.goto (-71), 3) := by decide +kernel
theorem dX1_weave_76 : decode cX1_weave 76 = .ok (.aload_n 0, 1) := by decide +kernel
theorem dX1_weave_77 : decode cX1_weave 77 = .ok (.invokevirtual 61, 3) := by decide +kernel
theorem dX1_weave_80 : decode cX1_weave 80 = .ok (.return_, 1) := by decide +kernel
theorem dX1_letterBetween_0 : decode cX1_letterBetween 0 = .ok (.aload_n 0, 1) := by decide +kernel
theorem dX1_letterBetween_1 : decode cX1_letterBetween 1 = .ok (.getfield 44, 3) := by decide +kernel
theorem dX1_letterBetween_4 : decode cX1_letterBetween 4 = .ok (.iload_n 1, 1) := by decide +kernel
theorem dX1_letterBetween_5 : decode cX1_letterBetween 5 = .ok (.invokevirtual 52, 3) := by decide +kernel
theorem dX1_letterBetween_8 : decode cX1_letterBetween 8 = .ok (.istore_n 3, 1) := by decide +kernel
theorem dX1_letterBetween_9 : decode cX1_letterBetween 9 = .ok (.iload_n 3, 1) := by decide +kernel
theorem dX1_letterBetween_10 : decode cX1_letterBetween 10 = .ok (.iconst 1, 1) := by decide +kernel
theorem dX1_letterBetween_11 : decode cX1_letterBetween 11 = .ok (.if_icmp .lt 17, 3) := by decide +kernel
theorem dX1_letterBetween_14 : decode cX1_letterBetween 14 = .ok (.aload_n 0, 1) := by decide +kernel
theorem dX1_letterBetween_15 : decode cX1_letterBetween 15 = .ok (.getfield 44, 3) := by decide +kernel
theorem dX1_letterBetween_18 : decode cX1_letterBetween 18 = .ok (.iload_n 2, 1) := by decide +kernel
theorem dX1_letterBetween_19 : decode cX1_letterBetween 19 = .ok (.invokevirtual 52, 3) := by decide +kernel
theorem dX1_letterBetween_22 : decode cX1_letterBetween 22 = .ok (.iload_n 3, 1) := by decide +kernel
theorem dX1_letterBetween_23 : decode cX1_letterBetween 23 = .ok (.iconst 1, 1) := by decide +kernel
theorem dX1_letterBetween_24 : decode cX1_letterBetween 24 = .ok (.iadd, 1) := by decide +kernel
theorem dX1_letterBetween_25 : decode cX1_letterBetween 25 = .ok (.if_icmp .eq 5, 3) := by decide +kernel
theorem dX1_letterBetween_28 : decode cX1_letterBetween 28 = .ok (.iconst (-1), 1) := by decide +kernel
theorem dX1_letterBetween_29 : decode cX1_letterBetween 29 = .ok (.ireturn, 1) := by decide +kernel
theorem dX1_letterBetween_30 : decode cX1_letterBetween 30 = .ok (.iconst 0, 1) := by decide +kernel
theorem dX1_letterBetween_31 : decode cX1_letterBetween 31 = .ok (.istore 4, 2) := by decide +kernel
theorem dX1_letterBetween_33 : decode cX1_letterBetween 33 = .ok (.iload 4, 2) := by decide +kernel
theorem dX1_letterBetween_35 : decode cX1_letterBetween 35 = .ok (.iload_n 3, 1) := by decide +kernel
theorem dX1_letterBetween_36 : decode cX1_letterBetween 36 = .ok (.if_icmp .gt 75, 3) := by decide +kernel
theorem dX1_letterBetween_39 : decode cX1_letterBetween 39 = .ok (.iload 4, 2) := by decide +kernel
theorem dX1_letterBetween_41 : decode cX1_letterBetween 41 = .ok (.iload_n 3, 1) := by decide +kernel
theorem dX1_letterBetween_42 : decode cX1_letterBetween 42 = .ok (.if_icmp .eq 29, 3) := by decide +kernel
theorem dX1_letterBetween_45 : decode cX1_letterBetween 45 = .ok (.aload_n 0, 1) := by decide +kernel
theorem dX1_letterBetween_46 : decode cX1_letterBetween 46 = .ok (.getfield 44, 3) := by decide +kernel
theorem dX1_letterBetween_49 : decode cX1_letterBetween 49 = .ok (.getfield 64, 3) := by decide +kernel
theorem dX1_letterBetween_52 : decode cX1_letterBetween 52 = .ok (.ifCond .eq 19, 3) := by decide +kernel
theorem dX1_letterBetween_55 : decode cX1_letterBetween 55 = .ok (.iload 4, 2) := by decide +kernel
theorem dX1_letterBetween_57 : decode cX1_letterBetween 57 = .ok (.ifCond .ne 18, 3) := by decide +kernel
theorem dX1_letterBetween_60 : decode cX1_letterBetween 60 = .ok (.aload_n 0, 1) := by decide +kernel
theorem dX1_letterBetween_61 : decode cX1_letterBetween 61 = .ok (.getfield 44, 3) := by decide +kernel
theorem dX1_letterBetween_64 : decode cX1_letterBetween 64 = .ok (.getfield 64, 3) := by decide +kernel
theorem dX1_letterBetween_67 : decode cX1_letterBetween 67 = .ok (.iconst 1, 1) := by decide +kernel
theorem dX1_letterBetween_68 : decode cX1_letterBetween 68 = .ok (.if_icmp .ne 7, 3) := by decide +kernel
theorem dX1_letterBetween_71 : decode cX1_letterBetween 71 = .ok (.iconst 1, 1) := by decide +kernel
theorem dX1_letterBetween_72 : decode cX1_letterBetween 72 = .ok (.goto 4, 3) := by decide +kernel
theorem dX1_letterBetween_75 : decode cX1_letterBetween 75 = .ok (.iconst 0, 1) := by decide +kernel
theorem dX1_letterBetween_76 : decode cX1_letterBetween 76 = .ok (.istore 5, 2) := by decide +kernel
theorem dX1_letterBetween_78 : decode cX1_letterBetween 78 = .ok (.iload 5, 2) := by decide +kernel
theorem dX1_letterBetween_80 : decode cX1_letterBetween 80 = .ok (.ifCond .eq 25, 3) := by decide +kernel
theorem dX1_letterBetween_83 : decode cX1_letterBetween 83 = .ok (.aload_n 0, 1) := by decide +kernel
theorem dX1_letterBetween_84 : decode cX1_letterBetween 84 = .ok (.iload_n 2, 1) := by decide +kernel
theorem dX1_letterBetween_85 : decode cX1_letterBetween 85 = .ok (.iload 4, 2) := by decide +kernel
theorem dX1_letterBetween_87 : decode cX1_letterBetween 87 = .ok (.iload_n 1, 1) := by decide +kernel
theorem dX1_letterBetween_88 : decode cX1_letterBetween 88 = .ok (.invokevirtual 68, 3) := by decide +kernel
theorem dX1_letterBetween_91 : decode cX1_letterBetween 91 = .ok (.ifCond .eq 14, 3) := by decide +kernel
theorem dX1_letterBetween_94 : decode cX1_letterBetween 94 = .ok (.aload_n 0, 1) := by decide +kernel
theorem dX1_letterBetween_95 : decode cX1_letterBetween 95 = .ok (.getfield 44, 3) := by decide +kernel
theorem dX1_letterBetween_98 : decode cX1_letterBetween 98 = .ok (.iload_n 2, 1) := by decide +kernel
theorem dX1_letterBetween_99 : decode cX1_letterBetween 99 = .ok (.iload 4, 2) := by decide +kernel
theorem dX1_letterBetween_101 : decode cX1_letterBetween 101 = .ok (.invokevirtual 58, 3) := by decide +kernel
theorem dX1_letterBetween_104 : decode cX1_letterBetween 104 = .ok (.ireturn, 1) := by decide +kernel
theorem dX1_letterBetween_105 : decode cX1_letterBetween 105 = .ok (.iinc 4 1, 3) := by decide +kernel
theorem dX1_letterBetween_108 : decode cX1_letterBetween 108 = .ok (.goto (-75), 3) := by decide +kernel
theorem dX1_letterBetween_111 : decode cX1_letterBetween 111 = .ok (.iconst (-1), 1) := by decide +kernel
theorem dX1_letterBetween_112 : decode cX1_letterBetween 112 = .ok (.ireturn, 1) := by decide +kernel
theorem dX1_isWithout_0 : decode cX1_isWithout 0 = .ok (.iconst 0, 1) := by decide +kernel
theorem dX1_isWithout_1 : decode cX1_isWithout 1 = .ok (.istore 4, 2) := by decide +kernel
theorem dX1_isWithout_3 : decode cX1_isWithout 3 = .ok (.iload 4, 2) := by decide +kernel
theorem dX1_isWithout_5 : decode cX1_isWithout 5 = .ok (.aload_n 0, 1) := by decide +kernel
theorem dX1_isWithout_6 : decode cX1_isWithout 6 = .ok (.getfield 44, 3) := by decide +kernel
theorem dX1_isWithout_9 : decode cX1_isWithout 9 = .ok (.iload_n 3, 1) := by decide +kernel
theorem dX1_isWithout_10 : decode cX1_isWithout 10 = .ok (.invokevirtual 52, 3) := by decide +kernel
theorem dX1_isWithout_13 : decode cX1_isWithout 13 = .ok (.if_icmp .ge 47, 3) := by decide +kernel
theorem dX1_isWithout_16 : decode cX1_isWithout 16 = .ok (.aload_n 0, 1) := by decide +kernel
theorem dX1_isWithout_17 : decode cX1_isWithout 17 = .ok (.getfield 44, 3) := by decide +kernel
theorem dX1_isWithout_20 : decode cX1_isWithout 20 = .ok (.iload_n 3, 1) := by decide +kernel
theorem dX1_isWithout_21 : decode cX1_isWithout 21 = .ok (.iload 4, 2) := by decide +kernel
theorem dX1_isWithout_23 : decode cX1_isWithout 23 = .ok (.invokevirtual 58, 3) := by decide +kernel
theorem dX1_isWithout_26 : decode cX1_isWithout 26 = .ok (.aload_n 0, 1) := by decide +kernel
theorem dX1_isWithout_27 : decode cX1_isWithout 27 = .ok (.getfield 44, 3) := by decide +kernel
theorem dX1_isWithout_30 : decode cX1_isWithout 30 = .ok (.iload_n 1, 1) := by decide +kernel
theorem dX1_isWithout_31 : decode cX1_isWithout 31 = .ok (.iload 4, 2) := by decide +kernel
theorem dX1_isWithout_33 : decode cX1_isWithout 33 = .ok (.iload_n 2, 1) := by decide +kernel
theorem dX1_isWithout_34 : decode cX1_isWithout 34 = .ok (.if_icmp .ge 8, 3) := by decide +kernel
theorem dX1_isWithout_37 : decode cX1_isWithout 37 = .ok (.iload 4, 2) := by decide +kernel
theorem dX1_isWithout_39 : decode cX1_isWithout 39 = .ok (.goto 7, 3) := by decide +kernel
theorem dX1_isWithout_42 : decode cX1_isWithout 42 = .ok (.iload 4, 2) := by decide +kernel
theorem dX1_isWithout_44 : decode cX1_isWithout 44 = .ok (.iconst 1, 1) := by decide +kernel
theorem dX1_isWithout_45 : decode cX1_isWithout 45 = .ok (.iadd, 1) := by decide +kernel
theorem dX1_isWithout_46 : decode cX1_isWithout 46 = .ok (.invokevirtual 58, 3) := by decide +kernel
theorem dX1_isWithout_49 : decode cX1_isWithout 49 = .ok (.if_icmp .eq 5, 3) := by decide +kernel
theorem dX1_isWithout_52 : decode cX1_isWithout 52 = .ok (.iconst 0, 1) := by decide +kernel
theorem dX1_isWithout_53 : decode cX1_isWithout 53 = .ok (.ireturn, 1) := by decide +kernel
theorem dX1_isWithout_54 : decode cX1_isWithout 54 = .ok (.iinc 4 1, 3) := by decide +kernel
theorem dX1_isWithout_57 : decode cX1_isWithout 57 = .ok (.goto (-54), 3) := by decide +kernel
theorem dX1_isWithout_60 : decode cX1_isWithout 60 = .ok (.iconst 1, 1) := by decide +kernel
theorem dX1_isWithout_61 : decode cX1_isWithout 61 = .ok (.ireturn, 1) := by decide +kernel
theorem dX1_settle_0 : decode cX1_settle 0 = .ok (.aload_n 0, 1) := by decide +kernel
theorem dX1_settle_1 : decode cX1_settle 1 = .ok (.getfield 25, 3) := by decide +kernel
theorem dX1_settle_4 : decode cX1_settle 4 = .ok (.iconst 0, 1) := by decide +kernel
theorem dX1_settle_5 : decode cX1_settle 5 = .ok (.invokestatic 72, 3) := by decide +kernel
theorem dX1_settle_8 : decode cX1_settle 8 = .ok (.aload_n 0, 1) := by decide +kernel
theorem dX1_settle_9 : decode cX1_settle 9 = .ok (.getfield 32, 3) := by decide +kernel
theorem dX1_settle_12 : decode cX1_settle 12 = .ok (.iconst 0, 1) := by decide +kernel
theorem dX1_settle_13 : decode cX1_settle 13 = .ok (.invokestatic 72, 3) := by decide +kernel
theorem dX1_settle_16 : decode cX1_settle 16 = .ok (.iconst 0, 1) := by decide +kernel
theorem dX1_settle_17 : decode cX1_settle 17 = .ok (.istore_n 1, 1) := by decide +kernel
theorem dX1_settle_18 : decode cX1_settle 18 = .ok (.iload_n 1, 1) := by decide +kernel
theorem dX1_settle_19 : decode cX1_settle 19 = .ok (.bipush 25, 2) := by decide +kernel
theorem dX1_settle_21 : decode cX1_settle 21 = .ok (.if_icmp .ge 98, 3) := by decide +kernel
theorem dX1_settle_24 : decode cX1_settle 24 = .ok (.iconst 0, 1) := by decide +kernel
theorem dX1_settle_25 : decode cX1_settle 25 = .ok (.istore_n 2, 1) := by decide +kernel
theorem dX1_settle_26 : decode cX1_settle 26 = .ok (.iload_n 2, 1) := by decide +kernel
theorem dX1_settle_27 : decode cX1_settle 27 = .ok (.bipush 24, 2) := by decide +kernel
theorem dX1_settle_29 : decode cX1_settle 29 = .ok (.if_icmp .ge 84, 3) := by decide +kernel
theorem dX1_settle_32 : decode cX1_settle 32 = .ok (.iload_n 1, 1) := by decide +kernel
theorem dX1_settle_33 : decode cX1_settle 33 = .ok (.bipush 24, 2) := by decide +kernel
theorem dX1_settle_35 : decode cX1_settle 35 = .ok (.if_icmp .eq 14, 3) := by decide +kernel
theorem dX1_settle_38 : decode cX1_settle 38 = .ok (.aload_n 0, 1) := by decide +kernel
theorem dX1_settle_39 : decode cX1_settle 39 = .ok (.getfield 44, 3) := by decide +kernel
theorem dX1_settle_42 : decode cX1_settle 42 = .ok (.iload_n 1, 1) := by decide +kernel
theorem dX1_settle_43 : decode cX1_settle 43 = .ok (.invokevirtual 78, 3) := by decide +kernel
theorem dX1_settle_46 : decode cX1_settle 46 = .ok (.ifCond .eq 18, 3) := by decide +kernel
theorem dX1_settle_49 : decode cX1_settle 49 = .ok (.aload_n 0, 1) := by decide +kernel
theorem dX1_settle_50 : decode cX1_settle 50 = .ok (.getfield 44, 3) := by decide +kernel
theorem dX1_settle_53 : decode cX1_settle 53 = .ok (.iload_n 2, 1) := by decide +kernel
theorem dX1_settle_54 : decode cX1_settle 54 = .ok (.invokevirtual 78, 3) := by decide +kernel
theorem dX1_settle_57 : decode cX1_settle 57 = .ok (.ifCond .eq 7, 3) := by decide +kernel
theorem dX1_settle_60 : decode cX1_settle 60 = .ok (.iconst 1, 1) := by decide +kernel
theorem dX1_settle_61 : decode cX1_settle 61 = .ok (.goto 4, 3) := by decide +kernel
theorem dX1_settle_64 : decode cX1_settle 64 = .ok (.iconst 0, 1) := by decide +kernel
theorem dX1_settle_65 : decode cX1_settle 65 = .ok (.istore_n 3, 1) := by decide +kernel
theorem dX1_settle_66 : decode cX1_settle 66 = .ok (.aload_n 0, 1) := by decide +kernel
theorem dX1_settle_67 : decode cX1_settle 67 = .ok (.getfield 16, 3) := by decide +kernel
theorem dX1_settle_70 : decode cX1_settle 70 = .ok (.iload_n 1, 1) := by decide +kernel
theorem dX1_settle_71 : decode cX1_settle 71 = .ok (.aaload, 1) := by decide +kernel
theorem dX1_settle_72 : decode cX1_settle 72 = .ok (.iload_n 2, 1) := by decide +kernel
theorem dX1_settle_73 : decode cX1_settle 73 = .ok (.iload_n 3, 1) := by decide +kernel
theorem dX1_settle_74 : decode cX1_settle 74 = .ok (.ifCond .eq 14, 3) := by decide +kernel
theorem dX1_settle_77 : decode cX1_settle 77 = .ok (.aload_n 0, 1) := by decide +kernel
theorem dX1_settle_78 : decode cX1_settle 78 = .ok (.getfield 11, 3) := by decide +kernel
theorem dX1_settle_81 : decode cX1_settle 81 = .ok (.iload_n 1, 1) := by decide +kernel
theorem dX1_settle_82 : decode cX1_settle 82 = .ok (.aaload, 1) := by decide +kernel
theorem dX1_settle_83 : decode cX1_settle 83 = .ok (.iload_n 2, 1) := by decide +kernel
theorem dX1_settle_84 : decode cX1_settle 84 = .ok (.iaload, 1) := by decide +kernel
theorem dX1_settle_85 : decode cX1_settle 85 = .ok (.goto 4, 3) := by decide +kernel
theorem dX1_settle_88 : decode cX1_settle 88 = .ok (.iconst (-1), 1) := by decide +kernel
theorem dX1_settle_89 : decode cX1_settle 89 = .ok (.iastore, 1) := by decide +kernel
theorem dX1_settle_90 : decode cX1_settle 90 = .ok (.aload_n 0, 1) := by decide +kernel
theorem dX1_settle_91 : decode cX1_settle 91 = .ok (.getfield 16, 3) := by decide +kernel
theorem dX1_settle_94 : decode cX1_settle 94 = .ok (.iload_n 1, 1) := by decide +kernel
theorem dX1_settle_95 : decode cX1_settle 95 = .ok (.aaload, 1) := by decide +kernel
theorem dX1_settle_96 : decode cX1_settle 96 = .ok (.iload_n 2, 1) := by decide +kernel
theorem dX1_settle_97 : decode cX1_settle 97 = .ok (.iaload, 1) := by decide +kernel
theorem dX1_settle_98 : decode cX1_settle 98 = .ok (.ifCond .lt 9, 3) := by decide +kernel
theorem dX1_settle_101 : decode cX1_settle 101 = .ok (.aload_n 0, 1) := by decide +kernel
theorem dX1_settle_102 : decode cX1_settle 102 = .ok (.iload_n 1, 1) := by decide +kernel
theorem dX1_settle_103 : decode cX1_settle 103 = .ok (.iload_n 2, 1) := by decide +kernel
theorem dX1_settle_104 : decode cX1_settle 104 = .ok (.invokevirtual 82, 3) := by decide +kernel
theorem dX1_settle_107 : decode cX1_settle 107 = .ok (.iinc 2 1, 3) := by decide +kernel
theorem dX1_settle_110 : decode cX1_settle 110 = .ok (.goto (-84), 3) := by decide +kernel
theorem dX1_settle_113 : decode cX1_settle 113 = .ok (.iinc 1 1, 3) := by decide +kernel
theorem dX1_settle_116 : decode cX1_settle 116 = .ok (.goto (-98), 3) := by decide +kernel
theorem dX1_settle_119 : decode cX1_settle 119 = .ok (.bipush 6, 2) := by decide +kernel
theorem dX1_settle_121 : decode cX1_settle 121 = .ok (.istore_n 1, 1) := by decide +kernel
theorem dX1_settle_122 : decode cX1_settle 122 = .ok (.iload_n 1, 1) := by decide +kernel
theorem dX1_settle_123 : decode cX1_settle 123 = .ok (.ifCond .lt 14, 3) := by decide +kernel
theorem dX1_settle_126 : decode cX1_settle 126 = .ok (.aload_n 0, 1) := by decide +kernel
theorem dX1_settle_127 : decode cX1_settle 127 = .ok (.iload_n 1, 1) := by decide +kernel
theorem dX1_settle_128 : decode cX1_settle 128 = .ok (.invokevirtual 86, 3) := by decide +kernel
theorem dX1_settle_131 : decode cX1_settle 131 = .ok (.iinc 1 (-1), 3) := by decide +kernel
theorem dX1_settle_134 : decode cX1_settle 134 = .ok (.goto (-12), 3) := by decide +kernel
theorem dX1_settle_137 : decode cX1_settle 137 = .ok (.iconst 1, 1) := by decide +kernel
theorem dX1_settle_138 : decode cX1_settle 138 = .ok (.istore_n 1, 1) := by decide +kernel
theorem dX1_settle_139 : decode cX1_settle 139 = .ok (.iload_n 1, 1) := by decide +kernel
theorem dX1_settle_140 : decode cX1_settle 140 = .ok (.bipush 6, 2) := by decide +kernel
theorem dX1_settle_142 : decode cX1_settle 142 = .ok (.if_icmp .gt 14, 3) := by decide +kernel
theorem dX1_settle_145 : decode cX1_settle 145 = .ok (.aload_n 0, 1) := by decide +kernel
theorem dX1_settle_146 : decode cX1_settle 146 = .ok (.iload_n 1, 1) := by decide +kernel
theorem dX1_settle_147 : decode cX1_settle 147 = .ok (.invokevirtual 90, 3) := by decide +kernel
theorem dX1_settle_150 : decode cX1_settle 150 = .ok (.iinc 1 1, 3) := by decide +kernel
theorem dX1_settle_153 : decode cX1_settle 153 = .ok (.goto (-14), 3) := by decide +kernel
theorem dX1_settle_156 : decode cX1_settle 156 = .ok (.return_, 1) := by decide +kernel
theorem dX1_link_0 : decode cX1_link 0 = .ok (.aload_n 0, 1) := by decide +kernel
theorem dX1_link_1 : decode cX1_link 1 = .ok (.getfield 25, 3) := by decide +kernel
theorem dX1_link_4 : decode cX1_link 4 = .ok (.iload_n 1, 1) := by decide +kernel
theorem dX1_link_5 : decode cX1_link 5 = .ok (.iaload, 1) := by decide +kernel
theorem dX1_link_6 : decode cX1_link 6 = .ok (.bipush 24, 2) := by decide +kernel
theorem dX1_link_8 : decode cX1_link 8 = .ok (.if_icmp .ge 83, 3) := by decide +kernel
theorem dX1_link_11 : decode cX1_link 11 = .ok (.aload_n 0, 1) := by decide +kernel
theorem dX1_link_12 : decode cX1_link 12 = .ok (.getfield 32, 3) := by decide +kernel
theorem dX1_link_15 : decode cX1_link 15 = .ok (.iload_n 2, 1) := by decide +kernel
theorem dX1_link_16 : decode cX1_link 16 = .ok (.iaload, 1) := by decide +kernel
theorem dX1_link_17 : decode cX1_link 17 = .ok (.bipush 25, 2) := by decide +kernel
theorem dX1_link_19 : decode cX1_link 19 = .ok (.if_icmp .ge 72, 3) := by decide +kernel
theorem dX1_link_22 : decode cX1_link 22 = .ok (.aload_n 0, 1) := by decide +kernel
theorem dX1_link_23 : decode cX1_link 23 = .ok (.getfield 19, 3) := by decide +kernel
theorem dX1_link_26 : decode cX1_link 26 = .ok (.iload_n 1, 1) := by decide +kernel
theorem dX1_link_27 : decode cX1_link 27 = .ok (.aaload, 1) := by decide +kernel
theorem dX1_link_28 : decode cX1_link 28 = .ok (.aload_n 0, 1) := by decide +kernel
theorem dX1_link_29 : decode cX1_link 29 = .ok (.getfield 25, 3) := by decide +kernel
theorem dX1_link_32 : decode cX1_link 32 = .ok (.iload_n 1, 1) := by decide +kernel
theorem dX1_link_33 : decode cX1_link 33 = .ok (.iaload, 1) := by decide +kernel
theorem dX1_link_34 : decode cX1_link 34 = .ok (.iload_n 2, 1) := by decide +kernel
theorem dX1_link_35 : decode cX1_link 35 = .ok (.iastore, 1) := by decide +kernel
theorem dX1_link_36 : decode cX1_link 36 = .ok (.aload_n 0, 1) := by decide +kernel
theorem dX1_link_37 : decode cX1_link 37 = .ok (.getfield 22, 3) := by decide +kernel
theorem dX1_link_40 : decode cX1_link 40 = .ok (.iload_n 1, 1) := by decide +kernel
theorem dX1_link_41 : decode cX1_link 41 = .ok (.aaload, 1) := by decide +kernel
theorem dX1_link_42 : decode cX1_link 42 = .ok (.aload_n 0, 1) := by decide +kernel
theorem dX1_link_43 : decode cX1_link 43 = .ok (.getfield 25, 3) := by decide +kernel
theorem dX1_link_46 : decode cX1_link 46 = .ok (.iload_n 1, 1) := by decide +kernel
theorem dX1_link_47 : decode cX1_link 47 = .ok (.iaload, 1) := by decide +kernel
theorem dX1_link_48 : decode cX1_link 48 = .ok (.aload_n 0, 1) := by decide +kernel
theorem dX1_link_49 : decode cX1_link 49 = .ok (.getfield 16, 3) := by decide +kernel
theorem dX1_link_52 : decode cX1_link 52 = .ok (.iload_n 1, 1) := by decide +kernel
theorem dX1_link_53 : decode cX1_link 53 = .ok (.aaload, 1) := by decide +kernel
theorem dX1_link_54 : decode cX1_link 54 = .ok (.iload_n 2, 1) := by decide +kernel
theorem dX1_link_55 : decode cX1_link 55 = .ok (.iaload, 1) := by decide +kernel
theorem dX1_link_56 : decode cX1_link 56 = .ok (.iastore, 1) := by decide +kernel
theorem dX1_link_57 : decode cX1_link 57 = .ok (.aload_n 0, 1) := by decide +kernel
theorem dX1_link_58 : decode cX1_link 58 = .ok (.getfield 25, 3) := by decide +kernel
theorem dX1_link_61 : decode cX1_link 61 = .ok (.iload_n 1, 1) := by decide +kernel
theorem dX1_link_62 : decode cX1_link 62 = .ok (.dup2, 1) := by decide +kernel
theorem dX1_link_63 : decode cX1_link 63 = .ok (.iaload, 1) := by decide +kernel
theorem dX1_link_64 : decode cX1_link 64 = .ok (.iconst 1, 1) := by decide +kernel
theorem dX1_link_65 : decode cX1_link 65 = .ok (.iadd, 1) := by decide +kernel
theorem dX1_link_66 : decode cX1_link 66 = .ok (.iastore, 1) := by decide +kernel
theorem dX1_link_67 : decode cX1_link 67 = .ok (.aload_n 0, 1) := by decide +kernel
theorem dX1_link_68 : decode cX1_link 68 = .ok (.getfield 29, 3) := by decide +kernel
theorem dX1_link_71 : decode cX1_link 71 = .ok (.iload_n 2, 1) := by decide +kernel
theorem dX1_link_72 : decode cX1_link 72 = .ok (.aaload, 1) := by decide +kernel
theorem dX1_link_73 : decode cX1_link 73 = .ok (.aload_n 0, 1) := by decide +kernel
theorem dX1_link_74 : decode cX1_link 74 = .ok (.getfield 32, 3) := by decide +kernel
theorem dX1_link_77 : decode cX1_link 77 = .ok (.iload_n 2, 1) := by decide +kernel
theorem dX1_link_78 : decode cX1_link 78 = .ok (.iaload, 1) := by decide +kernel
theorem dX1_link_79 : decode cX1_link 79 = .ok (.iload_n 1, 1) := by decide +kernel
theorem dX1_link_80 : decode cX1_link 80 = .ok (.iastore, 1) := by decide +kernel
theorem dX1_link_81 : decode cX1_link 81 = .ok (.aload_n 0, 1) := by decide +kernel
theorem dX1_link_82 : decode cX1_link 82 = .ok (.getfield 32, 3) := by decide +kernel
theorem dX1_link_85 : decode cX1_link 85 = .ok (.iload_n 2, 1) := by decide +kernel
theorem dX1_link_86 : decode cX1_link 86 = .ok (.dup2, 1) := by decide +kernel
theorem dX1_link_87 : decode cX1_link 87 = .ok (.iaload, 1) := by decide +kernel
theorem dX1_link_88 : decode cX1_link 88 = .ok (.iconst 1, 1) := by decide +kernel
theorem dX1_link_89 : decode cX1_link 89 = .ok (.iadd, 1) := by decide +kernel
theorem dX1_link_90 : decode cX1_link 90 = .ok (.iastore, 1) := by decide +kernel
theorem dX1_link_91 : decode cX1_link 91 = .ok (.return_, 1) := by decide +kernel
theorem dX1_lookUp_0 : decode cX1_lookUp 0 = .ok (.iconst 0, 1) := by decide +kernel
theorem dX1_lookUp_1 : decode cX1_lookUp 1 = .ok (.istore_n 2, 1) := by decide +kernel
theorem dX1_lookUp_2 : decode cX1_lookUp 2 = .ok (.iload_n 2, 1) := by decide +kernel
theorem dX1_lookUp_3 : decode cX1_lookUp 3 = .ok (.bipush 25, 2) := by decide +kernel
theorem dX1_lookUp_5 : decode cX1_lookUp 5 = .ok (.if_icmp .ge 107, 3) := by decide +kernel
theorem dX1_lookUp_8 : decode cX1_lookUp 8 = .ok (.aload_n 0, 1) := by decide +kernel
theorem dX1_lookUp_9 : decode cX1_lookUp 9 = .ok (.getfield 44, 3) := by decide +kernel
theorem dX1_lookUp_12 : decode cX1_lookUp 12 = .ok (.iload_n 2, 1) := by decide +kernel
theorem dX1_lookUp_13 : decode cX1_lookUp 13 = .ok (.invokevirtual 52, 3) := by decide +kernel
theorem dX1_lookUp_16 : decode cX1_lookUp 16 = .ok (.iload_n 1, 1) := by decide +kernel
theorem dX1_lookUp_17 : decode cX1_lookUp 17 = .ok (.if_icmp .eq 6, 3) := by decide +kernel
theorem dX1_lookUp_20 : decode cX1_lookUp 20 = .ok (.goto 86, 3) := by decide +kernel
theorem dX1_lookUp_23 : decode cX1_lookUp 23 = .ok (.iconst 0, 1) := by decide +kernel
theorem dX1_lookUp_24 : decode cX1_lookUp 24 = .ok (.istore_n 3, 1) := by decide +kernel
theorem dX1_lookUp_25 : decode cX1_lookUp 25 = .ok (.iconst 0, 1) := by decide +kernel
theorem dX1_lookUp_26 : decode cX1_lookUp 26 = .ok (.istore 4, 2) := by decide +kernel
theorem dX1_lookUp_28 : decode cX1_lookUp 28 = .ok (.iconst 0, 1) := by decide +kernel
theorem dX1_lookUp_29 : decode cX1_lookUp 29 = .ok (.istore 5, 2) := by decide +kernel
theorem dX1_lookUp_31 : decode cX1_lookUp 31 = .ok (.iload 5, 2) := by decide +kernel
theorem dX1_lookUp_33 : decode cX1_lookUp 33 = .ok (.aload_n 0, 1) := by decide +kernel
theorem dX1_lookUp_34 : decode cX1_lookUp 34 = .ok (.getfield 25, 3) := by decide +kernel
theorem dX1_lookUp_37 : decode cX1_lookUp 37 = .ok (.iload_n 2, 1) := by decide +kernel
theorem dX1_lookUp_38 : decode cX1_lookUp 38 = .ok (.iaload, 1) := by decide +kernel
theorem dX1_lookUp_39 : decode cX1_lookUp 39 = .ok (.if_icmp .ge 49, 3) := by decide +kernel
theorem dX1_lookUp_42 : decode cX1_lookUp 42 = .ok (.iload_n 3, 1) := by decide +kernel
theorem dX1_lookUp_43 : decode cX1_lookUp 43 = .ok (.iconst 1, 1) := by decide +kernel
theorem dX1_lookUp_44 : decode cX1_lookUp 44 = .ok (.aload_n 0, 1) := by decide +kernel
theorem dX1_lookUp_45 : decode cX1_lookUp 45 = .ok (.aload_n 0, 1) := by decide +kernel
theorem dX1_lookUp_46 : decode cX1_lookUp 46 = .ok (.getfield 19, 3) := by decide +kernel
theorem dX1_lookUp_49 : decode cX1_lookUp 49 = .ok (.iload_n 2, 1) := by decide +kernel
theorem dX1_lookUp_50 : decode cX1_lookUp 50 = .ok (.aaload, 1) := by decide +kernel
theorem dX1_lookUp_51 : decode cX1_lookUp 51 = .ok (.iload 5, 2) := by decide +kernel
theorem dX1_lookUp_53 : decode cX1_lookUp 53 = .ok (.iaload, 1) := by decide +kernel
theorem dX1_lookUp_54 : decode cX1_lookUp 54 = .ok (.invokevirtual 93, 3) := by decide +kernel
theorem dX1_lookUp_57 : decode cX1_lookUp 57 = .ok (.iadd, 1) := by decide +kernel
theorem dX1_lookUp_58 : decode cX1_lookUp 58 = .ok (.invokestatic 96, 3) := by decide +kernel
theorem dX1_lookUp_61 : decode cX1_lookUp 61 = .ok (.istore_n 3, 1) := by decide +kernel
theorem dX1_lookUp_62 : decode cX1_lookUp 62 = .ok (.iload 4, 2) := by decide +kernel
theorem dX1_lookUp_64 : decode cX1_lookUp 64 = .ok (.iconst 1, 1) := by decide +kernel
theorem dX1_lookUp_65 : decode cX1_lookUp 65 = .ok (.aload_n 0, 1) := by decide +kernel
theorem dX1_lookUp_66 : decode cX1_lookUp 66 = .ok (.aload_n 0, 1) := by decide +kernel
theorem dX1_lookUp_67 : decode cX1_lookUp 67 = .ok (.getfield 19, 3) := by decide +kernel
theorem dX1_lookUp_70 : decode cX1_lookUp 70 = .ok (.iload_n 2, 1) := by decide +kernel
theorem dX1_lookUp_71 : decode cX1_lookUp 71 = .ok (.aaload, 1) := by decide +kernel
theorem dX1_lookUp_72 : decode cX1_lookUp 72 = .ok (.iload 5, 2) := by decide +kernel
theorem dX1_lookUp_74 : decode cX1_lookUp 74 = .ok (.iaload, 1) := by decide +kernel
theorem dX1_lookUp_75 : decode cX1_lookUp 75 = .ok (.invokevirtual 101, 3) := by decide +kernel
theorem dX1_lookUp_78 : decode cX1_lookUp 78 = .ok (.ishl, 1) := by decide +kernel
theorem dX1_lookUp_79 : decode cX1_lookUp 79 = .ok (.ior, 1) := by decide +kernel
theorem dX1_lookUp_80 : decode cX1_lookUp 80 = .ok (.istore 4, 2) := by decide +kernel
theorem dX1_lookUp_82 : decode cX1_lookUp 82 = .ok (.iinc 5 1, 3) := by decide +kernel
theorem dX1_lookUp_85 : decode cX1_lookUp 85 = .ok (.goto (-54), 3) := by decide +kernel
theorem dX1_lookUp_88 : decode cX1_lookUp 88 = .ok (.aload_n 0, 1) := by decide +kernel
theorem dX1_lookUp_89 : decode cX1_lookUp 89 = .ok (.getfield 35, 3) := by decide +kernel
theorem dX1_lookUp_92 : decode cX1_lookUp 92 = .ok (.iload_n 2, 1) := by decide +kernel
theorem dX1_lookUp_93 : decode cX1_lookUp 93 = .ok (.iload_n 3, 1) := by decide +kernel
theorem dX1_lookUp_94 : decode cX1_lookUp 94 = .ok (.iastore, 1) := by decide +kernel
theorem dX1_lookUp_95 : decode cX1_lookUp 95 = .ok (.aload_n 0, 1) := by decide +kernel
theorem dX1_lookUp_96 : decode cX1_lookUp 96 = .ok (.getfield 38, 3) := by decide +kernel
theorem dX1_lookUp_99 : decode cX1_lookUp 99 = .ok (.iload_n 2, 1) := by decide +kernel
theorem dX1_lookUp_100 : decode cX1_lookUp 100 = .ok (.iload 4, 2) := by decide +kernel
theorem dX1_lookUp_102 : decode cX1_lookUp 102 = .ok (.invokestatic 104, 3) := by decide +kernel
theorem dX1_lookUp_105 : decode cX1_lookUp 105 = .ok (.iastore, 1) := by decide +kernel
theorem dX1_lookUp_106 : decode cX1_lookUp 106 = .ok (.iinc 2 1, 3) := by decide +kernel
theorem dX1_lookUp_109 : decode cX1_lookUp 109 = .ok (.goto (-107), 3) := by decide +kernel
theorem dX1_lookUp_112 : decode cX1_lookUp 112 = .ok (.return_, 1) := by decide +kernel
theorem dX1_leastWithout_0 : decode cX1_leastWithout 0 = .ok (.iconst 0, 1) := by decide +kernel
theorem dX1_leastWithout_1 : decode cX1_leastWithout 1 = .ok (.istore_n 1, 1) := by decide +kernel
theorem dX1_leastWithout_2 : decode cX1_leastWithout 2 = .ok (.iload_n 1, 1) := by decide +kernel
theorem dX1_leastWithout_3 : decode cX1_leastWithout 3 = .ok (.bipush 31, 2) := by decide +kernel
theorem dX1_leastWithout_5 : decode cX1_leastWithout 5 = .ok (.if_icmp .ge 18, 3) := by decide +kernel
theorem dX1_leastWithout_8 : decode cX1_leastWithout 8 = .ok (.iload_n 0, 1) := by decide +kernel
theorem dX1_leastWithout_9 : decode cX1_leastWithout 9 = .ok (.iload_n 1, 1) := by decide +kernel
theorem dX1_leastWithout_10 : decode cX1_leastWithout 10 = .ok (.ishr, 1) := by decide +kernel
theorem dX1_leastWithout_11 : decode cX1_leastWithout 11 = .ok (.iconst 1, 1) := by decide +kernel
theorem dX1_leastWithout_12 : decode cX1_leastWithout 12 = .ok (.iand, 1) := by decide +kernel
theorem dX1_leastWithout_13 : decode cX1_leastWithout 13 = .ok (.iconst 1, 1) := by decide +kernel
theorem dX1_leastWithout_14 : decode cX1_leastWithout 14 = .ok (.if_icmp .ne 9, 3) := by decide +kernel
theorem dX1_leastWithout_17 : decode cX1_leastWithout 17 = .ok (.iinc 1 1, 3) := by decide +kernel
theorem dX1_leastWithout_20 : decode cX1_leastWithout 20 = .ok (.goto (-18), 3) := by decide +kernel
theorem dX1_leastWithout_23 : decode cX1_leastWithout 23 = .ok (.iload_n 1, 1) := by decide +kernel
theorem dX1_leastWithout_24 : decode cX1_leastWithout 24 = .ok (.ireturn, 1) := by decide +kernel
theorem dX1_lookDown_0 : decode cX1_lookDown 0 = .ok (.iconst 0, 1) := by decide +kernel
theorem dX1_lookDown_1 : decode cX1_lookDown 1 = .ok (.istore_n 2, 1) := by decide +kernel
theorem dX1_lookDown_2 : decode cX1_lookDown 2 = .ok (.iload_n 2, 1) := by decide +kernel
theorem dX1_lookDown_3 : decode cX1_lookDown 3 = .ok (.bipush 24, 2) := by decide +kernel
theorem dX1_lookDown_5 : decode cX1_lookDown 5 = .ok (.if_icmp .ge 85, 3) := by decide +kernel
theorem dX1_lookDown_8 : decode cX1_lookDown 8 = .ok (.aload_n 0, 1) := by decide +kernel
theorem dX1_lookDown_9 : decode cX1_lookDown 9 = .ok (.getfield 44, 3) := by decide +kernel
theorem dX1_lookDown_12 : decode cX1_lookDown 12 = .ok (.iload_n 2, 1) := by decide +kernel
theorem dX1_lookDown_13 : decode cX1_lookDown 13 = .ok (.invokevirtual 52, 3) := by decide +kernel
theorem dX1_lookDown_16 : decode cX1_lookDown 16 = .ok (.iload_n 1, 1) := by decide +kernel
theorem dX1_lookDown_17 : decode cX1_lookDown 17 = .ok (.if_icmp .eq 6, 3) := by decide +kernel
theorem dX1_lookDown_20 : decode cX1_lookDown 20 = .ok (.goto 64, 3) := by decide +kernel
theorem dX1_lookDown_23 : decode cX1_lookDown 23 = .ok (.iload_n 1, 1) := by decide +kernel
theorem dX1_lookDown_24 : decode cX1_lookDown 24 = .ok (.istore_n 3, 1) := by decide +kernel
theorem dX1_lookDown_25 : decode cX1_lookDown 25 = .ok (.iconst 0, 1) := by decide +kernel
theorem dX1_lookDown_26 : decode cX1_lookDown 26 = .ok (.istore 4, 2) := by decide +kernel
theorem dX1_lookDown_28 : decode cX1_lookDown 28 = .ok (.iload 4, 2) := by decide +kernel
theorem dX1_lookDown_30 : decode cX1_lookDown 30 = .ok (.aload_n 0, 1) := by decide +kernel
theorem dX1_lookDown_31 : decode cX1_lookDown 31 = .ok (.getfield 32, 3) := by decide +kernel
theorem dX1_lookDown_34 : decode cX1_lookDown 34 = .ok (.iload_n 2, 1) := by decide +kernel
theorem dX1_lookDown_35 : decode cX1_lookDown 35 = .ok (.iaload, 1) := by decide +kernel
theorem dX1_lookDown_36 : decode cX1_lookDown 36 = .ok (.if_icmp .ge 41, 3) := by decide +kernel
theorem dX1_lookDown_39 : decode cX1_lookDown 39 = .ok (.aload_n 0, 1) := by decide +kernel
theorem dX1_lookDown_40 : decode cX1_lookDown 40 = .ok (.getfield 29, 3) := by decide +kernel
theorem dX1_lookDown_43 : decode cX1_lookDown 43 = .ok (.iload_n 2, 1) := by decide +kernel
theorem dX1_lookDown_44 : decode cX1_lookDown 44 = .ok (.aaload, 1) := by decide +kernel
theorem dX1_lookDown_45 : decode cX1_lookDown 45 = .ok (.iload 4, 2) := by decide +kernel
theorem dX1_lookDown_47 : decode cX1_lookDown 47 = .ok (.iaload, 1) := by decide +kernel
theorem dX1_lookDown_48 : decode cX1_lookDown 48 = .ok (.bipush 24, 2) := by decide +kernel
theorem dX1_lookDown_50 : decode cX1_lookDown 50 = .ok (.if_icmp .eq 21, 3) := by decide +kernel
theorem dX1_lookDown_53 : decode cX1_lookDown 53 = .ok (.iload_n 3, 1) := by decide +kernel
theorem dX1_lookDown_54 : decode cX1_lookDown 54 = .ok (.aload_n 0, 1) := by decide +kernel
theorem dX1_lookDown_55 : decode cX1_lookDown 55 = .ok (.aload_n 0, 1) := by decide +kernel
theorem dX1_lookDown_56 : decode cX1_lookDown 56 = .ok (.getfield 29, 3) := by decide +kernel
theorem dX1_lookDown_59 : decode cX1_lookDown 59 = .ok (.iload_n 2, 1) := by decide +kernel
theorem dX1_lookDown_60 : decode cX1_lookDown 60 = .ok (.aaload, 1) := by decide +kernel
theorem dX1_lookDown_61 : decode cX1_lookDown 61 = .ok (.iload 4, 2) := by decide +kernel
theorem dX1_lookDown_63 : decode cX1_lookDown 63 = .ok (.iaload, 1) := by decide +kernel
theorem dX1_lookDown_64 : decode cX1_lookDown 64 = .ok (.invokevirtual 107, 3) := by decide +kernel
theorem dX1_lookDown_67 : decode cX1_lookDown 67 = .ok (.invokestatic 110, 3) := by decide +kernel
theorem dX1_lookDown_70 : decode cX1_lookDown 70 = .ok (.istore_n 3, 1) := by decide +kernel
theorem dX1_lookDown_71 : decode cX1_lookDown 71 = .ok (.iinc 4 1, 3) := by decide +kernel
theorem dX1_lookDown_74 : decode cX1_lookDown 74 = .ok (.goto (-46), 3) := by decide +kernel
theorem dX1_lookDown_77 : decode cX1_lookDown 77 = .ok (.aload_n 0, 1) := by decide +kernel
theorem dX1_lookDown_78 : decode cX1_lookDown 78 = .ok (.getfield 41, 3) := by decide +kernel
theorem dX1_lookDown_81 : decode cX1_lookDown 81 = .ok (.iload_n 2, 1) := by decide +kernel
theorem dX1_lookDown_82 : decode cX1_lookDown 82 = .ok (.iload_n 3, 1) := by decide +kernel
theorem dX1_lookDown_83 : decode cX1_lookDown 83 = .ok (.iastore, 1) := by decide +kernel
theorem dX1_lookDown_84 : decode cX1_lookDown 84 = .ok (.iinc 2 1, 3) := by decide +kernel
theorem dX1_lookDown_87 : decode cX1_lookDown 87 = .ok (.goto (-85), 3) := by decide +kernel
theorem dX1_lookDown_90 : decode cX1_lookDown 90 = .ok (.return_, 1) := by decide +kernel
theorem dX1_isKind_0 : decode cX1_isKind 0 = .ok (.iload_n 1, 1) := by decide +kernel
theorem dX1_isKind_1 : decode cX1_isKind 1 = .ok (.ifCond .lt 13, 3) := by decide +kernel
theorem dX1_isKind_4 : decode cX1_isKind 4 = .ok (.iload_n 1, 1) := by decide +kernel
theorem dX1_isKind_5 : decode cX1_isKind 5 = .ok (.bipush 25, 2) := by decide +kernel
theorem dX1_isKind_7 : decode cX1_isKind 7 = .ok (.if_icmp .ge 7, 3) := by decide +kernel
theorem dX1_isKind_10 : decode cX1_isKind 10 = .ok (.iconst 1, 1) := by decide +kernel
theorem dX1_isKind_11 : decode cX1_isKind 11 = .ok (.goto 4, 3) := by decide +kernel
theorem dX1_isKind_14 : decode cX1_isKind 14 = .ok (.iconst 0, 1) := by decide +kernel
theorem dX1_isKind_15 : decode cX1_isKind 15 = .ok (.ireturn, 1) := by decide +kernel
theorem dX1_isSpot_0 : decode cX1_isSpot 0 = .ok (.iload_n 1, 1) := by decide +kernel
theorem dX1_isSpot_1 : decode cX1_isSpot 1 = .ok (.ifCond .lt 13, 3) := by decide +kernel
theorem dX1_isSpot_4 : decode cX1_isSpot 4 = .ok (.iload_n 1, 1) := by decide +kernel
theorem dX1_isSpot_5 : decode cX1_isSpot 5 = .ok (.bipush 24, 2) := by decide +kernel
theorem dX1_isSpot_7 : decode cX1_isSpot 7 = .ok (.if_icmp .ge 7, 3) := by decide +kernel
theorem dX1_isSpot_10 : decode cX1_isSpot 10 = .ok (.iconst 1, 1) := by decide +kernel
theorem dX1_isSpot_11 : decode cX1_isSpot 11 = .ok (.goto 4, 3) := by decide +kernel
theorem dX1_isSpot_14 : decode cX1_isSpot 14 = .ok (.iconst 0, 1) := by decide +kernel
theorem dX1_isSpot_15 : decode cX1_isSpot 15 = .ok (.ireturn, 1) := by decide +kernel
theorem dX1_chainOf_0 : decode cX1_chainOf 0 = .ok (.aload_n 0, 1) := by decide +kernel
theorem dX1_chainOf_1 : decode cX1_chainOf 1 = .ok (.iload_n 1, 1) := by decide +kernel
theorem dX1_chainOf_2 : decode cX1_chainOf 2 = .ok (.invokevirtual 113, 3) := by decide +kernel
theorem dX1_chainOf_5 : decode cX1_chainOf 5 = .ok (.ifCond .eq 12, 3) := by decide +kernel
theorem dX1_chainOf_8 : decode cX1_chainOf 8 = .ok (.aload_n 0, 1) := by decide +kernel
theorem dX1_chainOf_9 : decode cX1_chainOf 9 = .ok (.getfield 35, 3) := by decide +kernel
theorem dX1_chainOf_12 : decode cX1_chainOf 12 = .ok (.iload_n 1, 1) := by decide +kernel
theorem dX1_chainOf_13 : decode cX1_chainOf 13 = .ok (.iaload, 1) := by decide +kernel
theorem dX1_chainOf_14 : decode cX1_chainOf 14 = .ok (.goto 4, 3) := by decide +kernel
theorem dX1_chainOf_17 : decode cX1_chainOf 17 = .ok (.iconst 0, 1) := by decide +kernel
theorem dX1_chainOf_18 : decode cX1_chainOf 18 = .ok (.ireturn, 1) := by decide +kernel
theorem dX1_nimOf_0 : decode cX1_nimOf 0 = .ok (.aload_n 0, 1) := by decide +kernel
theorem dX1_nimOf_1 : decode cX1_nimOf 1 = .ok (.iload_n 1, 1) := by decide +kernel
theorem dX1_nimOf_2 : decode cX1_nimOf 2 = .ok (.invokevirtual 113, 3) := by decide +kernel
theorem dX1_nimOf_5 : decode cX1_nimOf 5 = .ok (.ifCond .eq 12, 3) := by decide +kernel
theorem dX1_nimOf_8 : decode cX1_nimOf 8 = .ok (.aload_n 0, 1) := by decide +kernel
theorem dX1_nimOf_9 : decode cX1_nimOf 9 = .ok (.getfield 38, 3) := by decide +kernel
theorem dX1_nimOf_12 : decode cX1_nimOf 12 = .ok (.iload_n 1, 1) := by decide +kernel
theorem dX1_nimOf_13 : decode cX1_nimOf 13 = .ok (.iaload, 1) := by decide +kernel
theorem dX1_nimOf_14 : decode cX1_nimOf 14 = .ok (.goto 4, 3) := by decide +kernel
theorem dX1_nimOf_17 : decode cX1_nimOf 17 = .ok (.iconst 0, 1) := by decide +kernel
theorem dX1_nimOf_18 : decode cX1_nimOf 18 = .ok (.ireturn, 1) := by decide +kernel
theorem dX1_riseOf_0 : decode cX1_riseOf 0 = .ok (.aload_n 0, 1) := by decide +kernel
theorem dX1_riseOf_1 : decode cX1_riseOf 1 = .ok (.iload_n 1, 1) := by decide +kernel
theorem dX1_riseOf_2 : decode cX1_riseOf 2 = .ok (.invokevirtual 113, 3) := by decide +kernel
theorem dX1_riseOf_5 : decode cX1_riseOf 5 = .ok (.ifCond .eq 12, 3) := by decide +kernel
theorem dX1_riseOf_8 : decode cX1_riseOf 8 = .ok (.aload_n 0, 1) := by decide +kernel
theorem dX1_riseOf_9 : decode cX1_riseOf 9 = .ok (.getfield 41, 3) := by decide +kernel
theorem dX1_riseOf_12 : decode cX1_riseOf 12 = .ok (.iload_n 1, 1) := by decide +kernel
theorem dX1_riseOf_13 : decode cX1_riseOf 13 = .ok (.iaload, 1) := by decide +kernel
theorem dX1_riseOf_14 : decode cX1_riseOf 14 = .ok (.goto 4, 3) := by decide +kernel
theorem dX1_riseOf_17 : decode cX1_riseOf 17 = .ok (.iconst 0, 1) := by decide +kernel
theorem dX1_riseOf_18 : decode cX1_riseOf 18 = .ok (.ireturn, 1) := by decide +kernel
theorem dX1_letterOf_0 : decode cX1_letterOf 0 = .ok (.aload_n 0, 1) := by decide +kernel
theorem dX1_letterOf_1 : decode cX1_letterOf 1 = .ok (.iload_n 1, 1) := by decide +kernel
theorem dX1_letterOf_2 : decode cX1_letterOf 2 = .ok (.invokevirtual 113, 3) := by decide +kernel
theorem dX1_letterOf_5 : decode cX1_letterOf 5 = .ok (.ifCond .eq 22, 3) := by decide +kernel
theorem dX1_letterOf_8 : decode cX1_letterOf 8 = .ok (.aload_n 0, 1) := by decide +kernel
theorem dX1_letterOf_9 : decode cX1_letterOf 9 = .ok (.iload_n 2, 1) := by decide +kernel
theorem dX1_letterOf_10 : decode cX1_letterOf 10 = .ok (.invokevirtual 116, 3) := by decide +kernel
theorem dX1_letterOf_13 : decode cX1_letterOf 13 = .ok (.ifCond .eq 14, 3) := by decide +kernel
theorem dX1_letterOf_16 : decode cX1_letterOf 16 = .ok (.aload_n 0, 1) := by decide +kernel
theorem dX1_letterOf_17 : decode cX1_letterOf 17 = .ok (.getfield 16, 3) := by decide +kernel
theorem dX1_letterOf_20 : decode cX1_letterOf 20 = .ok (.iload_n 1, 1) := by decide +kernel
theorem dX1_letterOf_21 : decode cX1_letterOf 21 = .ok (.aaload, 1) := by decide +kernel
theorem dX1_letterOf_22 : decode cX1_letterOf 22 = .ok (.iload_n 2, 1) := by decide +kernel
theorem dX1_letterOf_23 : decode cX1_letterOf 23 = .ok (.iaload, 1) := by decide +kernel
theorem dX1_letterOf_24 : decode cX1_letterOf 24 = .ok (.goto 4, 3) := by decide +kernel
theorem dX1_letterOf_27 : decode cX1_letterOf 27 = .ok (.iconst (-1), 1) := by decide +kernel
theorem dX1_letterOf_28 : decode cX1_letterOf 28 = .ok (.ireturn, 1) := by decide +kernel
theorem dX1_ups_0 : decode cX1_ups 0 = .ok (.aload_n 0, 1) := by decide +kernel
theorem dX1_ups_1 : decode cX1_ups 1 = .ok (.iload_n 1, 1) := by decide +kernel
theorem dX1_ups_2 : decode cX1_ups 2 = .ok (.invokevirtual 113, 3) := by decide +kernel
theorem dX1_ups_5 : decode cX1_ups 5 = .ok (.ifCond .eq 12, 3) := by decide +kernel
theorem dX1_ups_8 : decode cX1_ups 8 = .ok (.aload_n 0, 1) := by decide +kernel
theorem dX1_ups_9 : decode cX1_ups 9 = .ok (.getfield 25, 3) := by decide +kernel
theorem dX1_ups_12 : decode cX1_ups 12 = .ok (.iload_n 1, 1) := by decide +kernel
theorem dX1_ups_13 : decode cX1_ups 13 = .ok (.iaload, 1) := by decide +kernel
theorem dX1_ups_14 : decode cX1_ups 14 = .ok (.goto 4, 3) := by decide +kernel
theorem dX1_ups_17 : decode cX1_ups 17 = .ok (.iconst 0, 1) := by decide +kernel
theorem dX1_ups_18 : decode cX1_ups 18 = .ok (.ireturn, 1) := by decide +kernel
theorem dX1_upOf_0 : decode cX1_upOf 0 = .ok (.aload_n 0, 1) := by decide +kernel
theorem dX1_upOf_1 : decode cX1_upOf 1 = .ok (.iload_n 1, 1) := by decide +kernel
theorem dX1_upOf_2 : decode cX1_upOf 2 = .ok (.invokevirtual 113, 3) := by decide +kernel
theorem dX1_upOf_5 : decode cX1_upOf 5 = .ok (.ifCond .eq 22, 3) := by decide +kernel
theorem dX1_upOf_8 : decode cX1_upOf 8 = .ok (.aload_n 0, 1) := by decide +kernel
theorem dX1_upOf_9 : decode cX1_upOf 9 = .ok (.iload_n 2, 1) := by decide +kernel
theorem dX1_upOf_10 : decode cX1_upOf 10 = .ok (.invokevirtual 116, 3) := by decide +kernel
theorem dX1_upOf_13 : decode cX1_upOf 13 = .ok (.ifCond .eq 14, 3) := by decide +kernel
theorem dX1_upOf_16 : decode cX1_upOf 16 = .ok (.aload_n 0, 1) := by decide +kernel
theorem dX1_upOf_17 : decode cX1_upOf 17 = .ok (.getfield 19, 3) := by decide +kernel
theorem dX1_upOf_20 : decode cX1_upOf 20 = .ok (.iload_n 1, 1) := by decide +kernel
theorem dX1_upOf_21 : decode cX1_upOf 21 = .ok (.aaload, 1) := by decide +kernel
theorem dX1_upOf_22 : decode cX1_upOf 22 = .ok (.iload_n 2, 1) := by decide +kernel
theorem dX1_upOf_23 : decode cX1_upOf 23 = .ok (.iaload, 1) := by decide +kernel
theorem dX1_upOf_24 : decode cX1_upOf 24 = .ok (.goto 4, 3) := by decide +kernel
theorem dX1_upOf_27 : decode cX1_upOf 27 = .ok (.iconst (-1), 1) := by decide +kernel
theorem dX1_upOf_28 : decode cX1_upOf 28 = .ok (.ireturn, 1) := by decide +kernel
theorem dX1_byOf_0 : decode cX1_byOf 0 = .ok (.aload_n 0, 1) := by decide +kernel
theorem dX1_byOf_1 : decode cX1_byOf 1 = .ok (.iload_n 1, 1) := by decide +kernel
theorem dX1_byOf_2 : decode cX1_byOf 2 = .ok (.invokevirtual 113, 3) := by decide +kernel
theorem dX1_byOf_5 : decode cX1_byOf 5 = .ok (.ifCond .eq 22, 3) := by decide +kernel
theorem dX1_byOf_8 : decode cX1_byOf 8 = .ok (.aload_n 0, 1) := by decide +kernel
theorem dX1_byOf_9 : decode cX1_byOf 9 = .ok (.iload_n 2, 1) := by decide +kernel
theorem dX1_byOf_10 : decode cX1_byOf 10 = .ok (.invokevirtual 116, 3) := by decide +kernel
theorem dX1_byOf_13 : decode cX1_byOf 13 = .ok (.ifCond .eq 14, 3) := by decide +kernel
theorem dX1_byOf_16 : decode cX1_byOf 16 = .ok (.aload_n 0, 1) := by decide +kernel
theorem dX1_byOf_17 : decode cX1_byOf 17 = .ok (.getfield 22, 3) := by decide +kernel
theorem dX1_byOf_20 : decode cX1_byOf 20 = .ok (.iload_n 1, 1) := by decide +kernel
theorem dX1_byOf_21 : decode cX1_byOf 21 = .ok (.aaload, 1) := by decide +kernel
theorem dX1_byOf_22 : decode cX1_byOf 22 = .ok (.iload_n 2, 1) := by decide +kernel
theorem dX1_byOf_23 : decode cX1_byOf 23 = .ok (.iaload, 1) := by decide +kernel
theorem dX1_byOf_24 : decode cX1_byOf 24 = .ok (.goto 4, 3) := by decide +kernel
theorem dX1_byOf_27 : decode cX1_byOf 27 = .ok (.iconst (-1), 1) := by decide +kernel
theorem dX1_byOf_28 : decode cX1_byOf 28 = .ok (.ireturn, 1) := by decide +kernel
theorem dX1_downs_0 : decode cX1_downs 0 = .ok (.aload_n 0, 1) := by decide +kernel
theorem dX1_downs_1 : decode cX1_downs 1 = .ok (.iload_n 1, 1) := by decide +kernel
theorem dX1_downs_2 : decode cX1_downs 2 = .ok (.invokevirtual 116, 3) := by decide +kernel
theorem dX1_downs_5 : decode cX1_downs 5 = .ok (.ifCond .eq 12, 3) := by decide +kernel
theorem dX1_downs_8 : decode cX1_downs 8 = .ok (.aload_n 0, 1) := by decide +kernel
theorem dX1_downs_9 : decode cX1_downs 9 = .ok (.getfield 32, 3) := by decide +kernel
theorem dX1_downs_12 : decode cX1_downs 12 = .ok (.iload_n 1, 1) := by decide +kernel
theorem dX1_downs_13 : decode cX1_downs 13 = .ok (.iaload, 1) := by decide +kernel
theorem dX1_downs_14 : decode cX1_downs 14 = .ok (.goto 4, 3) := by decide +kernel
theorem dX1_downs_17 : decode cX1_downs 17 = .ok (.iconst 0, 1) := by decide +kernel
theorem dX1_downs_18 : decode cX1_downs 18 = .ok (.ireturn, 1) := by decide +kernel
theorem dX1_downOf_0 : decode cX1_downOf 0 = .ok (.aload_n 0, 1) := by decide +kernel
theorem dX1_downOf_1 : decode cX1_downOf 1 = .ok (.iload_n 1, 1) := by decide +kernel
theorem dX1_downOf_2 : decode cX1_downOf 2 = .ok (.invokevirtual 116, 3) := by decide +kernel
theorem dX1_downOf_5 : decode cX1_downOf 5 = .ok (.ifCond .eq 22, 3) := by decide +kernel
theorem dX1_downOf_8 : decode cX1_downOf 8 = .ok (.aload_n 0, 1) := by decide +kernel
theorem dX1_downOf_9 : decode cX1_downOf 9 = .ok (.iload_n 2, 1) := by decide +kernel
theorem dX1_downOf_10 : decode cX1_downOf 10 = .ok (.invokevirtual 113, 3) := by decide +kernel
theorem dX1_downOf_13 : decode cX1_downOf 13 = .ok (.ifCond .eq 14, 3) := by decide +kernel
theorem dX1_downOf_16 : decode cX1_downOf 16 = .ok (.aload_n 0, 1) := by decide +kernel
theorem dX1_downOf_17 : decode cX1_downOf 17 = .ok (.getfield 29, 3) := by decide +kernel
theorem dX1_downOf_20 : decode cX1_downOf 20 = .ok (.iload_n 1, 1) := by decide +kernel
theorem dX1_downOf_21 : decode cX1_downOf 21 = .ok (.aaload, 1) := by decide +kernel
theorem dX1_downOf_22 : decode cX1_downOf 22 = .ok (.iload_n 2, 1) := by decide +kernel
theorem dX1_downOf_23 : decode cX1_downOf 23 = .ok (.iaload, 1) := by decide +kernel
theorem dX1_downOf_24 : decode cX1_downOf 24 = .ok (.goto 4, 3) := by decide +kernel
theorem dX1_downOf_27 : decode cX1_downOf 27 = .ok (.iconst (-1), 1) := by decide +kernel
theorem dX1_downOf_28 : decode cX1_downOf 28 = .ok (.ireturn, 1) := by decide +kernel
theorem dX1_waysBy_0 : decode cX1_waysBy 0 = .ok (.iconst 0, 1) := by decide +kernel
theorem dX1_waysBy_1 : decode cX1_waysBy 1 = .ok (.istore_n 3, 1) := by decide +kernel
theorem dX1_waysBy_2 : decode cX1_waysBy 2 = .ok (.iconst 0, 1) := by decide +kernel
theorem dX1_waysBy_3 : decode cX1_waysBy 3 = .ok (.istore 4, 2) := by decide +kernel
theorem dX1_waysBy_5 : decode cX1_waysBy 5 = .ok (.iload 4, 2) := by decide +kernel
theorem dX1_waysBy_7 : decode cX1_waysBy 7 = .ok (.aload_n 0, 1) := by decide +kernel
theorem dX1_waysBy_8 : decode cX1_waysBy 8 = .ok (.iload_n 1, 1) := by decide +kernel
theorem dX1_waysBy_9 : decode cX1_waysBy 9 = .ok (.invokevirtual 119, 3) := by decide +kernel
theorem dX1_waysBy_12 : decode cX1_waysBy 12 = .ok (.if_icmp .ge 23, 3) := by decide +kernel
theorem dX1_waysBy_15 : decode cX1_waysBy 15 = .ok (.aload_n 0, 1) := by decide +kernel
theorem dX1_waysBy_16 : decode cX1_waysBy 16 = .ok (.iload_n 1, 1) := by decide +kernel
theorem dX1_waysBy_17 : decode cX1_waysBy 17 = .ok (.iload 4, 2) := by decide +kernel
theorem dX1_waysBy_19 : decode cX1_waysBy 19 = .ok (.invokevirtual 122, 3) := by decide +kernel
theorem dX1_waysBy_22 : decode cX1_waysBy 22 = .ok (.iload_n 2, 1) := by decide +kernel
theorem dX1_waysBy_23 : decode cX1_waysBy 23 = .ok (.if_icmp .ne 6, 3) := by decide +kernel
theorem dX1_waysBy_26 : decode cX1_waysBy 26 = .ok (.iinc 3 1, 3) := by decide +kernel
theorem dX1_waysBy_29 : decode cX1_waysBy 29 = .ok (.iinc 4 1, 3) := by decide +kernel
theorem dX1_waysBy_32 : decode cX1_waysBy 32 = .ok (.goto (-27), 3) := by decide +kernel
theorem dX1_waysBy_35 : decode cX1_waysBy 35 = .ok (.iload_n 3, 1) := by decide +kernel
theorem dX1_waysBy_36 : decode cX1_waysBy 36 = .ok (.ireturn, 1) := by decide +kernel
theorem dX2_init_0 : decode cX2_init 0 = .ok (.aload_n 0, 1) := by decide +kernel
theorem dX2_init_1 : decode cX2_init 1 = .ok (.invokespecial 3, 3) := by decide +kernel
theorem dX2_init_4 : decode cX2_init 4 = .ok (.aload_n 0, 1) := by decide +kernel
theorem dX2_init_5 : decode cX2_init 5 = .ok (.bipush 24, 2) := by decide +kernel
theorem dX2_init_7 : decode cX2_init 7 = .ok (.newarray .int, 2) := by decide +kernel
theorem dX2_init_9 : decode cX2_init 9 = .ok (.putfield 9, 3) := by decide +kernel
theorem dX2_init_12 : decode cX2_init 12 = .ok (.aload_n 0, 1) := by decide +kernel
theorem dX2_init_13 : decode cX2_init 13 = .ok (.bipush 24, 2) := by decide +kernel
theorem dX2_init_15 : decode cX2_init 15 = .ok (.newarray .int, 2) := by decide +kernel
theorem dX2_init_17 : decode cX2_init 17 = .ok (.putfield 15, 3) := by decide +kernel
theorem dX2_init_20 : decode cX2_init 20 = .ok (.aload_n 0, 1) := by decide +kernel
theorem dX2_init_21 : decode cX2_init 21 = .ok (.bipush 25, 2) := by decide +kernel
theorem dX2_init_23 : decode cX2_init 23 = .ok (.bipush 6, 2) := by decide +kernel
theorem dX2_init_25 : decode cX2_init 25 = .ok (.multianewarray 18 2, 4) := by decide +kernel
theorem dX2_init_29 : decode cX2_init 29 = .ok (.putfield 20, 3) := by decide +kernel
theorem dX2_init_32 : decode cX2_init 32 = .ok (.aload_n 0, 1) := by decide +kernel
theorem dX2_init_33 : decode cX2_init 33 = .ok (.bipush 24, 2) := by decide +kernel
theorem dX2_init_35 : decode cX2_init 35 = .ok (.newarray .boolean, 2) := by decide +kernel
theorem dX2_init_37 : decode cX2_init 37 = .ok (.putfield 23, 3) := by decide +kernel
theorem dX2_init_40 : decode cX2_init 40 = .ok (.aload_n 0, 1) := by decide +kernel
theorem dX2_init_41 : decode cX2_init 41 = .ok (.bipush 8, 2) := by decide +kernel
theorem dX2_init_43 : decode cX2_init 43 = .ok (.newarray .int, 2) := by decide +kernel
theorem dX2_init_45 : decode cX2_init 45 = .ok (.putfield 27, 3) := by decide +kernel
theorem dX2_init_48 : decode cX2_init 48 = .ok (.aload_n 0, 1) := by decide +kernel
theorem dX2_init_49 : decode cX2_init 49 = .ok (.bipush 6, 2) := by decide +kernel
theorem dX2_init_51 : decode cX2_init 51 = .ok (.newarray .int, 2) := by decide +kernel
theorem dX2_init_53 : decode cX2_init 53 = .ok (.putfield 30, 3) := by decide +kernel
theorem dX2_init_56 : decode cX2_init 56 = .ok (.aload_n 0, 1) := by decide +kernel
theorem dX2_init_57 : decode cX2_init 57 = .ok (.bipush 6, 2) := by decide +kernel
theorem dX2_init_59 : decode cX2_init 59 = .ok (.newarray .int, 2) := by decide +kernel
theorem dX2_init_61 : decode cX2_init 61 = .ok (.putfield 33, 3) := by decide +kernel
theorem dX2_init_64 : decode cX2_init 64 = .ok (.aload_n 0, 1) := by decide +kernel
theorem dX2_init_65 : decode cX2_init 65 = .ok (.bipush 6, 2) := by decide +kernel
theorem dX2_init_67 : decode cX2_init 67 = .ok (.newarray .int, 2) := by decide +kernel
theorem dX2_init_69 : decode cX2_init 69 = .ok (.putfield 36, 3) := by decide +kernel
theorem dX2_init_72 : decode cX2_init 72 = .ok (.aload_n 0, 1) := by decide +kernel
theorem dX2_init_73 : decode cX2_init 73 = .ok (.getfield 20, 3) := by decide +kernel
theorem dX2_init_76 : decode cX2_init 76 = .ok (.bipush 24, 2) := by decide +kernel
theorem dX2_init_78 : decode cX2_init 78 = .ok (.aaload, 1) := by decide +kernel
theorem dX2_init_79 : decode cX2_init 79 = .ok (.iconst (-1), 1) := by decide +kernel
theorem dX2_init_80 : decode cX2_init 80 = .ok (.invokestatic 39, 3) := by decide +kernel
theorem dX2_init_83 : decode cX2_init 83 = .ok (.return_, 1) := by decide +kernel
theorem dX2_clear_0 : decode cX2_clear 0 = .ok (.aload_n 0, 1) := by decide +kernel
theorem dX2_clear_1 : decode cX2_clear 1 = .ok (.iconst 0, 1) := by decide +kernel
theorem dX2_clear_2 : decode cX2_clear 2 = .ok (.putfield 45, 3) := by decide +kernel
theorem dX2_clear_5 : decode cX2_clear 5 = .ok (.aload_n 0, 1) := by decide +kernel
theorem dX2_clear_6 : decode cX2_clear 6 = .ok (.iconst 0, 1) := by decide +kernel
theorem dX2_clear_7 : decode cX2_clear 7 = .ok (.putfield 49, 3) := by decide +kernel
theorem dX2_clear_10 : decode cX2_clear 10 = .ok (.aload_n 0, 1) := by decide +kernel
theorem dX2_clear_11 : decode cX2_clear 11 = .ok (.iconst 0, 1) := by decide +kernel
theorem dX2_clear_12 : decode cX2_clear 12 = .ok (.putfield 52, 3) := by decide +kernel
theorem dX2_clear_15 : decode cX2_clear 15 = .ok (.aload_n 0, 1) := by decide +kernel
theorem dX2_clear_16 : decode cX2_clear 16 = .ok (.iconst 0, 1) := by decide +kernel
theorem dX2_clear_17 : decode cX2_clear 17 = .ok (.putfield 55, 3) := by decide +kernel
theorem dX2_clear_20 : decode cX2_clear 20 = .ok (.aload_n 0, 1) := by decide +kernel
theorem dX2_clear_21 : decode cX2_clear 21 = .ok (.iconst 0, 1) := by decide +kernel
theorem dX2_clear_22 : decode cX2_clear 22 = .ok (.putfield 58, 3) := by decide +kernel
theorem dX2_clear_25 : decode cX2_clear 25 = .ok (.aload_n 0, 1) := by decide +kernel
theorem dX2_clear_26 : decode cX2_clear 26 = .ok (.iconst 0, 1) := by decide +kernel
theorem dX2_clear_27 : decode cX2_clear 27 = .ok (.putfield 61, 3) := by decide +kernel
theorem dX2_clear_30 : decode cX2_clear 30 = .ok (.aload_n 0, 1) := by decide +kernel
theorem dX2_clear_31 : decode cX2_clear 31 = .ok (.iconst 0, 1) := by decide +kernel
theorem dX2_clear_32 : decode cX2_clear 32 = .ok (.putfield 64, 3) := by decide +kernel
theorem dX2_clear_35 : decode cX2_clear 35 = .ok (.return_, 1) := by decide +kernel
theorem dX2_copyFrom_0 : decode cX2_copyFrom 0 = .ok (.aload_n 0, 1) := by decide +kernel
theorem dX2_copyFrom_1 : decode cX2_copyFrom 1 = .ok (.aload_n 1, 1) := by decide +kernel
theorem dX2_copyFrom_2 : decode cX2_copyFrom 2 = .ok (.getfield 45, 3) := by decide +kernel
theorem dX2_copyFrom_5 : decode cX2_copyFrom 5 = .ok (.putfield 45, 3) := by decide +kernel
theorem dX2_copyFrom_8 : decode cX2_copyFrom 8 = .ok (.aload_n 0, 1) := by decide +kernel
theorem dX2_copyFrom_9 : decode cX2_copyFrom 9 = .ok (.aload_n 1, 1) := by decide +kernel
theorem dX2_copyFrom_10 : decode cX2_copyFrom 10 = .ok (.getfield 49, 3) := by decide +kernel
theorem dX2_copyFrom_13 : decode cX2_copyFrom 13 = .ok (.putfield 49, 3) := by decide +kernel
theorem dX2_copyFrom_16 : decode cX2_copyFrom 16 = .ok (.aload_n 0, 1) := by decide +kernel
theorem dX2_copyFrom_17 : decode cX2_copyFrom 17 = .ok (.aload_n 1, 1) := by decide +kernel
theorem dX2_copyFrom_18 : decode cX2_copyFrom 18 = .ok (.getfield 52, 3) := by decide +kernel
theorem dX2_copyFrom_21 : decode cX2_copyFrom 21 = .ok (.putfield 52, 3) := by decide +kernel
theorem dX2_copyFrom_24 : decode cX2_copyFrom 24 = .ok (.aload_n 0, 1) := by decide +kernel
theorem dX2_copyFrom_25 : decode cX2_copyFrom 25 = .ok (.aload_n 1, 1) := by decide +kernel
theorem dX2_copyFrom_26 : decode cX2_copyFrom 26 = .ok (.getfield 55, 3) := by decide +kernel
theorem dX2_copyFrom_29 : decode cX2_copyFrom 29 = .ok (.putfield 55, 3) := by decide +kernel
theorem dX2_copyFrom_32 : decode cX2_copyFrom 32 = .ok (.aload_n 0, 1) := by decide +kernel
theorem dX2_copyFrom_33 : decode cX2_copyFrom 33 = .ok (.aload_n 1, 1) := by decide +kernel
theorem dX2_copyFrom_34 : decode cX2_copyFrom 34 = .ok (.getfield 58, 3) := by decide +kernel
theorem dX2_copyFrom_37 : decode cX2_copyFrom 37 = .ok (.putfield 58, 3) := by decide +kernel
theorem dX2_copyFrom_40 : decode cX2_copyFrom 40 = .ok (.aload_n 0, 1) := by decide +kernel
theorem dX2_copyFrom_41 : decode cX2_copyFrom 41 = .ok (.aload_n 1, 1) := by decide +kernel
theorem dX2_copyFrom_42 : decode cX2_copyFrom 42 = .ok (.getfield 61, 3) := by decide +kernel
theorem dX2_copyFrom_45 : decode cX2_copyFrom 45 = .ok (.putfield 61, 3) := by decide +kernel
theorem dX2_copyFrom_48 : decode cX2_copyFrom 48 = .ok (.aload_n 0, 1) := by decide +kernel
theorem dX2_copyFrom_49 : decode cX2_copyFrom 49 = .ok (.aload_n 1, 1) := by decide +kernel
theorem dX2_copyFrom_50 : decode cX2_copyFrom 50 = .ok (.getfield 64, 3) := by decide +kernel
theorem dX2_copyFrom_53 : decode cX2_copyFrom 53 = .ok (.putfield 64, 3) := by decide +kernel
theorem dX2_copyFrom_56 : decode cX2_copyFrom 56 = .ok (.iconst 0, 1) := by decide +kernel
theorem dX2_copyFrom_57 : decode cX2_copyFrom 57 = .ok (.istore_n 2, 1) := by decide +kernel
theorem dX2_copyFrom_58 : decode cX2_copyFrom 58 = .ok (.iload_n 2, 1) := by decide +kernel
theorem dX2_copyFrom_59 : decode cX2_copyFrom 59 = .ok (.bipush 24, 2) := by decide +kernel
theorem dX2_copyFrom_61 : decode cX2_copyFrom 61 = .ok (.if_icmp .ge 64, 3) := by decide +kernel
theorem dX2_copyFrom_64 : decode cX2_copyFrom 64 = .ok (.aload_n 0, 1) := by decide +kernel
theorem dX2_copyFrom_65 : decode cX2_copyFrom 65 = .ok (.getfield 9, 3) := by decide +kernel
theorem dX2_copyFrom_68 : decode cX2_copyFrom 68 = .ok (.iload_n 2, 1) := by decide +kernel
theorem dX2_copyFrom_69 : decode cX2_copyFrom 69 = .ok (.aload_n 1, 1) := by decide +kernel
theorem dX2_copyFrom_70 : decode cX2_copyFrom 70 = .ok (.getfield 9, 3) := by decide +kernel
theorem dX2_copyFrom_73 : decode cX2_copyFrom 73 = .ok (.iload_n 2, 1) := by decide +kernel
theorem dX2_copyFrom_74 : decode cX2_copyFrom 74 = .ok (.iaload, 1) := by decide +kernel
theorem dX2_copyFrom_75 : decode cX2_copyFrom 75 = .ok (.iastore, 1) := by decide +kernel
theorem dX2_copyFrom_76 : decode cX2_copyFrom 76 = .ok (.aload_n 0, 1) := by decide +kernel
theorem dX2_copyFrom_77 : decode cX2_copyFrom 77 = .ok (.getfield 15, 3) := by decide +kernel
theorem dX2_copyFrom_80 : decode cX2_copyFrom 80 = .ok (.iload_n 2, 1) := by decide +kernel
theorem dX2_copyFrom_81 : decode cX2_copyFrom 81 = .ok (.aload_n 1, 1) := by decide +kernel
theorem dX2_copyFrom_82 : decode cX2_copyFrom 82 = .ok (.getfield 15, 3) := by decide +kernel
theorem dX2_copyFrom_85 : decode cX2_copyFrom 85 = .ok (.iload_n 2, 1) := by decide +kernel
theorem dX2_copyFrom_86 : decode cX2_copyFrom 86 = .ok (.iaload, 1) := by decide +kernel
theorem dX2_copyFrom_87 : decode cX2_copyFrom 87 = .ok (.iastore, 1) := by decide +kernel
theorem dX2_copyFrom_88 : decode cX2_copyFrom 88 = .ok (.aload_n 0, 1) := by decide +kernel
theorem dX2_copyFrom_89 : decode cX2_copyFrom 89 = .ok (.getfield 23, 3) := by decide +kernel
theorem dX2_copyFrom_92 : decode cX2_copyFrom 92 = .ok (.iload_n 2, 1) := by decide +kernel
theorem dX2_copyFrom_93 : decode cX2_copyFrom 93 = .ok (.aload_n 1, 1) := by decide +kernel
theorem dX2_copyFrom_94 : decode cX2_copyFrom 94 = .ok (.getfield 23, 3) := by decide +kernel
theorem dX2_copyFrom_97 : decode cX2_copyFrom 97 = .ok (.iload_n 2, 1) := by decide +kernel
theorem dX2_copyFrom_98 : decode cX2_copyFrom 98 = .ok (.baload, 1) := by decide +kernel
theorem dX2_copyFrom_99 : decode cX2_copyFrom 99 = .ok (.bastore, 1) := by decide +kernel
theorem dX2_copyFrom_100 : decode cX2_copyFrom 100 = .ok (.aload_n 1, 1) := by decide +kernel
theorem dX2_copyFrom_101 : decode cX2_copyFrom 101 = .ok (.getfield 20, 3) := by decide +kernel
theorem dX2_copyFrom_104 : decode cX2_copyFrom 104 = .ok (.iload_n 2, 1) := by decide +kernel
theorem dX2_copyFrom_105 : decode cX2_copyFrom 105 = .ok (.aaload, 1) := by decide +kernel
theorem dX2_copyFrom_106 : decode cX2_copyFrom 106 = .ok (.iconst 0, 1) := by decide +kernel
theorem dX2_copyFrom_107 : decode cX2_copyFrom 107 = .ok (.aload_n 0, 1) := by decide +kernel
theorem dX2_copyFrom_108 : decode cX2_copyFrom 108 = .ok (.getfield 20, 3) := by decide +kernel
theorem dX2_copyFrom_111 : decode cX2_copyFrom 111 = .ok (.iload_n 2, 1) := by decide +kernel
theorem dX2_copyFrom_112 : decode cX2_copyFrom 112 = .ok (.aaload, 1) := by decide +kernel
theorem dX2_copyFrom_113 : decode cX2_copyFrom 113 = .ok (.iconst 0, 1) := by decide +kernel
theorem dX2_copyFrom_114 : decode cX2_copyFrom 114 = .ok (.bipush 6, 2) := by decide +kernel
theorem dX2_copyFrom_116 : decode cX2_copyFrom 116 = .ok (.invokestatic 67, 3) := by decide +kernel
theorem dX2_copyFrom_119 : decode cX2_copyFrom 119 = .ok (.iinc 2 1, 3) := by decide +kernel
theorem dX2_copyFrom_122 : decode cX2_copyFrom 122 = .ok (.goto (-64), 3) := by decide +kernel
theorem dX2_copyFrom_125 : decode cX2_copyFrom 125 = .ok (.aload_n 1, 1) := by decide +kernel
theorem dX2_copyFrom_126 : decode cX2_copyFrom 126 = .ok (.getfield 27, 3) := by decide +kernel
theorem dX2_copyFrom_129 : decode cX2_copyFrom 129 = .ok (.iconst 0, 1) := by decide +kernel
theorem dX2_copyFrom_130 : decode cX2_copyFrom 130 = .ok (.aload_n 0, 1) := by decide +kernel
theorem dX2_copyFrom_131 : decode cX2_copyFrom 131 = .ok (.getfield 27, 3) := by decide +kernel
theorem dX2_copyFrom_134 : decode cX2_copyFrom 134 = .ok (.iconst 0, 1) := by decide +kernel
theorem dX2_copyFrom_135 : decode cX2_copyFrom 135 = .ok (.bipush 8, 2) := by decide +kernel
theorem dX2_copyFrom_137 : decode cX2_copyFrom 137 = .ok (.invokestatic 67, 3) := by decide +kernel
theorem dX2_copyFrom_140 : decode cX2_copyFrom 140 = .ok (.aload_n 1, 1) := by decide +kernel
theorem dX2_copyFrom_141 : decode cX2_copyFrom 141 = .ok (.getfield 30, 3) := by decide +kernel
theorem dX2_copyFrom_144 : decode cX2_copyFrom 144 = .ok (.iconst 0, 1) := by decide +kernel
theorem dX2_copyFrom_145 : decode cX2_copyFrom 145 = .ok (.aload_n 0, 1) := by decide +kernel
theorem dX2_copyFrom_146 : decode cX2_copyFrom 146 = .ok (.getfield 30, 3) := by decide +kernel
theorem dX2_copyFrom_149 : decode cX2_copyFrom 149 = .ok (.iconst 0, 1) := by decide +kernel
theorem dX2_copyFrom_150 : decode cX2_copyFrom 150 = .ok (.bipush 6, 2) := by decide +kernel
theorem dX2_copyFrom_152 : decode cX2_copyFrom 152 = .ok (.invokestatic 67, 3) := by decide +kernel
theorem dX2_copyFrom_155 : decode cX2_copyFrom 155 = .ok (.aload_n 1, 1) := by decide +kernel
theorem dX2_copyFrom_156 : decode cX2_copyFrom 156 = .ok (.getfield 33, 3) := by decide +kernel
theorem dX2_copyFrom_159 : decode cX2_copyFrom 159 = .ok (.iconst 0, 1) := by decide +kernel
theorem dX2_copyFrom_160 : decode cX2_copyFrom 160 = .ok (.aload_n 0, 1) := by decide +kernel
theorem dX2_copyFrom_161 : decode cX2_copyFrom 161 = .ok (.getfield 33, 3) := by decide +kernel
theorem dX2_copyFrom_164 : decode cX2_copyFrom 164 = .ok (.iconst 0, 1) := by decide +kernel
theorem dX2_copyFrom_165 : decode cX2_copyFrom 165 = .ok (.bipush 6, 2) := by decide +kernel
theorem dX2_copyFrom_167 : decode cX2_copyFrom 167 = .ok (.invokestatic 67, 3) := by decide +kernel
theorem dX2_copyFrom_170 : decode cX2_copyFrom 170 = .ok (.aload_n 1, 1) := by decide +kernel
theorem dX2_copyFrom_171 : decode cX2_copyFrom 171 = .ok (.getfield 36, 3) := by decide +kernel
theorem dX2_copyFrom_174 : decode cX2_copyFrom 174 = .ok (.iconst 0, 1) := by decide +kernel
theorem dX2_copyFrom_175 : decode cX2_copyFrom 175 = .ok (.aload_n 0, 1) := by decide +kernel
theorem dX2_copyFrom_176 : decode cX2_copyFrom 176 = .ok (.getfield 36, 3) := by decide +kernel
theorem dX2_copyFrom_179 : decode cX2_copyFrom 179 = .ok (.iconst 0, 1) := by decide +kernel
theorem dX2_copyFrom_180 : decode cX2_copyFrom 180 = .ok (.bipush 6, 2) := by decide +kernel
theorem dX2_copyFrom_182 : decode cX2_copyFrom 182 = .ok (.invokestatic 67, 3) := by decide +kernel
theorem dX2_copyFrom_185 : decode cX2_copyFrom 185 = .ok (.return_, 1) := by decide +kernel
theorem dX2_isOpen_0 : decode cX2_isOpen 0 = .ok (.aload_n 0, 1) := by decide +kernel
theorem dX2_isOpen_1 : decode cX2_isOpen 1 = .ok (.getfield 45, 3) := by decide +kernel
theorem dX2_isOpen_4 : decode cX2_isOpen 4 = .ok (.ifCond .le 7, 3) := by decide +kernel
theorem dX2_isOpen_7 : decode cX2_isOpen 7 = .ok (.iconst 1, 1) := by decide +kernel
theorem dX2_isOpen_8 : decode cX2_isOpen 8 = .ok (.goto 4, 3) := by decide +kernel
theorem dX2_isOpen_11 : decode cX2_isOpen 11 = .ok (.iconst 0, 1) := by decide +kernel
theorem dX2_isOpen_12 : decode cX2_isOpen 12 = .ok (.ireturn, 1) := by decide +kernel
theorem dX2_isWord_0 : decode cX2_isWord 0 = .ok (.iload_n 1, 1) := by decide +kernel
theorem dX2_isWord_1 : decode cX2_isWord 1 = .ok (.ifCond .lt 21, 3) := by decide +kernel
theorem dX2_isWord_4 : decode cX2_isWord 4 = .ok (.iload_n 1, 1) := by decide +kernel
theorem dX2_isWord_5 : decode cX2_isWord 5 = .ok (.aload_n 0, 1) := by decide +kernel
theorem dX2_isWord_6 : decode cX2_isWord 6 = .ok (.getfield 55, 3) := by decide +kernel
theorem dX2_isWord_9 : decode cX2_isWord 9 = .ok (.if_icmp .ge 13, 3) := by decide +kernel
theorem dX2_isWord_12 : decode cX2_isWord 12 = .ok (.iload_n 1, 1) := by decide +kernel
theorem dX2_isWord_13 : decode cX2_isWord 13 = .ok (.bipush 24, 2) := by decide +kernel
theorem dX2_isWord_15 : decode cX2_isWord 15 = .ok (.if_icmp .ge 7, 3) := by decide +kernel
theorem dX2_isWord_18 : decode cX2_isWord 18 = .ok (.iconst 1, 1) := by decide +kernel
theorem dX2_isWord_19 : decode cX2_isWord 19 = .ok (.goto 4, 3) := by decide +kernel
theorem dX2_isWord_22 : decode cX2_isWord 22 = .ok (.iconst 0, 1) := by decide +kernel
theorem dX2_isWord_23 : decode cX2_isWord 23 = .ok (.ireturn, 1) := by decide +kernel
theorem dX2_isGuest_0 : decode cX2_isGuest 0 = .ok (.iload_n 1, 1) := by decide +kernel
theorem dX2_isGuest_1 : decode cX2_isGuest 1 = .ok (.ifCond .lt 21, 3) := by decide +kernel
theorem dX2_isGuest_4 : decode cX2_isGuest 4 = .ok (.iload_n 1, 1) := by decide +kernel
theorem dX2_isGuest_5 : decode cX2_isGuest 5 = .ok (.aload_n 0, 1) := by decide +kernel
theorem dX2_isGuest_6 : decode cX2_isGuest 6 = .ok (.getfield 58, 3) := by decide +kernel
theorem dX2_isGuest_9 : decode cX2_isGuest 9 = .ok (.if_icmp .ge 13, 3) := by decide +kernel
theorem dX2_isGuest_12 : decode cX2_isGuest 12 = .ok (.iload_n 1, 1) := by decide +kernel
theorem dX2_isGuest_13 : decode cX2_isGuest 13 = .ok (.bipush 8, 2) := by decide +kernel
theorem dX2_isGuest_15 : decode cX2_isGuest 15 = .ok (.if_icmp .ge 7, 3) := by decide +kernel
theorem dX2_isGuest_18 : decode cX2_isGuest 18 = .ok (.iconst 1, 1) := by decide +kernel
theorem dX2_isGuest_19 : decode cX2_isGuest 19 = .ok (.goto 4, 3) := by decide +kernel
theorem dX2_isGuest_22 : decode cX2_isGuest 22 = .ok (.iconst 0, 1) := by decide +kernel
theorem dX2_isGuest_23 : decode cX2_isGuest 23 = .ok (.ireturn, 1) := by decide +kernel
theorem dX2_isBarred_0 : decode cX2_isBarred 0 = .ok (.aload_n 0, 1) := by decide +kernel
theorem dX2_isBarred_1 : decode cX2_isBarred 1 = .ok (.iload_n 1, 1) := by decide +kernel
theorem dX2_isBarred_2 : decode cX2_isBarred 2 = .ok (.invokevirtual 73, 3) := by decide +kernel
theorem dX2_isBarred_5 : decode cX2_isBarred 5 = .ok (.ifCond .eq 16, 3) := by decide +kernel
theorem dX2_isBarred_8 : decode cX2_isBarred 8 = .ok (.aload_n 0, 1) := by decide +kernel
theorem dX2_isBarred_9 : decode cX2_isBarred 9 = .ok (.getfield 23, 3) := by decide +kernel
theorem dX2_isBarred_12 : decode cX2_isBarred 12 = .ok (.iload_n 1, 1) := by decide +kernel
theorem dX2_isBarred_13 : decode cX2_isBarred 13 = .ok (.baload, 1) := by decide +kernel
theorem dX2_isBarred_14 : decode cX2_isBarred 14 = .ok (.ifCond .eq 7, 3) := by decide +kernel
theorem dX2_isBarred_17 : decode cX2_isBarred 17 = .ok (.iconst 1, 1) := by decide +kernel
theorem dX2_isBarred_18 : decode cX2_isBarred 18 = .ok (.goto 4, 3) := by decide +kernel
theorem dX2_isBarred_21 : decode cX2_isBarred 21 = .ok (.iconst 0, 1) := by decide +kernel
theorem dX2_isBarred_22 : decode cX2_isBarred 22 = .ok (.ireturn, 1) := by decide +kernel
theorem dX2_isGood_0 : decode cX2_isGood 0 = .ok (.aload_n 0, 1) := by decide +kernel
theorem dX2_isGood_1 : decode cX2_isGood 1 = .ok (.iload_n 1, 1) := by decide +kernel
theorem dX2_isGood_2 : decode cX2_isGood 2 = .ok (.invokevirtual 73, 3) := by decide +kernel
theorem dX2_isGood_5 : decode cX2_isGood 5 = .ok (.ifCond .eq 29, 3) := by decide +kernel
theorem dX2_isGood_8 : decode cX2_isGood 8 = .ok (.aload_n 0, 1) := by decide +kernel
theorem dX2_isGood_9 : decode cX2_isGood 9 = .ok (.getfield 23, 3) := by decide +kernel
theorem dX2_isGood_12 : decode cX2_isGood 12 = .ok (.iload_n 1, 1) := by decide +kernel
theorem dX2_isGood_13 : decode cX2_isGood 13 = .ok (.baload, 1) := by decide +kernel
theorem dX2_isGood_14 : decode cX2_isGood 14 = .ok (.ifCond .ne 20, 3) := by decide +kernel
theorem dX2_isGood_17 : decode cX2_isGood 17 = .ok (.aload_n 0, 1) := by decide +kernel
theorem dX2_isGood_18 : decode cX2_isGood 18 = .ok (.getfield 9, 3) := by decide +kernel
theorem dX2_isGood_21 : decode cX2_isGood 21 = .ok (.iload_n 1, 1) := by decide +kernel
theorem dX2_isGood_22 : decode cX2_isGood 22 = .ok (.iaload, 1) := by decide +kernel
theorem dX2_isGood_23 : decode cX2_isGood 23 = .ok (.aload_n 0, 1) := by decide +kernel
theorem dX2_isGood_24 : decode cX2_isGood 24 = .ok (.getfield 49, 3) := by decide +kernel
theorem dX2_isGood_27 : decode cX2_isGood 27 = .ok (.if_icmp .gt 7, 3) := by decide +kernel
theorem dX2_isGood_30 : decode cX2_isGood 30 = .ok (.iconst 1, 1) := by decide +kernel
theorem dX2_isGood_31 : decode cX2_isGood 31 = .ok (.goto 4, 3) := by decide +kernel
theorem dX2_isGood_34 : decode cX2_isGood 34 = .ok (.iconst 0, 1) := by decide +kernel
theorem dX2_isGood_35 : decode cX2_isGood 35 = .ok (.ireturn, 1) := by decide +kernel
theorem dX2_lengthOf_0 : decode cX2_lengthOf 0 = .ok (.aload_n 0, 1) := by decide +kernel
theorem dX2_lengthOf_1 : decode cX2_lengthOf 1 = .ok (.iload_n 1, 1) := by decide +kernel
theorem dX2_lengthOf_2 : decode cX2_lengthOf 2 = .ok (.invokevirtual 73, 3) := by decide +kernel
theorem dX2_lengthOf_5 : decode cX2_lengthOf 5 = .ok (.ifCond .eq 12, 3) := by decide +kernel
theorem dX2_lengthOf_8 : decode cX2_lengthOf 8 = .ok (.aload_n 0, 1) := by decide +kernel
theorem dX2_lengthOf_9 : decode cX2_lengthOf 9 = .ok (.getfield 9, 3) := by decide +kernel
theorem dX2_lengthOf_12 : decode cX2_lengthOf 12 = .ok (.iload_n 1, 1) := by decide +kernel
theorem dX2_lengthOf_13 : decode cX2_lengthOf 13 = .ok (.iaload, 1) := by decide +kernel
theorem dX2_lengthOf_14 : decode cX2_lengthOf 14 = .ok (.goto 4, 3) := by decide +kernel
theorem dX2_lengthOf_17 : decode cX2_lengthOf 17 = .ok (.iconst 0, 1) := by decide +kernel
theorem dX2_lengthOf_18 : decode cX2_lengthOf 18 = .ok (.ireturn, 1) := by decide +kernel
theorem dX2_valueOf_0 : decode cX2_valueOf 0 = .ok (.aload_n 0, 1) := by decide +kernel
theorem dX2_valueOf_1 : decode cX2_valueOf 1 = .ok (.iload_n 1, 1) := by decide +kernel
theorem dX2_valueOf_2 : decode cX2_valueOf 2 = .ok (.invokevirtual 73, 3) := by decide +kernel
theorem dX2_valueOf_5 : decode cX2_valueOf 5 = .ok (.ifCond .eq 12, 3) := by decide +kernel
theorem dX2_valueOf_8 : decode cX2_valueOf 8 = .ok (.aload_n 0, 1) := by decide +kernel
theorem dX2_valueOf_9 : decode cX2_valueOf 9 = .ok (.getfield 15, 3) := by decide +kernel
theorem dX2_valueOf_12 : decode cX2_valueOf 12 = .ok (.iload_n 1, 1) := by decide +kernel
theorem dX2_valueOf_13 : decode cX2_valueOf 13 = .ok (.iaload, 1) := by decide +kernel
theorem dX2_valueOf_14 : decode cX2_valueOf 14 = .ok (.goto 4, 3) := by decide +kernel
theorem dX2_valueOf_17 : decode cX2_valueOf 17 = .ok (.iconst 0, 1) := by decide +kernel
theorem dX2_valueOf_18 : decode cX2_valueOf 18 = .ok (.ireturn, 1) := by decide +kernel
theorem dX2_glyphOf_0 : decode cX2_glyphOf 0 = .ok (.aload_n 0, 1) := by decide +kernel
theorem dX2_glyphOf_1 : decode cX2_glyphOf 1 = .ok (.iload_n 1, 1) := by decide +kernel
theorem dX2_glyphOf_2 : decode cX2_glyphOf 2 = .ok (.invokevirtual 73, 3) := by decide +kernel
theorem dX2_glyphOf_5 : decode cX2_glyphOf 5 = .ok (.ifCond .eq 24, 3) := by decide +kernel
theorem dX2_glyphOf_8 : decode cX2_glyphOf 8 = .ok (.iload_n 2, 1) := by decide +kernel
theorem dX2_glyphOf_9 : decode cX2_glyphOf 9 = .ok (.ifCond .lt 20, 3) := by decide +kernel
theorem dX2_glyphOf_12 : decode cX2_glyphOf 12 = .ok (.iload_n 2, 1) := by decide +kernel
theorem dX2_glyphOf_13 : decode cX2_glyphOf 13 = .ok (.bipush 6, 2) := by decide +kernel
theorem dX2_glyphOf_15 : decode cX2_glyphOf 15 = .ok (.if_icmp .ge 14, 3) := by decide +kernel
theorem dX2_glyphOf_18 : decode cX2_glyphOf 18 = .ok (.aload_n 0, 1) := by decide +kernel
theorem dX2_glyphOf_19 : decode cX2_glyphOf 19 = .ok (.getfield 20, 3) := by decide +kernel
theorem dX2_glyphOf_22 : decode cX2_glyphOf 22 = .ok (.iload_n 1, 1) := by decide +kernel
theorem dX2_glyphOf_23 : decode cX2_glyphOf 23 = .ok (.aaload, 1) := by decide +kernel
theorem dX2_glyphOf_24 : decode cX2_glyphOf 24 = .ok (.iload_n 2, 1) := by decide +kernel
theorem dX2_glyphOf_25 : decode cX2_glyphOf 25 = .ok (.iaload, 1) := by decide +kernel
theorem dX2_glyphOf_26 : decode cX2_glyphOf 26 = .ok (.goto 4, 3) := by decide +kernel
theorem dX2_glyphOf_29 : decode cX2_glyphOf 29 = .ok (.iconst (-1), 1) := by decide +kernel
theorem dX2_glyphOf_30 : decode cX2_glyphOf 30 = .ok (.ireturn, 1) := by decide +kernel
theorem dX2_glyphsOf_0 : decode cX2_glyphsOf 0 = .ok (.aload_n 0, 1) := by decide +kernel
theorem dX2_glyphsOf_1 : decode cX2_glyphsOf 1 = .ok (.getfield 20, 3) := by decide +kernel
theorem dX2_glyphsOf_4 : decode cX2_glyphsOf 4 = .ok (.aload_n 0, 1) := by decide +kernel
theorem dX2_glyphsOf_5 : decode cX2_glyphsOf 5 = .ok (.iload_n 1, 1) := by decide +kernel
theorem dX2_glyphsOf_6 : decode cX2_glyphsOf 6 = .ok (.invokevirtual 73, 3) := by decide +kernel
theorem dX2_glyphsOf_9 : decode cX2_glyphsOf 9 = .ok (.ifCond .eq 7, 3) := by decide +kernel
theorem dX2_glyphsOf_12 : decode cX2_glyphsOf 12 = .ok (.iload_n 1, 1) := by decide +kernel
theorem dX2_glyphsOf_13 : decode cX2_glyphsOf 13 = .ok (.goto 5, 3) := by decide +kernel
theorem dX2_glyphsOf_16 : decode cX2_glyphsOf 16 = .ok (.bipush 24, 2) := by decide +kernel
theorem dX2_glyphsOf_18 : decode cX2_glyphsOf 18 = .ok (.aaload, 1) := by decide +kernel
theorem dX2_glyphsOf_19 : decode cX2_glyphsOf 19 = .ok (.areturn, 1) := by decide +kernel
theorem dX2_firstOf_0 : decode cX2_firstOf 0 = .ok (.aload_n 0, 1) := by decide +kernel
theorem dX2_firstOf_1 : decode cX2_firstOf 1 = .ok (.iload_n 1, 1) := by decide +kernel
theorem dX2_firstOf_2 : decode cX2_firstOf 2 = .ok (.invokevirtual 77, 3) := by decide +kernel
theorem dX2_firstOf_5 : decode cX2_firstOf 5 = .ok (.ifCond .eq 12, 3) := by decide +kernel
theorem dX2_firstOf_8 : decode cX2_firstOf 8 = .ok (.aload_n 0, 1) := by decide +kernel
theorem dX2_firstOf_9 : decode cX2_firstOf 9 = .ok (.getfield 27, 3) := by decide +kernel
theorem dX2_firstOf_12 : decode cX2_firstOf 12 = .ok (.iload_n 1, 1) := by decide +kernel
theorem dX2_firstOf_13 : decode cX2_firstOf 13 = .ok (.iaload, 1) := by decide +kernel
theorem dX2_firstOf_14 : decode cX2_firstOf 14 = .ok (.goto 4, 3) := by decide +kernel
theorem dX2_firstOf_17 : decode cX2_firstOf 17 = .ok (.iconst (-1), 1) := by decide +kernel
theorem dX2_firstOf_18 : decode cX2_firstOf 18 = .ok (.ireturn, 1) := by decide +kernel
theorem dX2_likelyOf_0 : decode cX2_likelyOf 0 = .ok (.iload_n 1, 1) := by decide +kernel
theorem dX2_likelyOf_1 : decode cX2_likelyOf 1 = .ok (.ifCond .lt 26, 3) := by decide +kernel
theorem dX2_likelyOf_4 : decode cX2_likelyOf 4 = .ok (.iload_n 1, 1) := by decide +kernel
theorem dX2_likelyOf_5 : decode cX2_likelyOf 5 = .ok (.aload_n 0, 1) := by decide +kernel
theorem dX2_likelyOf_6 : decode cX2_likelyOf 6 = .ok (.getfield 61, 3) := by decide +kernel
theorem dX2_likelyOf_9 : decode cX2_likelyOf 9 = .ok (.if_icmp .ge 18, 3) := by decide +kernel
theorem dX2_likelyOf_12 : decode cX2_likelyOf 12 = .ok (.iload_n 1, 1) := by decide +kernel
theorem dX2_likelyOf_13 : decode cX2_likelyOf 13 = .ok (.bipush 6, 2) := by decide +kernel
theorem dX2_likelyOf_15 : decode cX2_likelyOf 15 = .ok (.if_icmp .ge 12, 3) := by decide +kernel
theorem dX2_likelyOf_18 : decode cX2_likelyOf 18 = .ok (.aload_n 0, 1) := by decide +kernel
theorem dX2_likelyOf_19 : decode cX2_likelyOf 19 = .ok (.getfield 30, 3) := by decide +kernel
theorem dX2_likelyOf_22 : decode cX2_likelyOf 22 = .ok (.iload_n 1, 1) := by decide +kernel
theorem dX2_likelyOf_23 : decode cX2_likelyOf 23 = .ok (.iaload, 1) := by decide +kernel
theorem dX2_likelyOf_24 : decode cX2_likelyOf 24 = .ok (.goto 4, 3) := by decide +kernel
theorem dX2_likelyOf_27 : decode cX2_likelyOf 27 = .ok (.iconst (-1), 1) := by decide +kernel
theorem dX2_likelyOf_28 : decode cX2_likelyOf 28 = .ok (.ireturn, 1) := by decide +kernel
theorem dX2_weightOf_0 : decode cX2_weightOf 0 = .ok (.iload_n 1, 1) := by decide +kernel
theorem dX2_weightOf_1 : decode cX2_weightOf 1 = .ok (.ifCond .lt 26, 3) := by decide +kernel
theorem dX2_weightOf_4 : decode cX2_weightOf 4 = .ok (.iload_n 1, 1) := by decide +kernel
theorem dX2_weightOf_5 : decode cX2_weightOf 5 = .ok (.aload_n 0, 1) := by decide +kernel
theorem dX2_weightOf_6 : decode cX2_weightOf 6 = .ok (.getfield 61, 3) := by decide +kernel
theorem dX2_weightOf_9 : decode cX2_weightOf 9 = .ok (.if_icmp .ge 18, 3) := by decide +kernel
theorem dX2_weightOf_12 : decode cX2_weightOf 12 = .ok (.iload_n 1, 1) := by decide +kernel
theorem dX2_weightOf_13 : decode cX2_weightOf 13 = .ok (.bipush 6, 2) := by decide +kernel
theorem dX2_weightOf_15 : decode cX2_weightOf 15 = .ok (.if_icmp .ge 12, 3) := by decide +kernel
theorem dX2_weightOf_18 : decode cX2_weightOf 18 = .ok (.aload_n 0, 1) := by decide +kernel
theorem dX2_weightOf_19 : decode cX2_weightOf 19 = .ok (.getfield 33, 3) := by decide +kernel
theorem dX2_weightOf_22 : decode cX2_weightOf 22 = .ok (.iload_n 1, 1) := by decide +kernel
theorem dX2_weightOf_23 : decode cX2_weightOf 23 = .ok (.iaload, 1) := by decide +kernel
theorem dX2_weightOf_24 : decode cX2_weightOf 24 = .ok (.goto 4, 3) := by decide +kernel
theorem dX2_weightOf_27 : decode cX2_weightOf 27 = .ok (.iconst 0, 1) := by decide +kernel
theorem dX2_weightOf_28 : decode cX2_weightOf 28 = .ok (.ireturn, 1) := by decide +kernel
theorem dX2_seenOf_0 : decode cX2_seenOf 0 = .ok (.iload_n 1, 1) := by decide +kernel
theorem dX2_seenOf_1 : decode cX2_seenOf 1 = .ok (.ifCond .lt 26, 3) := by decide +kernel
theorem dX2_seenOf_4 : decode cX2_seenOf 4 = .ok (.iload_n 1, 1) := by decide +kernel
theorem dX2_seenOf_5 : decode cX2_seenOf 5 = .ok (.aload_n 0, 1) := by decide +kernel
theorem dX2_seenOf_6 : decode cX2_seenOf 6 = .ok (.getfield 64, 3) := by decide +kernel
theorem dX2_seenOf_9 : decode cX2_seenOf 9 = .ok (.if_icmp .ge 18, 3) := by decide +kernel
theorem dX2_seenOf_12 : decode cX2_seenOf 12 = .ok (.iload_n 1, 1) := by decide +kernel
theorem dX2_seenOf_13 : decode cX2_seenOf 13 = .ok (.bipush 6, 2) := by decide +kernel
theorem dX2_seenOf_15 : decode cX2_seenOf 15 = .ok (.if_icmp .ge 12, 3) := by decide +kernel
theorem dX2_seenOf_18 : decode cX2_seenOf 18 = .ok (.aload_n 0, 1) := by decide +kernel
theorem dX2_seenOf_19 : decode cX2_seenOf 19 = .ok (.getfield 36, 3) := by decide +kernel
theorem dX2_seenOf_22 : decode cX2_seenOf 22 = .ok (.iload_n 1, 1) := by decide +kernel
theorem dX2_seenOf_23 : decode cX2_seenOf 23 = .ok (.iaload, 1) := by decide +kernel
theorem dX2_seenOf_24 : decode cX2_seenOf 24 = .ok (.goto 4, 3) := by decide +kernel
theorem dX2_seenOf_27 : decode cX2_seenOf 27 = .ok (.iconst (-1), 1) := by decide +kernel
theorem dX2_seenOf_28 : decode cX2_seenOf 28 = .ok (.ireturn, 1) := by decide +kernel
theorem dX2_setBarred_0 : decode cX2_setBarred 0 = .ok (.aload_n 0, 1) := by decide +kernel
theorem dX2_setBarred_1 : decode cX2_setBarred 1 = .ok (.iload_n 1, 1) := by decide +kernel
theorem dX2_setBarred_2 : decode cX2_setBarred 2 = .ok (.invokevirtual 73, 3) := by decide +kernel
theorem dX2_setBarred_5 : decode cX2_setBarred 5 = .ok (.ifCond .eq 10, 3) := by decide +kernel
theorem dX2_setBarred_8 : decode cX2_setBarred 8 = .ok (.aload_n 0, 1) := by decide +kernel
theorem dX2_setBarred_9 : decode cX2_setBarred 9 = .ok (.getfield 23, 3) := by decide +kernel
theorem dX2_setBarred_12 : decode cX2_setBarred 12 = .ok (.iload_n 1, 1) := by decide +kernel
theorem dX2_setBarred_13 : decode cX2_setBarred 13 = .ok (.iload_n 2, 1) := by decide +kernel
theorem dX2_setBarred_14 : decode cX2_setBarred 14 = .ok (.bastore, 1) := by decide +kernel
theorem dX2_setBarred_15 : decode cX2_setBarred 15 = .ok (.return_, 1) := by decide +kernel
theorem dX2_setValue_0 : decode cX2_setValue 0 = .ok (.aload_n 0, 1) := by decide +kernel
theorem dX2_setValue_1 : decode cX2_setValue 1 = .ok (.iload_n 1, 1) := by decide +kernel
theorem dX2_setValue_2 : decode cX2_setValue 2 = .ok (.invokevirtual 73, 3) := by decide +kernel
theorem dX2_setValue_5 : decode cX2_setValue 5 = .ok (.ifCond .eq 10, 3) := by decide +kernel
theorem dX2_setValue_8 : decode cX2_setValue 8 = .ok (.aload_n 0, 1) := by decide +kernel
theorem dX2_setValue_9 : decode cX2_setValue 9 = .ok (.getfield 15, 3) := by decide +kernel
theorem dX2_setValue_12 : decode cX2_setValue 12 = .ok (.iload_n 1, 1) := by decide +kernel
theorem dX2_setValue_13 : decode cX2_setValue 13 = .ok (.iload_n 2, 1) := by decide +kernel
theorem dX2_setValue_14 : decode cX2_setValue 14 = .ok (.iastore, 1) := by decide +kernel
theorem dX2_setValue_15 : decode cX2_setValue 15 = .ok (.return_, 1) := by decide +kernel
theorem dX2_setFirst_0 : decode cX2_setFirst 0 = .ok (.aload_n 0, 1) := by decide +kernel
theorem dX2_setFirst_1 : decode cX2_setFirst 1 = .ok (.iload_n 1, 1) := by decide +kernel
theorem dX2_setFirst_2 : decode cX2_setFirst 2 = .ok (.invokevirtual 77, 3) := by decide +kernel
theorem dX2_setFirst_5 : decode cX2_setFirst 5 = .ok (.ifCond .eq 10, 3) := by decide +kernel
theorem dX2_setFirst_8 : decode cX2_setFirst 8 = .ok (.aload_n 0, 1) := by decide +kernel
theorem dX2_setFirst_9 : decode cX2_setFirst 9 = .ok (.getfield 27, 3) := by decide +kernel
theorem dX2_setFirst_12 : decode cX2_setFirst 12 = .ok (.iload_n 1, 1) := by decide +kernel
theorem dX2_setFirst_13 : decode cX2_setFirst 13 = .ok (.iload_n 2, 1) := by decide +kernel
theorem dX2_setFirst_14 : decode cX2_setFirst 14 = .ok (.iastore, 1) := by decide +kernel
theorem dX2_setFirst_15 : decode cX2_setFirst 15 = .ok (.return_, 1) := by decide +kernel
theorem dX2_addWord_0 : decode cX2_addWord 0 = .ok (.aload_n 0, 1) := by decide +kernel
theorem dX2_addWord_1 : decode cX2_addWord 1 = .ok (.getfield 55, 3) := by decide +kernel
theorem dX2_addWord_4 : decode cX2_addWord 4 = .ok (.bipush 24, 2) := by decide +kernel
theorem dX2_addWord_6 : decode cX2_addWord 6 = .ok (.if_icmp .ge 102, 3) := by decide +kernel
theorem dX2_addWord_9 : decode cX2_addWord 9 = .ok (.iload_n 2, 1) := by decide +kernel
theorem dX2_addWord_10 : decode cX2_addWord 10 = .ok (.ifCond .lt 98, 3) := by decide +kernel
theorem dX2_addWord_13 : decode cX2_addWord 13 = .ok (.iload_n 3, 1) := by decide +kernel
theorem dX2_addWord_14 : decode cX2_addWord 14 = .ok (.aload_n 1, 1) := by decide +kernel
theorem dX2_addWord_15 : decode cX2_addWord 15 = .ok (.arraylength, 1) := by decide +kernel
theorem dX2_addWord_16 : decode cX2_addWord 16 = .ok (.if_icmp .gt 92, 3) := by decide +kernel
theorem dX2_addWord_19 : decode cX2_addWord 19 = .ok (.iload_n 3, 1) := by decide +kernel
theorem dX2_addWord_20 : decode cX2_addWord 20 = .ok (.iload_n 2, 1) := by decide +kernel
theorem dX2_addWord_21 : decode cX2_addWord 21 = .ok (.isub, 1) := by decide +kernel
theorem dX2_addWord_22 : decode cX2_addWord 22 = .ok (.bipush 6, 2) := by decide +kernel
theorem dX2_addWord_24 : decode cX2_addWord 24 = .ok (.if_icmp .gt 84, 3) := by decide +kernel
theorem dX2_addWord_27 : decode cX2_addWord 27 = .ok (.aload_n 0, 1) := by decide +kernel
theorem dX2_addWord_28 : decode cX2_addWord 28 = .ok (.getfield 20, 3) := by decide +kernel
theorem dX2_addWord_31 : decode cX2_addWord 31 = .ok (.aload_n 0, 1) := by decide +kernel
theorem dX2_addWord_32 : decode cX2_addWord 32 = .ok (.getfield 55, 3) := by decide +kernel
theorem dX2_addWord_35 : decode cX2_addWord 35 = .ok (.aaload, 1) := by decide +kernel
theorem dX2_addWord_36 : decode cX2_addWord 36 = .ok (.iconst (-1), 1) := by decide +kernel
theorem dX2_addWord_37 : decode cX2_addWord 37 = .ok (.invokestatic 39, 3) := by decide +kernel
theorem dX2_addWord_40 : decode cX2_addWord 40 = .ok (.iload_n 2, 1) := by decide +kernel
theorem dX2_addWord_41 : decode cX2_addWord 41 = .ok (.istore 4, 2) := by decide +kernel
theorem dX2_addWord_43 : decode cX2_addWord 43 = .ok (.iload 4, 2) := by decide +kernel
theorem dX2_addWord_45 : decode cX2_addWord 45 = .ok (.iload_n 3, 1) := by decide +kernel
theorem dX2_addWord_46 : decode cX2_addWord 46 = .ok (.if_icmp .ge 30, 3) := by decide +kernel
theorem dX2_addWord_49 : decode cX2_addWord 49 = .ok (.aload_n 0, 1) := by decide +kernel
theorem dX2_addWord_50 : decode cX2_addWord 50 = .ok (.getfield 20, 3) := by decide +kernel
theorem dX2_addWord_53 : decode cX2_addWord 53 = .ok (.aload_n 0, 1) := by decide +kernel
theorem dX2_addWord_54 : decode cX2_addWord 54 = .ok (.getfield 55, 3) := by decide +kernel
theorem dX2_addWord_57 : decode cX2_addWord 57 = .ok (.aaload, 1) := by decide +kernel
theorem dX2_addWord_58 : decode cX2_addWord 58 = .ok (.iload 4, 2) := by decide +kernel
theorem dX2_addWord_60 : decode cX2_addWord 60 = .ok (.iload_n 2, 1) := by decide +kernel
theorem dX2_addWord_61 : decode cX2_addWord 61 = .ok (.isub, 1) := by decide +kernel
theorem dX2_addWord_62 : decode cX2_addWord 62 = .ok (.aload_n 1, 1) := by decide +kernel
theorem dX2_addWord_63 : decode cX2_addWord 63 = .ok (.iload 4, 2) := by decide +kernel
theorem dX2_addWord_65 : decode cX2_addWord 65 = .ok (.iaload, 1) := by decide +kernel
theorem dX2_addWord_66 : decode cX2_addWord 66 = .ok (.bipush 97, 2) := by decide +kernel
theorem dX2_addWord_68 : decode cX2_addWord 68 = .ok (.isub, 1) := by decide +kernel
theorem dX2_addWord_69 : decode cX2_addWord 69 = .ok (.iastore, 1) := by decide +kernel
theorem dX2_addWord_70 : decode cX2_addWord 70 = .ok (.iinc 4 1, 3) := by decide +kernel
theorem dX2_addWord_73 : decode cX2_addWord 73 = .ok (.goto (-30), 3) := by decide +kernel
theorem dX2_addWord_76 : decode cX2_addWord 76 = .ok (.aload_n 0, 1) := by decide +kernel
theorem dX2_addWord_77 : decode cX2_addWord 77 = .ok (.getfield 9, 3) := by decide +kernel
theorem dX2_addWord_80 : decode cX2_addWord 80 = .ok (.aload_n 0, 1) := by decide +kernel
theorem dX2_addWord_81 : decode cX2_addWord 81 = .ok (.getfield 55, 3) := by decide +kernel
theorem dX2_addWord_84 : decode cX2_addWord 84 = .ok (.iload_n 3, 1) := by decide +kernel
theorem dX2_addWord_85 : decode cX2_addWord 85 = .ok (.iload_n 2, 1) := by decide +kernel
theorem dX2_addWord_86 : decode cX2_addWord 86 = .ok (.isub, 1) := by decide +kernel
theorem dX2_addWord_87 : decode cX2_addWord 87 = .ok (.iastore, 1) := by decide +kernel
theorem dX2_addWord_88 : decode cX2_addWord 88 = .ok (.aload_n 0, 1) := by decide +kernel
theorem dX2_addWord_89 : decode cX2_addWord 89 = .ok (.getfield 23, 3) := by decide +kernel
theorem dX2_addWord_92 : decode cX2_addWord 92 = .ok (.aload_n 0, 1) := by decide +kernel
theorem dX2_addWord_93 : decode cX2_addWord 93 = .ok (.getfield 55, 3) := by decide +kernel
theorem dX2_addWord_96 : decode cX2_addWord 96 = .ok (.iconst 0, 1) := by decide +kernel
theorem dX2_addWord_97 : decode cX2_addWord 97 = .ok (.bastore, 1) := by decide +kernel
theorem dX2_addWord_98 : decode cX2_addWord 98 = .ok (.aload_n 0, 1) := by decide +kernel
theorem dX2_addWord_99 : decode cX2_addWord 99 = .ok (.dup, 1) := by decide +kernel
theorem dX2_addWord_100 : decode cX2_addWord 100 = .ok (.getfield 55, 3) := by decide +kernel
theorem dX2_addWord_103 : decode cX2_addWord 103 = .ok (.iconst 1, 1) := by decide +kernel
theorem dX2_addWord_104 : decode cX2_addWord 104 = .ok (.iadd, 1) := by decide +kernel
theorem dX2_addWord_105 : decode cX2_addWord 105 = .ok (.putfield 55, 3) := by decide +kernel
theorem dX2_addWord_108 : decode cX2_addWord 108 = .ok (.return_, 1) := by decide +kernel
theorem dX2_addGuest_0 : decode cX2_addGuest 0 = .ok (.aload_n 0, 1) := by decide +kernel
theorem dX2_addGuest_1 : decode cX2_addGuest 1 = .ok (.getfield 58, 3) := by decide +kernel
theorem dX2_addGuest_4 : decode cX2_addGuest 4 = .ok (.bipush 8, 2) := by decide +kernel
theorem dX2_addGuest_6 : decode cX2_addGuest 6 = .ok (.if_icmp .ge 23, 3) := by decide +kernel
theorem dX2_addGuest_9 : decode cX2_addGuest 9 = .ok (.aload_n 0, 1) := by decide +kernel
theorem dX2_addGuest_10 : decode cX2_addGuest 10 = .ok (.getfield 27, 3) := by decide +kernel
theorem dX2_addGuest_13 : decode cX2_addGuest 13 = .ok (.aload_n 0, 1) := by decide +kernel
theorem dX2_addGuest_14 : decode cX2_addGuest 14 = .ok (.getfield 58, 3) := by decide +kernel
theorem dX2_addGuest_17 : decode cX2_addGuest 17 = .ok (.iload_n 1, 1) := by decide +kernel
theorem dX2_addGuest_18 : decode cX2_addGuest 18 = .ok (.iastore, 1) := by decide +kernel
theorem dX2_addGuest_19 : decode cX2_addGuest 19 = .ok (.aload_n 0, 1) := by decide +kernel
theorem dX2_addGuest_20 : decode cX2_addGuest 20 = .ok (.dup, 1) := by decide +kernel
theorem dX2_addGuest_21 : decode cX2_addGuest 21 = .ok (.getfield 58, 3) := by decide +kernel
theorem dX2_addGuest_24 : decode cX2_addGuest 24 = .ok (.iconst 1, 1) := by decide +kernel
theorem dX2_addGuest_25 : decode cX2_addGuest 25 = .ok (.iadd, 1) := by decide +kernel
theorem dX2_addGuest_26 : decode cX2_addGuest 26 = .ok (.putfield 58, 3) := by decide +kernel
theorem dX2_addGuest_29 : decode cX2_addGuest 29 = .ok (.return_, 1) := by decide +kernel
theorem dX2_addLikely_0 : decode cX2_addLikely 0 = .ok (.aload_n 0, 1) := by decide +kernel
theorem dX2_addLikely_1 : decode cX2_addLikely 1 = .ok (.getfield 61, 3) := by decide +kernel
theorem dX2_addLikely_4 : decode cX2_addLikely 4 = .ok (.bipush 6, 2) := by decide +kernel
theorem dX2_addLikely_6 : decode cX2_addLikely 6 = .ok (.if_icmp .ge 33, 3) := by decide +kernel
theorem dX2_addLikely_9 : decode cX2_addLikely 9 = .ok (.aload_n 0, 1) := by decide +kernel
theorem dX2_addLikely_10 : decode cX2_addLikely 10 = .ok (.getfield 30, 3) := by decide +kernel
theorem dX2_addLikely_13 : decode cX2_addLikely 13 = .ok (.aload_n 0, 1) := by decide +kernel
theorem dX2_addLikely_14 : decode cX2_addLikely 14 = .ok (.getfield 61, 3) := by decide +kernel
theorem dX2_addLikely_17 : decode cX2_addLikely 17 = .ok (.iload_n 1, 1) := by decide +kernel
theorem dX2_addLikely_18 : decode cX2_addLikely 18 = .ok (.iastore, 1) := by decide +kernel
theorem dX2_addLikely_19 : decode cX2_addLikely 19 = .ok (.aload_n 0, 1) := by decide +kernel
theorem dX2_addLikely_20 : decode cX2_addLikely 20 = .ok (.getfield 33, 3) := by decide +kernel
theorem dX2_addLikely_23 : decode cX2_addLikely 23 = .ok (.aload_n 0, 1) := by decide +kernel
theorem dX2_addLikely_24 : decode cX2_addLikely 24 = .ok (.getfield 61, 3) := by decide +kernel
theorem dX2_addLikely_27 : decode cX2_addLikely 27 = .ok (.iload_n 2, 1) := by decide +kernel
theorem dX2_addLikely_28 : decode cX2_addLikely 28 = .ok (.iastore, 1) := by decide +kernel
theorem dX2_addLikely_29 : decode cX2_addLikely 29 = .ok (.aload_n 0, 1) := by decide +kernel
theorem dX2_addLikely_30 : decode cX2_addLikely 30 = .ok (.dup, 1) := by decide +kernel
theorem dX2_addLikely_31 : decode cX2_addLikely 31 = .ok (.getfield 61, 3) := by decide +kernel
theorem dX2_addLikely_34 : decode cX2_addLikely 34 = .ok (.iconst 1, 1) := by decide +kernel
theorem dX2_addLikely_35 : decode cX2_addLikely 35 = .ok (.iadd, 1) := by decide +kernel
theorem dX2_addLikely_36 : decode cX2_addLikely 36 = .ok (.putfield 61, 3) := by decide +kernel
theorem dX2_addLikely_39 : decode cX2_addLikely 39 = .ok (.return_, 1) := by decide +kernel
theorem dX2_addSeen_0 : decode cX2_addSeen 0 = .ok (.aload_n 0, 1) := by decide +kernel
theorem dX2_addSeen_1 : decode cX2_addSeen 1 = .ok (.getfield 64, 3) := by decide +kernel
theorem dX2_addSeen_4 : decode cX2_addSeen 4 = .ok (.bipush 6, 2) := by decide +kernel
theorem dX2_addSeen_6 : decode cX2_addSeen 6 = .ok (.if_icmp .ge 23, 3) := by decide +kernel
theorem dX2_addSeen_9 : decode cX2_addSeen 9 = .ok (.aload_n 0, 1) := by decide +kernel
theorem dX2_addSeen_10 : decode cX2_addSeen 10 = .ok (.getfield 36, 3) := by decide +kernel
theorem dX2_addSeen_13 : decode cX2_addSeen 13 = .ok (.aload_n 0, 1) := by decide +kernel
theorem dX2_addSeen_14 : decode cX2_addSeen 14 = .ok (.getfield 64, 3) := by decide +kernel
theorem dX2_addSeen_17 : decode cX2_addSeen 17 = .ok (.iload_n 1, 1) := by decide +kernel
theorem dX2_addSeen_18 : decode cX2_addSeen 18 = .ok (.iastore, 1) := by decide +kernel
theorem dX2_addSeen_19 : decode cX2_addSeen 19 = .ok (.aload_n 0, 1) := by decide +kernel
theorem dX2_addSeen_20 : decode cX2_addSeen 20 = .ok (.dup, 1) := by decide +kernel
theorem dX2_addSeen_21 : decode cX2_addSeen 21 = .ok (.getfield 64, 3) := by decide +kernel
theorem dX2_addSeen_24 : decode cX2_addSeen 24 = .ok (.iconst 1, 1) := by decide +kernel
theorem dX2_addSeen_25 : decode cX2_addSeen 25 = .ok (.iadd, 1) := by decide +kernel
theorem dX2_addSeen_26 : decode cX2_addSeen 26 = .ok (.putfield 64, 3) := by decide +kernel
theorem dX2_addSeen_29 : decode cX2_addSeen 29 = .ok (.return_, 1) := by decide +kernel
theorem dX3_init_0 : decode cX3_init 0 = .ok (.aload_n 0, 1) := by decide +kernel
theorem dX3_init_1 : decode cX3_init 1 = .ok (.invokespecial 3, 3) := by decide +kernel
theorem dX3_init_4 : decode cX3_init 4 = .ok (.aload_n 0, 1) := by decide +kernel
theorem dX3_init_5 : decode cX3_init 5 = .ok (.bipush 24, 2) := by decide +kernel
theorem dX3_init_7 : decode cX3_init 7 = .ok (.newarray .int, 2) := by decide +kernel
theorem dX3_init_9 : decode cX3_init 9 = .ok (.putfield 9, 3) := by decide +kernel
theorem dX3_init_12 : decode cX3_init 12 = .ok (.aload_n 0, 1) := by decide +kernel
theorem dX3_init_13 : decode cX3_init 13 = .ok (.bipush 24, 2) := by decide +kernel
theorem dX3_init_15 : decode cX3_init 15 = .ok (.newarray .int, 2) := by decide +kernel
theorem dX3_init_17 : decode cX3_init 17 = .ok (.putfield 15, 3) := by decide +kernel
theorem dX3_init_20 : decode cX3_init 20 = .ok (.aload_n 0, 1) := by decide +kernel
theorem dX3_init_21 : decode cX3_init 21 = .ok (.aload_n 1, 1) := by decide +kernel
theorem dX3_init_22 : decode cX3_init 22 = .ok (.putfield 18, 3) := by decide +kernel
theorem dX3_init_25 : decode cX3_init 25 = .ok (.aload_n 0, 1) := by decide +kernel
theorem dX3_init_26 : decode cX3_init 26 = .ok (.aload_n 2, 1) := by decide +kernel
theorem dX3_init_27 : decode cX3_init 27 = .ok (.putfield 22, 3) := by decide +kernel
theorem dX3_init_30 : decode cX3_init 30 = .ok (.return_, 1) := by decide +kernel
theorem dX3_measure_0 : decode cX3_measure 0 = .ok (.aload_n 0, 1) := by decide +kernel
theorem dX3_measure_1 : decode cX3_measure 1 = .ok (.getfield 9, 3) := by decide +kernel
theorem dX3_measure_4 : decode cX3_measure 4 = .ok (.iconst (-1), 1) := by decide +kernel
theorem dX3_measure_5 : decode cX3_measure 5 = .ok (.invokestatic 26, 3) := by decide +kernel
theorem dX3_measure_8 : decode cX3_measure 8 = .ok (.aload_n 0, 1) := by decide +kernel
theorem dX3_measure_9 : decode cX3_measure 9 = .ok (.getfield 18, 3) := by decide +kernel
theorem dX3_measure_12 : decode cX3_measure 12 = .ok (.iload_n 1, 1) := by decide +kernel
theorem dX3_measure_13 : decode cX3_measure 13 = .ok (.invokevirtual 32, 3) := by decide +kernel
theorem dX3_measure_16 : decode cX3_measure 16 = .ok (.ifCond .ne 4, 3) := by decide +kernel
theorem dX3_measure_19 : decode cX3_measure 19 = .ok (.return_, 1) := by decide +kernel
theorem dX3_measure_20 : decode cX3_measure 20 = .ok (.aload_n 0, 1) := by decide +kernel
theorem dX3_measure_21 : decode cX3_measure 21 = .ok (.getfield 9, 3) := by decide +kernel
theorem dX3_measure_24 : decode cX3_measure 24 = .ok (.iload_n 1, 1) := by decide +kernel
theorem dX3_measure_25 : decode cX3_measure 25 = .ok (.iconst 0, 1) := by decide +kernel
theorem dX3_measure_26 : decode cX3_measure 26 = .ok (.iastore, 1) := by decide +kernel
theorem dX3_measure_27 : decode cX3_measure 27 = .ok (.aload_n 0, 1) := by decide +kernel
theorem dX3_measure_28 : decode cX3_measure 28 = .ok (.getfield 15, 3) := by decide +kernel
theorem dX3_measure_31 : decode cX3_measure 31 = .ok (.iconst 0, 1) := by decide +kernel
theorem dX3_measure_32 : decode cX3_measure 32 = .ok (.iload_n 1, 1) := by decide +kernel
theorem dX3_measure_33 : decode cX3_measure 33 = .ok (.iastore, 1) := by decide +kernel
theorem dX3_measure_34 : decode cX3_measure 34 = .ok (.iconst 1, 1) := by decide +kernel
theorem dX3_measure_35 : decode cX3_measure 35 = .ok (.istore_n 2, 1) := by decide +kernel
theorem dX3_measure_36 : decode cX3_measure 36 = .ok (.iconst 0, 1) := by decide +kernel
theorem dX3_measure_37 : decode cX3_measure 37 = .ok (.istore_n 3, 1) := by decide +kernel
theorem dX3_measure_38 : decode cX3_measure 38 = .ok (.iload_n 3, 1) := by decide +kernel
theorem dX3_measure_39 : decode cX3_measure 39 = .ok (.iload_n 2, 1) := by decide +kernel
theorem dX3_measure_40 : decode cX3_measure 40 = .ok (.if_icmp .ge 96, 3) := by decide +kernel
theorem dX3_measure_43 : decode cX3_measure 43 = .ok (.iload_n 3, 1) := by decide +kernel
theorem dX3_measure_44 : decode cX3_measure 44 = .ok (.bipush 24, 2) := by decide +kernel
theorem dX3_measure_46 : decode cX3_measure 46 = .ok (.if_icmp .ge 90, 3) := by decide +kernel
theorem dX3_measure_49 : decode cX3_measure 49 = .ok (.aload_n 0, 1) := by decide +kernel
theorem dX3_measure_50 : decode cX3_measure 50 = .ok (.getfield 15, 3) := by decide +kernel
theorem dX3_measure_53 : decode cX3_measure 53 = .ok (.iload_n 3, 1) := by decide +kernel
theorem dX3_measure_54 : decode cX3_measure 54 = .ok (.iaload, 1) := by decide +kernel
theorem dX3_measure_55 : decode cX3_measure 55 = .ok (.istore 4, 2) := by decide +kernel
theorem dX3_measure_57 : decode cX3_measure 57 = .ok (.iconst 0, 1) := by decide +kernel
theorem dX3_measure_58 : decode cX3_measure 58 = .ok (.istore 5, 2) := by decide +kernel
theorem dX3_measure_60 : decode cX3_measure 60 = .ok (.iload 5, 2) := by decide +kernel
theorem dX3_measure_62 : decode cX3_measure 62 = .ok (.aload_n 0, 1) := by decide +kernel
theorem dX3_measure_63 : decode cX3_measure 63 = .ok (.getfield 18, 3) := by decide +kernel
theorem dX3_measure_66 : decode cX3_measure 66 = .ok (.getfield 38, 3) := by decide +kernel
theorem dX3_measure_69 : decode cX3_measure 69 = .ok (.if_icmp .ge 61, 3) := by decide +kernel
theorem dX3_measure_72 : decode cX3_measure 72 = .ok (.aload_n 0, 1) := by decide +kernel
theorem dX3_measure_73 : decode cX3_measure 73 = .ok (.iload 5, 2) := by decide +kernel
theorem dX3_measure_75 : decode cX3_measure 75 = .ok (.invokevirtual 42, 3) := by decide +kernel
theorem dX3_measure_78 : decode cX3_measure 78 = .ok (.ifCond .ge 46, 3) := by decide +kernel
theorem dX3_measure_81 : decode cX3_measure 81 = .ok (.aload_n 0, 1) := by decide +kernel
theorem dX3_measure_82 : decode cX3_measure 82 = .ok (.iload 4, 2) := by decide +kernel
theorem dX3_measure_84 : decode cX3_measure 84 = .ok (.iload 5, 2) := by decide +kernel
theorem dX3_measure_86 : decode cX3_measure 86 = .ok (.invokevirtual 46, 3) := by decide +kernel
theorem dX3_measure_89 : decode cX3_measure 89 = .ok (.ifCond .eq 35, 3) := by decide +kernel
theorem dX3_measure_92 : decode cX3_measure 92 = .ok (.iload_n 2, 1) := by decide +kernel
theorem dX3_measure_93 : decode cX3_measure 93 = .ok (.bipush 24, 2) := by decide +kernel
theorem dX3_measure_95 : decode cX3_measure 95 = .ok (.if_icmp .ge 29, 3) := by decide +kernel
theorem dX3_measure_98 : decode cX3_measure 98 = .ok (.aload_n 0, 1) := by decide +kernel
theorem dX3_measure_99 : decode cX3_measure 99 = .ok (.getfield 9, 3) := by decide +kernel
theorem dX3_measure_102 : decode cX3_measure 102 = .ok (.iload 5, 2) := by decide +kernel
theorem dX3_measure_104 : decode cX3_measure 104 = .ok (.aload_n 0, 1) := by decide +kernel
theorem dX3_measure_105 : decode cX3_measure 105 = .ok (.iload 4, 2) := by decide +kernel
theorem dX3_measure_107 : decode cX3_measure 107 = .ok (.invokevirtual 42, 3) := by decide +kernel
theorem dX3_measure_110 : decode cX3_measure 110 = .ok (.iconst 1, 1) := by decide +kernel
theorem dX3_measure_111 : decode cX3_measure 111 = .ok (.iadd, 1) := by decide +kernel
theorem dX3_measure_112 : decode cX3_measure 112 = .ok (.iastore, 1) := by decide +kernel
theorem dX3_measure_113 : decode cX3_measure 113 = .ok (.aload_n 0, 1) := by decide +kernel
theorem dX3_measure_114 : decode cX3_measure 114 = .ok (.getfield 15, 3) := by decide +kernel
theorem dX3_measure_117 : decode cX3_measure 117 = .ok (.iload_n 2, 1) := by decide +kernel
theorem dX3_measure_118 : decode cX3_measure 118 = .ok (.iload 5, 2) := by decide +kernel
theorem dX3_measure_120 : decode cX3_measure 120 = .ok (.iastore, 1) := by decide +kernel
theorem dX3_measure_121 : decode cX3_measure 121 = .ok (.iinc 2 1, 3) := by decide +kernel
theorem dX3_measure_124 : decode cX3_measure 124 = .ok (.iinc 5 1, 3) := by decide +kernel
theorem dX3_measure_127 : decode cX3_measure 127 = .ok (.goto (-67), 3) := by decide +kernel
theorem dX3_measure_130 : decode cX3_measure 130 = .ok (.iinc 3 1, 3) := by decide +kernel
theorem dX3_measure_133 : decode cX3_measure 133 = .ok (.goto (-95), 3) := by decide +kernel
theorem dX3_measure_136 : decode cX3_measure 136 = .ok (.return_, 1) := by decide +kernel
theorem dX3_isRung_0 : decode cX3_isRung 0 = .ok (.aload_n 0, 1) := by decide +kernel
theorem dX3_isRung_1 : decode cX3_isRung 1 = .ok (.getfield 18, 3) := by decide +kernel
theorem dX3_isRung_4 : decode cX3_isRung 4 = .ok (.iload_n 2, 1) := by decide +kernel
theorem dX3_isRung_5 : decode cX3_isRung 5 = .ok (.invokevirtual 50, 3) := by decide +kernel
theorem dX3_isRung_8 : decode cX3_isRung 8 = .ok (.ifCond .eq 31, 3) := by decide +kernel
theorem dX3_isRung_11 : decode cX3_isRung 11 = .ok (.aload_n 0, 1) := by decide +kernel
theorem dX3_isRung_12 : decode cX3_isRung 12 = .ok (.getfield 22, 3) := by decide +kernel
theorem dX3_isRung_15 : decode cX3_isRung 15 = .ok (.iload_n 1, 1) := by decide +kernel
theorem dX3_isRung_16 : decode cX3_isRung 16 = .ok (.iload_n 2, 1) := by decide +kernel
theorem dX3_isRung_17 : decode cX3_isRung 17 = .ok (.invokevirtual 53, 3) := by decide +kernel
theorem dX3_isRung_20 : decode cX3_isRung 20 = .ok (.ifCond .ge 15, 3) := by decide +kernel
theorem dX3_isRung_23 : decode cX3_isRung 23 = .ok (.aload_n 0, 1) := by decide +kernel
theorem dX3_isRung_24 : decode cX3_isRung 24 = .ok (.getfield 22, 3) := by decide +kernel
theorem dX3_isRung_27 : decode cX3_isRung 27 = .ok (.iload_n 2, 1) := by decide +kernel
theorem dX3_isRung_28 : decode cX3_isRung 28 = .ok (.iload_n 1, 1) := by decide +kernel
theorem dX3_isRung_29 : decode cX3_isRung 29 = .ok (.invokevirtual 53, 3) := by decide +kernel
theorem dX3_isRung_32 : decode cX3_isRung 32 = .ok (.ifCond .lt 7, 3) := by decide +kernel
theorem dX3_isRung_35 : decode cX3_isRung 35 = .ok (.iconst 1, 1) := by decide +kernel
theorem dX3_isRung_36 : decode cX3_isRung 36 = .ok (.goto 4, 3) := by decide +kernel
theorem dX3_isRung_39 : decode cX3_isRung 39 = .ok (.iconst 0, 1) := by decide +kernel
theorem dX3_isRung_40 : decode cX3_isRung 40 = .ok (.ireturn, 1) := by decide +kernel
theorem dX3_farOf_0 : decode cX3_farOf 0 = .ok (.iload_n 1, 1) := by decide +kernel
theorem dX3_farOf_1 : decode cX3_farOf 1 = .ok (.ifCond .lt 18, 3) := by decide +kernel
theorem dX3_farOf_4 : decode cX3_farOf 4 = .ok (.iload_n 1, 1) := by decide +kernel
theorem dX3_farOf_5 : decode cX3_farOf 5 = .ok (.bipush 24, 2) := by decide +kernel
theorem dX3_farOf_7 : decode cX3_farOf 7 = .ok (.if_icmp .ge 12, 3) := by decide +kernel
theorem dX3_farOf_10 : decode cX3_farOf 10 = .ok (.aload_n 0, 1) := by decide +kernel
theorem dX3_farOf_11 : decode cX3_farOf 11 = .ok (.getfield 9, 3) := by decide +kernel
theorem dX3_farOf_14 : decode cX3_farOf 14 = .ok (.iload_n 1, 1) := by decide +kernel
theorem dX3_farOf_15 : decode cX3_farOf 15 = .ok (.iaload, 1) := by decide +kernel
theorem dX3_farOf_16 : decode cX3_farOf 16 = .ok (.goto 4, 3) := by decide +kernel
theorem dX3_farOf_19 : decode cX3_farOf 19 = .ok (.iconst (-1), 1) := by decide +kernel
theorem dX3_farOf_20 : decode cX3_farOf 20 = .ok (.ireturn, 1) := by decide +kernel
theorem dX3_after_0 : decode cX3_after 0 = .ok (.iload_n 1, 1) := by decide +kernel
theorem dX3_after_1 : decode cX3_after 1 = .ok (.istore_n 3, 1) := by decide +kernel
theorem dX3_after_2 : decode cX3_after 2 = .ok (.iconst 0, 1) := by decide +kernel
theorem dX3_after_3 : decode cX3_after 3 = .ok (.istore 4, 2) := by decide +kernel
theorem dX3_after_5 : decode cX3_after 5 = .ok (.iload 4, 2) := by decide +kernel
theorem dX3_after_7 : decode cX3_after 7 = .ok (.iload_n 2, 1) := by decide +kernel
theorem dX3_after_8 : decode cX3_after 8 = .ok (.if_icmp .ge 22, 3) := by decide +kernel
theorem dX3_after_11 : decode cX3_after 11 = .ok (.iload 4, 2) := by decide +kernel
theorem dX3_after_13 : decode cX3_after 13 = .ok (.bipush 24, 2) := by decide +kernel
theorem dX3_after_15 : decode cX3_after 15 = .ok (.if_icmp .ge 15, 3) := by decide +kernel
theorem dX3_after_18 : decode cX3_after 18 = .ok (.aload_n 0, 1) := by decide +kernel
theorem dX3_after_19 : decode cX3_after 19 = .ok (.iload_n 3, 1) := by decide +kernel
theorem dX3_after_20 : decode cX3_after 20 = .ok (.invokevirtual 59, 3) := by decide +kernel
theorem dX3_after_23 : decode cX3_after 23 = .ok (.istore_n 3, 1) := by decide +kernel
theorem dX3_after_24 : decode cX3_after 24 = .ok (.iinc 4 1, 3) := by decide +kernel
theorem dX3_after_27 : decode cX3_after 27 = .ok (.goto (-22), 3) := by decide +kernel
theorem dX3_after_30 : decode cX3_after 30 = .ok (.iload_n 3, 1) := by decide +kernel
theorem dX3_after_31 : decode cX3_after 31 = .ok (.ireturn, 1) := by decide +kernel
theorem dX3_nearer_0 : decode cX3_nearer 0 = .ok (.iconst 0, 1) := by decide +kernel
theorem dX3_nearer_1 : decode cX3_nearer 1 = .ok (.istore_n 2, 1) := by decide +kernel
theorem dX3_nearer_2 : decode cX3_nearer 2 = .ok (.iload_n 2, 1) := by decide +kernel
theorem dX3_nearer_3 : decode cX3_nearer 3 = .ok (.aload_n 0, 1) := by decide +kernel
theorem dX3_nearer_4 : decode cX3_nearer 4 = .ok (.getfield 18, 3) := by decide +kernel
theorem dX3_nearer_7 : decode cX3_nearer 7 = .ok (.getfield 38, 3) := by decide +kernel
theorem dX3_nearer_10 : decode cX3_nearer 10 = .ok (.if_icmp .ge 35, 3) := by decide +kernel
theorem dX3_nearer_13 : decode cX3_nearer 13 = .ok (.aload_n 0, 1) := by decide +kernel
theorem dX3_nearer_14 : decode cX3_nearer 14 = .ok (.iload_n 1, 1) := by decide +kernel
theorem dX3_nearer_15 : decode cX3_nearer 15 = .ok (.iload_n 2, 1) := by decide +kernel
theorem dX3_nearer_16 : decode cX3_nearer 16 = .ok (.invokevirtual 46, 3) := by decide +kernel
theorem dX3_nearer_19 : decode cX3_nearer 19 = .ok (.ifCond .eq 20, 3) := by decide +kernel
theorem dX3_nearer_22 : decode cX3_nearer 22 = .ok (.aload_n 0, 1) := by decide +kernel
theorem dX3_nearer_23 : decode cX3_nearer 23 = .ok (.iload_n 2, 1) := by decide +kernel
theorem dX3_nearer_24 : decode cX3_nearer 24 = .ok (.invokevirtual 42, 3) := by decide +kernel
theorem dX3_nearer_27 : decode cX3_nearer 27 = .ok (.aload_n 0, 1) := by decide +kernel
theorem dX3_nearer_28 : decode cX3_nearer 28 = .ok (.iload_n 1, 1) := by decide +kernel
theorem dX3_nearer_29 : decode cX3_nearer 29 = .ok (.invokevirtual 42, 3) := by decide +kernel
theorem dX3_nearer_32 : decode cX3_nearer 32 = .ok (.iconst 1, 1) := by decide +kernel
theorem dX3_nearer_33 : decode cX3_nearer 33 = .ok (.isub, 1) := by decide +kernel
theorem dX3_nearer_34 : decode cX3_nearer 34 = .ok (.if_icmp .ne 5, 3) := by decide +kernel
theorem dX3_nearer_37 : decode cX3_nearer 37 = .ok (.iload_n 2, 1) := by decide +kernel
theorem dX3_nearer_38 : decode cX3_nearer 38 = .ok (.ireturn, 1) := by decide +kernel
theorem dX3_nearer_39 : decode cX3_nearer 39 = .ok (.iinc 2 1, 3) := by decide +kernel
theorem dX3_nearer_42 : decode cX3_nearer 42 = .ok (.goto (-40), 3) := by decide +kernel
theorem dX3_nearer_45 : decode cX3_nearer 45 = .ok (.iload_n 1, 1) := by decide +kernel
theorem dX3_nearer_46 : decode cX3_nearer 46 = .ok (.ireturn, 1) := by decide +kernel
theorem dX4_init_0 : decode cX4_init 0 = .ok (.aload_n 0, 1) := by decide +kernel
theorem dX4_init_1 : decode cX4_init 1 = .ok (.invokespecial 3, 3) := by decide +kernel
theorem dX4_init_4 : decode cX4_init 4 = .ok (.aload_n 0, 1) := by decide +kernel
theorem dX4_init_5 : decode cX4_init 5 = .ok (.iconst 3, 1) := by decide +kernel
theorem dX4_init_6 : decode cX4_init 6 = .ok (.newarray .int, 2) := by decide +kernel
theorem dX4_init_8 : decode cX4_init 8 = .ok (.putfield 9, 3) := by decide +kernel
theorem dX4_init_11 : decode cX4_init 11 = .ok (.aload_n 0, 1) := by decide +kernel
theorem dX4_init_12 : decode cX4_init 12 = .ok (.getfield 9, 3) := by decide +kernel
theorem dX4_init_15 : decode cX4_init 15 = .ok (.bipush 24, 2) := by decide +kernel
theorem dX4_init_17 : decode cX4_init 17 = .ok (.invokestatic 15, 3) := by decide +kernel
theorem dX4_init_20 : decode cX4_init 20 = .ok (.return_, 1) := by decide +kernel
theorem dX4_begin_0 : decode cX4_begin 0 = .ok (.aload_n 0, 1) := by decide +kernel
theorem dX4_begin_1 : decode cX4_begin 1 = .ok (.iload_n 1, 1) := by decide +kernel
theorem dX4_begin_2 : decode cX4_begin 2 = .ok (.putfield 21, 3) := by decide +kernel
theorem dX4_begin_5 : decode cX4_begin 5 = .ok (.aload_n 0, 1) := by decide +kernel
theorem dX4_begin_6 : decode cX4_begin 6 = .ok (.iconst 0, 1) := by decide +kernel
theorem dX4_begin_7 : decode cX4_begin 7 = .ok (.putfield 25, 3) := by decide +kernel
theorem dX4_begin_10 : decode cX4_begin 10 = .ok (.aload_n 0, 1) := by decide +kernel
theorem dX4_begin_11 : decode cX4_begin 11 = .ok (.iconst 0, 1) := by decide +kernel
theorem dX4_begin_12 : decode cX4_begin 12 = .ok (.putfield 28, 3) := by decide +kernel
theorem dX4_begin_15 : decode cX4_begin 15 = .ok (.aload_n 0, 1) := by decide +kernel
theorem dX4_begin_16 : decode cX4_begin 16 = .ok (.getfield 9, 3) := by decide +kernel
theorem dX4_begin_19 : decode cX4_begin 19 = .ok (.bipush 24, 2) := by decide +kernel
theorem dX4_begin_21 : decode cX4_begin 21 = .ok (.invokestatic 15, 3) := by decide +kernel
theorem dX4_begin_24 : decode cX4_begin 24 = .ok (.return_, 1) := by decide +kernel
theorem dX4_copyFrom_0 : decode cX4_copyFrom 0 = .ok (.aload_n 0, 1) := by decide +kernel
theorem dX4_copyFrom_1 : decode cX4_copyFrom 1 = .ok (.aload_n 1, 1) := by decide +kernel
theorem dX4_copyFrom_2 : decode cX4_copyFrom 2 = .ok (.getfield 21, 3) := by decide +kernel
theorem dX4_copyFrom_5 : decode cX4_copyFrom 5 = .ok (.putfield 21, 3) := by decide +kernel
theorem dX4_copyFrom_8 : decode cX4_copyFrom 8 = .ok (.aload_n 0, 1) := by decide +kernel
theorem dX4_copyFrom_9 : decode cX4_copyFrom 9 = .ok (.aload_n 1, 1) := by decide +kernel
theorem dX4_copyFrom_10 : decode cX4_copyFrom 10 = .ok (.getfield 25, 3) := by decide +kernel
theorem dX4_copyFrom_13 : decode cX4_copyFrom 13 = .ok (.putfield 25, 3) := by decide +kernel
theorem dX4_copyFrom_16 : decode cX4_copyFrom 16 = .ok (.aload_n 0, 1) := by decide +kernel
theorem dX4_copyFrom_17 : decode cX4_copyFrom 17 = .ok (.aload_n 1, 1) := by decide +kernel
theorem dX4_copyFrom_18 : decode cX4_copyFrom 18 = .ok (.getfield 28, 3) := by decide +kernel
theorem dX4_copyFrom_21 : decode cX4_copyFrom 21 = .ok (.putfield 28, 3) := by decide +kernel
theorem dX4_copyFrom_24 : decode cX4_copyFrom 24 = .ok (.aload_n 1, 1) := by decide +kernel
theorem dX4_copyFrom_25 : decode cX4_copyFrom 25 = .ok (.getfield 9, 3) := by decide +kernel
theorem dX4_copyFrom_28 : decode cX4_copyFrom 28 = .ok (.iconst 0, 1) := by decide +kernel
theorem dX4_copyFrom_29 : decode cX4_copyFrom 29 = .ok (.aload_n 0, 1) := by decide +kernel
theorem dX4_copyFrom_30 : decode cX4_copyFrom 30 = .ok (.getfield 9, 3) := by decide +kernel
theorem dX4_copyFrom_33 : decode cX4_copyFrom 33 = .ok (.iconst 0, 1) := by decide +kernel
theorem dX4_copyFrom_34 : decode cX4_copyFrom 34 = .ok (.iconst 3, 1) := by decide +kernel
theorem dX4_copyFrom_35 : decode cX4_copyFrom 35 = .ok (.invokestatic 31, 3) := by decide +kernel
theorem dX4_copyFrom_38 : decode cX4_copyFrom 38 = .ok (.return_, 1) := by decide +kernel
theorem dX4_at_0 : decode cX4_at 0 = .ok (.iload_n 1, 1) := by decide +kernel
theorem dX4_at_1 : decode cX4_at 1 = .ok (.ifCond .lt 17, 3) := by decide +kernel
theorem dX4_at_4 : decode cX4_at 4 = .ok (.iload_n 1, 1) := by decide +kernel
theorem dX4_at_5 : decode cX4_at 5 = .ok (.iconst 3, 1) := by decide +kernel
theorem dX4_at_6 : decode cX4_at 6 = .ok (.if_icmp .ge 12, 3) := by decide +kernel
theorem dX4_at_9 : decode cX4_at 9 = .ok (.aload_n 0, 1) := by decide +kernel
theorem dX4_at_10 : decode cX4_at 10 = .ok (.getfield 9, 3) := by decide +kernel
theorem dX4_at_13 : decode cX4_at 13 = .ok (.iload_n 1, 1) := by decide +kernel
theorem dX4_at_14 : decode cX4_at 14 = .ok (.iaload, 1) := by decide +kernel
theorem dX4_at_15 : decode cX4_at 15 = .ok (.goto 5, 3) := by decide +kernel
theorem dX4_at_18 : decode cX4_at 18 = .ok (.bipush 24, 2) := by decide +kernel
theorem dX4_at_20 : decode cX4_at 20 = .ok (.ireturn, 1) := by decide +kernel
theorem dX4_sitDown_0 : decode cX4_sitDown 0 = .ok (.iload_n 1, 1) := by decide +kernel
theorem dX4_sitDown_1 : decode cX4_sitDown 1 = .ok (.ifCond .lt 40, 3) := by decide +kernel
theorem dX4_sitDown_4 : decode cX4_sitDown 4 = .ok (.iload_n 1, 1) := by decide +kernel
theorem dX4_sitDown_5 : decode cX4_sitDown 5 = .ok (.iconst 3, 1) := by decide +kernel
theorem dX4_sitDown_6 : decode cX4_sitDown 6 = .ok (.if_icmp .ge 35, 3) := by decide +kernel
theorem dX4_sitDown_9 : decode cX4_sitDown 9 = .ok (.aload_n 0, 1) := by decide +kernel
theorem dX4_sitDown_10 : decode cX4_sitDown 10 = .ok (.getfield 9, 3) := by decide +kernel
theorem dX4_sitDown_13 : decode cX4_sitDown 13 = .ok (.iload_n 1, 1) := by decide +kernel
theorem dX4_sitDown_14 : decode cX4_sitDown 14 = .ok (.iload_n 2, 1) := by decide +kernel
theorem dX4_sitDown_15 : decode cX4_sitDown 15 = .ok (.iastore, 1) := by decide +kernel
theorem dX4_sitDown_16 : decode cX4_sitDown 16 = .ok (.aload_n 0, 1) := by decide +kernel
theorem dX4_sitDown_17 : decode cX4_sitDown 17 = .ok (.dup, 1) := by decide +kernel
theorem dX4_sitDown_18 : decode cX4_sitDown 18 = .ok (.getfield 28, 3) := by decide +kernel
theorem dX4_sitDown_21 : decode cX4_sitDown 21 = .ok (.iconst 1, 1) := by decide +kernel
theorem dX4_sitDown_22 : decode cX4_sitDown 22 = .ok (.aload_n 0, 1) := by decide +kernel
theorem dX4_sitDown_23 : decode cX4_sitDown 23 = .ok (.getfield 25, 3) := by decide +kernel
theorem dX4_sitDown_26 : decode cX4_sitDown 26 = .ok (.ishl, 1) := by decide +kernel
theorem dX4_sitDown_27 : decode cX4_sitDown 27 = .ok (.ior, 1) := by decide +kernel
theorem dX4_sitDown_28 : decode cX4_sitDown 28 = .ok (.putfield 28, 3) := by decide +kernel
theorem dX4_sitDown_31 : decode cX4_sitDown 31 = .ok (.aload_n 0, 1) := by decide +kernel
theorem dX4_sitDown_32 : decode cX4_sitDown 32 = .ok (.dup, 1) := by decide +kernel
theorem dX4_sitDown_33 : decode cX4_sitDown 33 = .ok (.getfield 25, 3) := by decide +kernel
theorem dX4_sitDown_36 : decode cX4_sitDown 36 = .ok (.iconst 1, 1) := by decide +kernel
theorem dX4_sitDown_37 : decode cX4_sitDown 37 = .ok (.iadd, 1) := by decide +kernel
theorem dX4_sitDown_38 : decode cX4_sitDown 38 = .ok (.putfield 25, 3) := by decide +kernel
theorem dX4_sitDown_41 : decode cX4_sitDown 41 = .ok (.return_, 1) := by decide +kernel
theorem dX4_leaveStanding_0 : decode cX4_leaveStanding 0 = .ok (.aload_n 0, 1) := by decide +kernel
theorem dX4_leaveStanding_1 : decode cX4_leaveStanding 1 = .ok (.dup, 1) := by decide +kernel
theorem dX4_leaveStanding_2 : decode cX4_leaveStanding 2 = .ok (.getfield 25, 3) := by decide +kernel
theorem dX4_leaveStanding_5 : decode cX4_leaveStanding 5 = .ok (.iconst 1, 1) := by decide +kernel
theorem dX4_leaveStanding_6 : decode cX4_leaveStanding 6 = .ok (.iadd, 1) := by decide +kernel
theorem dX4_leaveStanding_7 : decode cX4_leaveStanding 7 = .ok (.putfield 25, 3) := by decide +kernel
theorem dX4_leaveStanding_10 : decode cX4_leaveStanding 10 = .ok (.return_, 1) := by decide +kernel
theorem dX4_standingBits_0 : decode cX4_standingBits 0 = .ok (.iconst 1, 1) := by decide +kernel
theorem dX4_standingBits_1 : decode cX4_standingBits 1 = .ok (.aload_n 0, 1) := by decide +kernel
theorem dX4_standingBits_2 : decode cX4_standingBits 2 = .ok (.getfield 25, 3) := by decide +kernel
theorem dX4_standingBits_5 : decode cX4_standingBits 5 = .ok (.ishl, 1) := by decide +kernel
theorem dX4_standingBits_6 : decode cX4_standingBits 6 = .ok (.iconst 1, 1) := by decide +kernel
theorem dX4_standingBits_7 : decode cX4_standingBits 7 = .ok (.isub, 1) := by decide +kernel
theorem dX4_standingBits_8 : decode cX4_standingBits 8 = .ok (.aload_n 0, 1) := by decide +kernel
theorem dX4_standingBits_9 : decode cX4_standingBits 9 = .ok (.getfield 28, 3) := by decide +kernel
theorem dX4_standingBits_12 : decode cX4_standingBits 12 = .ok (.iconst (-1), 1) := by decide +kernel
theorem dX4_standingBits_13 : decode cX4_standingBits 13 = .ok (.ixor, 1) := by decide +kernel
theorem dX4_standingBits_14 : decode cX4_standingBits 14 = .ok (.iand, 1) := by decide +kernel
theorem dX4_standingBits_15 : decode cX4_standingBits 15 = .ok (.ireturn, 1) := by decide +kernel
theorem dX4_seatedGuest_0 : decode cX4_seatedGuest 0 = .ok (.iconst 0, 1) := by decide +kernel
theorem dX4_seatedGuest_1 : decode cX4_seatedGuest 1 = .ok (.istore_n 2, 1) := by decide +kernel
theorem dX4_seatedGuest_2 : decode cX4_seatedGuest 2 = .ok (.iconst 0, 1) := by decide +kernel
theorem dX4_seatedGuest_3 : decode cX4_seatedGuest 3 = .ok (.istore_n 3, 1) := by decide +kernel
theorem dX4_seatedGuest_4 : decode cX4_seatedGuest 4 = .ok (.iload_n 3, 1) := by decide +kernel
theorem dX4_seatedGuest_5 : decode cX4_seatedGuest 5 = .ok (.aload_n 0, 1) := by decide +kernel
theorem dX4_seatedGuest_6 : decode cX4_seatedGuest 6 = .ok (.getfield 25, 3) := by decide +kernel
theorem dX4_seatedGuest_9 : decode cX4_seatedGuest 9 = .ok (.if_icmp .ge 31, 3) := by decide +kernel
theorem dX4_seatedGuest_12 : decode cX4_seatedGuest 12 = .ok (.aload_n 0, 1) := by decide +kernel
theorem dX4_seatedGuest_13 : decode cX4_seatedGuest 13 = .ok (.getfield 28, 3) := by decide +kernel
theorem dX4_seatedGuest_16 : decode cX4_seatedGuest 16 = .ok (.iload_n 3, 1) := by decide +kernel
theorem dX4_seatedGuest_17 : decode cX4_seatedGuest 17 = .ok (.ishr, 1) := by decide +kernel
theorem dX4_seatedGuest_18 : decode cX4_seatedGuest 18 = .ok (.iconst 1, 1) := by decide +kernel
theorem dX4_seatedGuest_19 : decode cX4_seatedGuest 19 = .ok (.iand, 1) := by decide +kernel
theorem dX4_seatedGuest_20 : decode cX4_seatedGuest 20 = .ok (.iconst 1, 1) := by decide +kernel
theorem dX4_seatedGuest_21 : decode cX4_seatedGuest 21 = .ok (.if_icmp .ne 13, 3) := by decide +kernel
theorem dX4_seatedGuest_24 : decode cX4_seatedGuest 24 = .ok (.iload_n 2, 1) := by decide +kernel
theorem dX4_seatedGuest_25 : decode cX4_seatedGuest 25 = .ok (.iload_n 1, 1) := by decide +kernel
theorem dX4_seatedGuest_26 : decode cX4_seatedGuest 26 = .ok (.if_icmp .ne 5, 3) := by decide +kernel
theorem dX4_seatedGuest_29 : decode cX4_seatedGuest 29 = .ok (.iload_n 3, 1) := by decide +kernel
theorem dX4_seatedGuest_30 : decode cX4_seatedGuest 30 = .ok (.ireturn, 1) := by decide +kernel
theorem dX4_seatedGuest_31 : decode cX4_seatedGuest 31 = .ok (.iinc 2 1, 3) := by decide +kernel
theorem dX4_seatedGuest_34 : decode cX4_seatedGuest 34 = .ok (.iinc 3 1, 3) := by decide +kernel
theorem dX4_seatedGuest_37 : decode cX4_seatedGuest 37 = .ok (.goto (-33), 3) := by decide +kernel
theorem dX4_seatedGuest_40 : decode cX4_seatedGuest 40 = .ok (.iconst (-1), 1) := by decide +kernel
theorem dX4_seatedGuest_41 : decode cX4_seatedGuest 41 = .ok (.ireturn, 1) := by decide +kernel
theorem dX5_init_0 : decode cX5_init 0 = .ok (.aload_n 0, 1) := by decide +kernel
theorem dX5_init_1 : decode cX5_init 1 = .ok (.invokespecial 3, 3) := by decide +kernel
theorem dX5_init_4 : decode cX5_init 4 = .ok (.aload_n 0, 1) := by decide +kernel
theorem dX5_init_5 : decode cX5_init 5 = .ok (.sipush 900, 3) := by decide +kernel
theorem dX5_init_8 : decode cX5_init 8 = .ok (.newarray .int, 2) := by decide +kernel
theorem dX5_init_10 : decode cX5_init 10 = .ok (.putfield 9, 3) := by decide +kernel
theorem dX5_init_13 : decode cX5_init 13 = .ok (.aload_n 0, 1) := by decide +kernel
theorem dX5_init_14 : decode cX5_init 14 = .ok (.bipush 8, 2) := by decide +kernel
theorem dX5_init_16 : decode cX5_init 16 = .ok (.newarray .int, 2) := by decide +kernel
theorem dX5_init_18 : decode cX5_init 18 = .ok (.putfield 15, 3) := by decide +kernel
theorem dX5_init_21 : decode cX5_init 21 = .ok (.aload_n 0, 1) := by decide +kernel
theorem dX5_init_22 : decode cX5_init 22 = .ok (.bipush 8, 2) := by decide +kernel
theorem dX5_init_24 : decode cX5_init 24 = .ok (.newarray .int, 2) := by decide +kernel
theorem dX5_init_26 : decode cX5_init 26 = .ok (.putfield 18, 3) := by decide +kernel
theorem dX5_init_29 : decode cX5_init 29 = .ok (.aload_n 0, 1) := by decide +kernel
theorem dX5_init_30 : decode cX5_init 30 = .ok (.aload_n 1, 1) := by decide +kernel
theorem dX5_init_31 : decode cX5_init 31 = .ok (.putfield 21, 3) := by decide +kernel
theorem dX5_init_34 : decode cX5_init 34 = .ok (.return_, 1) := by decide +kernel
theorem dX5_append_0 : decode cX5_append 0 = .ok (.aload_n 0, 1) := by decide +kernel
theorem dX5_append_1 : decode cX5_append 1 = .ok (.getfield 25, 3) := by decide +kernel
theorem dX5_append_4 : decode cX5_append 4 = .ok (.bipush 20, 2) := by decide +kernel
theorem dX5_append_6 : decode cX5_append 6 = .ok (.iadd, 1) := by decide +kernel
theorem dX5_append_7 : decode cX5_append 7 = .ok (.sipush 900, 3) := by decide +kernel
theorem dX5_append_10 : decode cX5_append 10 = .ok (.if_icmp .le 5, 3) := by decide +kernel
theorem dX5_append_13 : decode cX5_append 13 = .ok (.iconst (-1), 1) := by decide +kernel
theorem dX5_append_14 : decode cX5_append 14 = .ok (.ireturn, 1) := by decide +kernel
theorem dX5_append_15 : decode cX5_append 15 = .ok (.aload_n 0, 1) := by decide +kernel
theorem dX5_append_16 : decode cX5_append 16 = .ok (.iload_n 1, 1) := by decide +kernel
theorem dX5_append_17 : decode cX5_append 17 = .ok (.invokevirtual 29, 3) := by decide +kernel
theorem dX5_append_20 : decode cX5_append 20 = .ok (.aload_n 0, 1) := by decide +kernel
theorem dX5_append_21 : decode cX5_append 21 = .ok (.iload_n 2, 1) := by decide +kernel
theorem dX5_append_22 : decode cX5_append 22 = .ok (.invokevirtual 29, 3) := by decide +kernel
theorem dX5_append_25 : decode cX5_append 25 = .ok (.aload_n 0, 1) := by decide +kernel
theorem dX5_append_26 : decode cX5_append 26 = .ok (.iload_n 3, 1) := by decide +kernel
theorem dX5_append_27 : decode cX5_append 27 = .ok (.invokevirtual 29, 3) := by decide +kernel
theorem dX5_append_30 : decode cX5_append 30 = .ok (.aload_n 0, 1) := by decide +kernel
theorem dX5_append_31 : decode cX5_append 31 = .ok (.iload 4, 2) := by decide +kernel
theorem dX5_append_33 : decode cX5_append 33 = .ok (.invokevirtual 29, 3) := by decide +kernel
theorem dX5_append_36 : decode cX5_append 36 = .ok (.aload_n 0, 1) := by decide +kernel
theorem dX5_append_37 : decode cX5_append 37 = .ok (.iload 5, 2) := by decide +kernel
theorem dX5_append_39 : decode cX5_append 39 = .ok (.invokevirtual 29, 3) := by decide +kernel
theorem dX5_append_42 : decode cX5_append 42 = .ok (.aload_n 0, 1) := by decide +kernel
theorem dX5_append_43 : decode cX5_append 43 = .ok (.getfield 25, 3) := by decide +kernel
theorem dX5_append_46 : decode cX5_append 46 = .ok (.ireturn, 1) := by decide +kernel
theorem dX5_appendFour_0 : decode cX5_appendFour 0 = .ok (.bipush 24, 2) := by decide +kernel
theorem dX5_appendFour_2 : decode cX5_appendFour 2 = .ok (.istore_n 2, 1) := by decide +kernel
theorem dX5_appendFour_3 : decode cX5_appendFour 3 = .ok (.iload_n 2, 1) := by decide +kernel
theorem dX5_appendFour_4 : decode cX5_appendFour 4 = .ok (.ifCond .lt 45, 3) := by decide +kernel
theorem dX5_appendFour_7 : decode cX5_appendFour 7 = .ok (.aload_n 0, 1) := by decide +kernel
theorem dX5_appendFour_8 : decode cX5_appendFour 8 = .ok (.getfield 25, 3) := by decide +kernel
theorem dX5_appendFour_11 : decode cX5_appendFour 11 = .ok (.sipush 900, 3) := by decide +kernel
theorem dX5_appendFour_14 : decode cX5_appendFour 14 = .ok (.if_icmp .ge 35, 3) := by decide +kernel
theorem dX5_appendFour_17 : decode cX5_appendFour 17 = .ok (.aload_n 0, 1) := by decide +kernel
theorem dX5_appendFour_18 : decode cX5_appendFour 18 = .ok (.getfield 9, 3) := by decide +kernel
theorem dX5_appendFour_21 : decode cX5_appendFour 21 = .ok (.aload_n 0, 1) := by decide +kernel
theorem dX5_appendFour_22 : decode cX5_appendFour 22 = .ok (.getfield 25, 3) := by decide +kernel
theorem dX5_appendFour_25 : decode cX5_appendFour 25 = .ok (.iload_n 1, 1) := by decide +kernel
theorem dX5_appendFour_26 : decode cX5_appendFour 26 = .ok (.iload_n 2, 1) := by decide +kernel
theorem dX5_appendFour_27 : decode cX5_appendFour 27 = .ok (.iushr, 1) := by decide +kernel
theorem dX5_appendFour_28 : decode cX5_appendFour 28 = .ok (.sipush 255, 3) := by decide +kernel
theorem dX5_appendFour_31 : decode cX5_appendFour 31 = .ok (.iand, 1) := by decide +kernel
theorem dX5_appendFour_32 : decode cX5_appendFour 32 = .ok (.iastore, 1) := by decide +kernel
theorem dX5_appendFour_33 : decode cX5_appendFour 33 = .ok (.aload_n 0, 1) := by decide +kernel
theorem dX5_appendFour_34 : decode cX5_appendFour 34 = .ok (.dup, 1) := by decide +kernel
theorem dX5_appendFour_35 : decode cX5_appendFour 35 = .ok (.getfield 25, 3) := by decide +kernel
theorem dX5_appendFour_38 : decode cX5_appendFour 38 = .ok (.iconst 1, 1) := by decide +kernel
theorem dX5_appendFour_39 : decode cX5_appendFour 39 = .ok (.iadd, 1) := by decide +kernel
theorem dX5_appendFour_40 : decode cX5_appendFour 40 = .ok (.putfield 25, 3) := by decide +kernel
theorem dX5_appendFour_43 : decode cX5_appendFour 43 = .ok (.iinc 2 (-8), 3) := by decide +kernel
theorem dX5_appendFour_46 : decode cX5_appendFour 46 = .ok (.goto (-43), 3) := by decide +kernel
theorem dX5_appendFour_49 : decode cX5_appendFour 49 = .ok (.return_, 1) := by decide +kernel
theorem dX5_readInn_0 : decode cX5_readInn 0 = .ok (.aload_n 0, 1) := by decide +kernel
theorem dX5_readInn_1 : decode cX5_readInn 1 = .ok (.getfield 21, 3) := by decide +kernel
theorem dX5_readInn_4 : decode cX5_readInn 4 = .ok (.invokevirtual 33, 3) := by decide +kernel
theorem dX5_readInn_7 : decode cX5_readInn 7 = .ok (.aload_n 0, 1) := by decide +kernel
theorem dX5_readInn_8 : decode cX5_readInn 8 = .ok (.iconst 0, 1) := by decide +kernel
theorem dX5_readInn_9 : decode cX5_readInn 9 = .ok (.putfield 38, 3) := by decide +kernel
theorem dX5_readInn_12 : decode cX5_readInn 12 = .ok (.aload_n 0, 1) := by decide +kernel
theorem dX5_readInn_13 : decode cX5_readInn 13 = .ok (.iconst 0, 1) := by decide +kernel
theorem dX5_readInn_14 : decode cX5_readInn 14 = .ok (.putfield 42, 3) := by decide +kernel
theorem dX5_readInn_17 : decode cX5_readInn 17 = .ok (.aload_n 0, 1) := by decide +kernel
theorem dX5_readInn_18 : decode cX5_readInn 18 = .ok (.iconst 0, 1) := by decide +kernel
theorem dX5_readInn_19 : decode cX5_readInn 19 = .ok (.putfield 45, 3) := by decide +kernel
theorem dX5_readInn_22 : decode cX5_readInn 22 = .ok (.aload_n 0, 1) := by decide +kernel
theorem dX5_readInn_23 : decode cX5_readInn 23 = .ok (.iconst (-1), 1) := by decide +kernel
theorem dX5_readInn_24 : decode cX5_readInn 24 = .ok (.putfield 48, 3) := by decide +kernel
theorem dX5_readInn_27 : decode cX5_readInn 27 = .ok (.aload_n 0, 1) := by decide +kernel
theorem dX5_readInn_28 : decode cX5_readInn 28 = .ok (.iload_n 1, 1) := by decide +kernel
theorem dX5_readInn_29 : decode cX5_readInn 29 = .ok (.aload_n 0, 1) := by decide +kernel
theorem dX5_readInn_30 : decode cX5_readInn 30 = .ok (.getfield 25, 3) := by decide +kernel
theorem dX5_readInn_33 : decode cX5_readInn 33 = .ok (.invokestatic 51, 3) := by decide +kernel
theorem dX5_readInn_36 : decode cX5_readInn 36 = .ok (.putfield 57, 3) := by decide +kernel
theorem dX5_readInn_39 : decode cX5_readInn 39 = .ok (.aload_n 0, 1) := by decide +kernel
theorem dX5_readInn_40 : decode cX5_readInn 40 = .ok (.iconst 0, 1) := by decide +kernel
theorem dX5_readInn_41 : decode cX5_readInn 41 = .ok (.putfield 60, 3) := by decide +kernel
theorem dX5_readInn_44 : decode cX5_readInn 44 = .ok (.aload_n 0, 1) := by decide +kernel
theorem dX5_readInn_45 : decode cX5_readInn 45 = .ok (.iconst 0, 1) := by decide +kernel
theorem dX5_readInn_46 : decode cX5_readInn 46 = .ok (.putfield 25, 3) := by decide +kernel
theorem dX5_readInn_49 : decode cX5_readInn 49 = .ok (.aload_n 0, 1) := by decide +kernel
theorem dX5_readInn_50 : decode cX5_readInn 50 = .ok (.invokevirtual 63, 3) := by decide +kernel
theorem dX5_readInn_53 : decode cX5_readInn 53 = .ok (.aload_n 0, 1) := by decide +kernel
theorem dX5_readInn_54 : decode cX5_readInn 54 = .ok (.invokevirtual 66, 3) := by decide +kernel
theorem dX5_readInn_57 : decode cX5_readInn 57 = .ok (.istore_n 2, 1) := by decide +kernel
theorem dX5_readInn_58 : decode cX5_readInn 58 = .ok (.iconst 0, 1) := by decide +kernel
theorem dX5_readInn_59 : decode cX5_readInn 59 = .ok (.istore_n 3, 1) := by decide +kernel
theorem dX5_readInn_60 : decode cX5_readInn 60 = .ok (.iload_n 2, 1) := by decide +kernel
theorem dX5_readInn_61 : decode cX5_readInn 61 = .ok (.ifCond .eq 33, 3) := by decide +kernel
theorem dX5_readInn_64 : decode cX5_readInn 64 = .ok (.aload_n 0, 1) := by decide +kernel
theorem dX5_readInn_65 : decode cX5_readInn 65 = .ok (.getfield 70, 3) := by decide +kernel
theorem dX5_readInn_68 : decode cX5_readInn 68 = .ok (.iconst 3, 1) := by decide +kernel
theorem dX5_readInn_69 : decode cX5_readInn 69 = .ok (.if_icmp .ne 25, 3) := by decide +kernel
theorem dX5_readInn_72 : decode cX5_readInn 72 = .ok (.iload_n 3, 1) := by decide +kernel
theorem dX5_readInn_73 : decode cX5_readInn 73 = .ok (.sipush 900, 3) := by decide +kernel
theorem dX5_readInn_76 : decode cX5_readInn 76 = .ok (.if_icmp .ge 18, 3) := by decide +kernel
theorem dX5_readInn_79 : decode cX5_readInn 79 = .ok (.aload_n 0, 1) := by decide +kernel
theorem dX5_readInn_80 : decode cX5_readInn 80 = .ok (.invokevirtual 63, 3) := by decide +kernel
theorem dX5_readInn_83 : decode cX5_readInn 83 = .ok (.aload_n 0, 1) := by decide +kernel
theorem dX5_readInn_84 : decode cX5_readInn 84 = .ok (.invokevirtual 66, 3) := by decide +kernel
theorem dX5_readInn_87 : decode cX5_readInn 87 = .ok (.istore_n 2, 1) := by decide +kernel
theorem dX5_readInn_88 : decode cX5_readInn 88 = .ok (.iinc 3 1, 3) := by decide +kernel
theorem dX5_readInn_91 : decode cX5_readInn 91 = .ok (.goto (-31), 3) := by decide +kernel
theorem dX5_readInn_94 : decode cX5_readInn 94 = .ok (.iload_n 2, 1) := by decide +kernel
theorem dX5_readInn_95 : decode cX5_readInn 95 = .ok (.ifCond .eq 14, 3) := by decide +kernel
theorem dX5_readInn_98 : decode cX5_readInn 98 = .ok (.aload_n 0, 1) := by decide +kernel
theorem dX5_readInn_99 : decode cX5_readInn 99 = .ok (.invokevirtual 73, 3) := by decide +kernel
theorem dX5_readInn_102 : decode cX5_readInn 102 = .ok (.ifCond .eq 7, 3) := by decide +kernel
theorem dX5_readInn_105 : decode cX5_readInn 105 = .ok (.iconst 1, 1) := by decide +kernel
theorem dX5_readInn_106 : decode cX5_readInn 106 = .ok (.goto 4, 3) := by decide +kernel
theorem dX5_readInn_109 : decode cX5_readInn 109 = .ok (.iconst 0, 1) := by decide +kernel
theorem dX5_readInn_110 : decode cX5_readInn 110 = .ok (.ireturn, 1) := by decide +kernel
theorem dX5_ends_0 : decode cX5_ends 0 = .ok (.aload_n 0, 1) := by decide +kernel
theorem dX5_ends_1 : decode cX5_ends 1 = .ok (.getfield 70, 3) := by decide +kernel
theorem dX5_ends_4 : decode cX5_ends 4 = .ok (.ifCond .eq 9, 3) := by decide +kernel
theorem dX5_ends_7 : decode cX5_ends 7 = .ok (.aload_n 0, 1) := by decide +kernel
theorem dX5_ends_8 : decode cX5_ends 8 = .ok (.iconst 1, 1) := by decide +kernel
theorem dX5_ends_9 : decode cX5_ends 9 = .ok (.invokevirtual 76, 3) := by decide +kernel
theorem dX5_ends_12 : decode cX5_ends 12 = .ok (.ireturn, 1) := by decide +kernel
theorem dX5_ends_13 : decode cX5_ends 13 = .ok (.aload_n 0, 1) := by decide +kernel
theorem dX5_ends_14 : decode cX5_ends 14 = .ok (.getfield 38, 3) := by decide +kernel
theorem dX5_ends_17 : decode cX5_ends 17 = .ok (.ifCond .eq 25, 3) := by decide +kernel
theorem dX5_ends_20 : decode cX5_ends 20 = .ok (.aload_n 0, 1) := by decide +kernel
theorem dX5_ends_21 : decode cX5_ends 21 = .ok (.getfield 21, 3) := by decide +kernel
theorem dX5_ends_24 : decode cX5_ends 24 = .ok (.getfield 80, 3) := by decide +kernel
theorem dX5_ends_27 : decode cX5_ends 27 = .ok (.iconst 1, 1) := by decide +kernel
theorem dX5_ends_28 : decode cX5_ends 28 = .ok (.if_icmp .lt 14, 3) := by decide +kernel
theorem dX5_ends_31 : decode cX5_ends 31 = .ok (.aload_n 0, 1) := by decide +kernel
theorem dX5_ends_32 : decode cX5_ends 32 = .ok (.getfield 21, 3) := by decide +kernel
theorem dX5_ends_35 : decode cX5_ends 35 = .ok (.getfield 83, 3) := by decide +kernel
theorem dX5_ends_38 : decode cX5_ends 38 = .ok (.iconst 1, 1) := by decide +kernel
theorem dX5_ends_39 : decode cX5_ends 39 = .ok (.if_icmp .ge 10, 3) := by decide +kernel
theorem dX5_ends_42 : decode cX5_ends 42 = .ok (.aload_n 0, 1) := by decide +kernel
theorem dX5_ends_43 : decode cX5_ends 43 = .ok (.bipush 6, 2) := by decide +kernel
theorem dX5_ends_45 : decode cX5_ends 45 = .ok (.invokevirtual 76, 3) := by decide +kernel
theorem dX5_ends_48 : decode cX5_ends 48 = .ok (.ireturn, 1) := by decide +kernel
theorem dX5_ends_49 : decode cX5_ends 49 = .ok (.iconst 1, 1) := by decide +kernel
theorem dX5_ends_50 : decode cX5_ends 50 = .ok (.ireturn, 1) := by decide +kernel
theorem dX5_readLine_0 : decode cX5_readLine 0 = .ok (.aload_n 0, 1) := by decide +kernel
theorem dX5_readLine_1 : decode cX5_readLine 1 = .ok (.ldc 86, 2) := by decide +kernel
theorem dX5_readLine_3 : decode cX5_readLine 3 = .ok (.invokevirtual 88, 3) := by decide +kernel
theorem dX5_readLine_6 : decode cX5_readLine 6 = .ok (.ifCond .eq 8, 3) := by decide +kernel
theorem dX5_readLine_9 : decode cX5_readLine 9 = .ok (.aload_n 0, 1) := by decide +kernel
theorem dX5_readLine_10 : decode cX5_readLine 10 = .ok (.invokevirtual 92, 3) := by decide +kernel
theorem dX5_readLine_13 : decode cX5_readLine 13 = .ok (.ireturn, 1) := by decide +kernel
theorem dX5_readLine_14 : decode cX5_readLine 14 = .ok (.aload_n 0, 1) := by decide +kernel
theorem dX5_readLine_15 : decode cX5_readLine 15 = .ok (.ldc 95, 2) := by decide +kernel
theorem dX5_readLine_17 : decode cX5_readLine 17 = .ok (.invokevirtual 88, 3) := by decide +kernel
theorem dX5_readLine_20 : decode cX5_readLine 20 = .ok (.ifCond .eq 8, 3) := by decide +kernel
theorem dX5_readLine_23 : decode cX5_readLine 23 = .ok (.aload_n 0, 1) := by decide +kernel
theorem dX5_readLine_24 : decode cX5_readLine 24 = .ok (.invokevirtual 97, 3) := by decide +kernel
theorem dX5_readLine_27 : decode cX5_readLine 27 = .ok (.ireturn, 1) := by decide +kernel
theorem dX5_readLine_28 : decode cX5_readLine 28 = .ok (.aload_n 0, 1) := by decide +kernel
theorem dX5_readLine_29 : decode cX5_readLine 29 = .ok (.ldc 100, 2) := by decide +kernel
theorem dX5_readLine_31 : decode cX5_readLine 31 = .ok (.invokevirtual 88, 3) := by decide +kernel
theorem dX5_readLine_34 : decode cX5_readLine 34 = .ok (.ifCond .eq 8, 3) := by decide +kernel
theorem dX5_readLine_37 : decode cX5_readLine 37 = .ok (.aload_n 0, 1) := by decide +kernel
theorem dX5_readLine_38 : decode cX5_readLine 38 = .ok (.invokevirtual 102, 3) := by decide +kernel
theorem dX5_readLine_41 : decode cX5_readLine 41 = .ok (.ireturn, 1) := by decide +kernel
theorem dX5_readLine_42 : decode cX5_readLine 42 = .ok (.aload_n 0, 1) := by decide +kernel
theorem dX5_readLine_43 : decode cX5_readLine 43 = .ok (.ldc 105, 2) := by decide +kernel
theorem dX5_readLine_45 : decode cX5_readLine 45 = .ok (.invokevirtual 88, 3) := by decide +kernel
theorem dX5_readLine_48 : decode cX5_readLine 48 = .ok (.ifCond .eq 8, 3) := by decide +kernel
theorem dX5_readLine_51 : decode cX5_readLine 51 = .ok (.aload_n 0, 1) := by decide +kernel
theorem dX5_readLine_52 : decode cX5_readLine 52 = .ok (.invokevirtual 107, 3) := by decide +kernel
theorem dX5_readLine_55 : decode cX5_readLine 55 = .ok (.ireturn, 1) := by decide +kernel
theorem dX5_readLine_56 : decode cX5_readLine 56 = .ok (.aload_n 0, 1) := by decide +kernel
theorem dX5_readLine_57 : decode cX5_readLine 57 = .ok (.ldc 110, 2) := by decide +kernel
theorem dX5_readLine_59 : decode cX5_readLine 59 = .ok (.invokevirtual 88, 3) := by decide +kernel
theorem dX5_readLine_62 : decode cX5_readLine 62 = .ok (.ifCond .eq 8, 3) := by decide +kernel
theorem dX5_readLine_65 : decode cX5_readLine 65 = .ok (.aload_n 0, 1) := by decide +kernel
theorem dX5_readLine_66 : decode cX5_readLine 66 = .ok (.invokevirtual 112, 3) := by decide +kernel
theorem dX5_readLine_69 : decode cX5_readLine 69 = .ok (.ireturn, 1) := by decide +kernel
theorem dX5_readLine_70 : decode cX5_readLine 70 = .ok (.aload_n 0, 1) := by decide +kernel
theorem dX5_readLine_71 : decode cX5_readLine 71 = .ok (.iconst 1, 1) := by decide +kernel
theorem dX5_readLine_72 : decode cX5_readLine 72 = .ok (.invokevirtual 76, 3) := by decide +kernel
theorem dX5_readLine_75 : decode cX5_readLine 75 = .ok (.ireturn, 1) := by decide +kernel
theorem dX5_readHouse_0 : decode cX5_readHouse 0 = .ok (.aload_n 0, 1) := by decide +kernel
theorem dX5_readHouse_1 : decode cX5_readHouse 1 = .ok (.getfield 38, 3) := by decide +kernel
theorem dX5_readHouse_4 : decode cX5_readHouse 4 = .ok (.ifCond .eq 9, 3) := by decide +kernel
theorem dX5_readHouse_7 : decode cX5_readHouse 7 = .ok (.aload_n 0, 1) := by decide +kernel
theorem dX5_readHouse_8 : decode cX5_readHouse 8 = .ok (.iconst 3, 1) := by decide +kernel
theorem dX5_readHouse_9 : decode cX5_readHouse 9 = .ok (.invokevirtual 76, 3) := by decide +kernel
theorem dX5_readHouse_12 : decode cX5_readHouse 12 = .ok (.ireturn, 1) := by decide +kernel
theorem dX5_readHouse_13 : decode cX5_readHouse 13 = .ok (.aload_n 0, 1) := by decide +kernel
theorem dX5_readHouse_14 : decode cX5_readHouse 14 = .ok (.iconst 1, 1) := by decide +kernel
theorem dX5_readHouse_15 : decode cX5_readHouse 15 = .ok (.putfield 38, 3) := by decide +kernel
theorem dX5_readHouse_18 : decode cX5_readHouse 18 = .ok (.aload_n 0, 1) := by decide +kernel
theorem dX5_readHouse_19 : decode cX5_readHouse 19 = .ok (.invokevirtual 63, 3) := by decide +kernel
theorem dX5_readHouse_22 : decode cX5_readHouse 22 = .ok (.aload_n 0, 1) := by decide +kernel
theorem dX5_readHouse_23 : decode cX5_readHouse 23 = .ok (.ldc 115, 2) := by decide +kernel
theorem dX5_readHouse_25 : decode cX5_readHouse 25 = .ok (.invokevirtual 117, 3) := by decide +kernel
theorem dX5_readHouse_28 : decode cX5_readHouse 28 = .ok (.ifCond .eq 12, 3) := by decide +kernel
theorem dX5_readHouse_31 : decode cX5_readHouse 31 = .ok (.aload_n 0, 1) := by decide +kernel
theorem dX5_readHouse_32 : decode cX5_readHouse 32 = .ok (.iconst 1, 1) := by decide +kernel
theorem dX5_readHouse_33 : decode cX5_readHouse 33 = .ok (.iconst 3, 1) := by decide +kernel
theorem dX5_readHouse_34 : decode cX5_readHouse 34 = .ok (.invokevirtual 120, 3) := by decide +kernel
theorem dX5_readHouse_37 : decode cX5_readHouse 37 = .ok (.ifCond .ne 5, 3) := by decide +kernel
theorem dX5_readHouse_40 : decode cX5_readHouse 40 = .ok (.iconst 0, 1) := by decide +kernel
theorem dX5_readHouse_41 : decode cX5_readHouse 41 = .ok (.ireturn, 1) := by decide +kernel
theorem dX5_readHouse_42 : decode cX5_readHouse 42 = .ok (.aload_n 0, 1) := by decide +kernel
theorem dX5_readHouse_43 : decode cX5_readHouse 43 = .ok (.getfield 21, 3) := by decide +kernel
theorem dX5_readHouse_46 : decode cX5_readHouse 46 = .ok (.aload_n 0, 1) := by decide +kernel
theorem dX5_readHouse_47 : decode cX5_readHouse 47 = .ok (.getfield 124, 3) := by decide +kernel
theorem dX5_readHouse_50 : decode cX5_readHouse 50 = .ok (.putfield 127, 3) := by decide +kernel
theorem dX5_readHouse_53 : decode cX5_readHouse 53 = .ok (.aload_n 0, 1) := by decide +kernel
theorem dX5_readHouse_54 : decode cX5_readHouse 54 = .ok (.ldc 129, 2) := by decide +kernel
theorem dX5_readHouse_56 : decode cX5_readHouse 56 = .ok (.invokevirtual 117, 3) := by decide +kernel
theorem dX5_readHouse_59 : decode cX5_readHouse 59 = .ok (.ifCond .eq 13, 3) := by decide +kernel
theorem dX5_readHouse_62 : decode cX5_readHouse 62 = .ok (.aload_n 0, 1) := by decide +kernel
theorem dX5_readHouse_63 : decode cX5_readHouse 63 = .ok (.iconst 1, 1) := by decide +kernel
theorem dX5_readHouse_64 : decode cX5_readHouse 64 = .ok (.bipush 6, 2) := by decide +kernel
theorem dX5_readHouse_66 : decode cX5_readHouse 66 = .ok (.invokevirtual 120, 3) := by decide +kernel
theorem dX5_readHouse_69 : decode cX5_readHouse 69 = .ok (.ifCond .ne 5, 3) := by decide +kernel
theorem dX5_readHouse_72 : decode cX5_readHouse 72 = .ok (.iconst 0, 1) := by decide +kernel
theorem dX5_readHouse_73 : decode cX5_readHouse 73 = .ok (.ireturn, 1) := by decide +kernel
theorem dX5_readHouse_74 : decode cX5_readHouse 74 = .ok (.aload_n 0, 1) := by decide +kernel
theorem dX5_readHouse_75 : decode cX5_readHouse 75 = .ok (.getfield 21, 3) := by decide +kernel
theorem dX5_readHouse_78 : decode cX5_readHouse 78 = .ok (.aload_n 0, 1) := by decide +kernel
theorem dX5_readHouse_79 : decode cX5_readHouse 79 = .ok (.getfield 124, 3) := by decide +kernel
theorem dX5_readHouse_82 : decode cX5_readHouse 82 = .ok (.putfield 131, 3) := by decide +kernel
theorem dX5_readHouse_85 : decode cX5_readHouse 85 = .ok (.aload_n 0, 1) := by decide +kernel
theorem dX5_readHouse_86 : decode cX5_readHouse 86 = .ok (.ldc 133, 2) := by decide +kernel
theorem dX5_readHouse_88 : decode cX5_readHouse 88 = .ok (.invokevirtual 117, 3) := by decide +kernel
theorem dX5_readHouse_91 : decode cX5_readHouse 91 = .ok (.ifCond .eq 14, 3) := by decide +kernel
theorem dX5_readHouse_94 : decode cX5_readHouse 94 = .ok (.aload_n 0, 1) := by decide +kernel
theorem dX5_readHouse_95 : decode cX5_readHouse 95 = .ok (.invokevirtual 135, 3) := by decide +kernel
theorem dX5_readHouse_98 : decode cX5_readHouse 98 = .ok (.ifCond .eq 7, 3) := by decide +kernel
theorem dX5_readHouse_101 : decode cX5_readHouse 101 = .ok (.iconst 1, 1) := by decide +kernel
theorem dX5_readHouse_102 : decode cX5_readHouse 102 = .ok (.goto 4, 3) := by decide +kernel
theorem dX5_readHouse_105 : decode cX5_readHouse 105 = .ok (.iconst 0, 1) := by decide +kernel
theorem dX5_readHouse_106 : decode cX5_readHouse 106 = .ok (.ireturn, 1) := by decide +kernel
theorem dX5_readManner_0 : decode cX5_readManner 0 = .ok (.aload_n 0, 1) := by decide +kernel
theorem dX5_readManner_1 : decode cX5_readManner 1 = .ok (.ldc 138, 2) := by decide +kernel
theorem dX5_readManner_3 : decode cX5_readManner 3 = .ok (.invokevirtual 88, 3) := by decide +kernel
theorem dX5_readManner_6 : decode cX5_readManner 6 = .ok (.ifCond .eq 14, 3) := by decide +kernel
theorem dX5_readManner_9 : decode cX5_readManner 9 = .ok (.aload_n 0, 1) := by decide +kernel
theorem dX5_readManner_10 : decode cX5_readManner 10 = .ok (.getfield 21, 3) := by decide +kernel
theorem dX5_readManner_13 : decode cX5_readManner 13 = .ok (.iconst 0, 1) := by decide +kernel
theorem dX5_readManner_14 : decode cX5_readManner 14 = .ok (.putfield 140, 3) := by decide +kernel
theorem dX5_readManner_17 : decode cX5_readManner 17 = .ok (.goto 49, 3) := by decide +kernel
theorem dX5_readManner_20 : decode cX5_readManner 20 = .ok (.aload_n 0, 1) := by decide +kernel
theorem dX5_readManner_21 : decode cX5_readManner 21 = .ok (.ldc 143, 2) := by decide +kernel
theorem dX5_readManner_23 : decode cX5_readManner 23 = .ok (.invokevirtual 88, 3) := by decide +kernel
theorem dX5_readManner_26 : decode cX5_readManner 26 = .ok (.ifCond .eq 14, 3) := by decide +kernel
theorem dX5_readManner_29 : decode cX5_readManner 29 = .ok (.aload_n 0, 1) := by decide +kernel
theorem dX5_readManner_30 : decode cX5_readManner 30 = .ok (.getfield 21, 3) := by decide +kernel
theorem dX5_readManner_33 : decode cX5_readManner 33 = .ok (.iconst 1, 1) := by decide +kernel
theorem dX5_readManner_34 : decode cX5_readManner 34 = .ok (.putfield 140, 3) := by decide +kernel
theorem dX5_readManner_37 : decode cX5_readManner 37 = .ok (.goto 29, 3) := by decide +kernel
theorem dX5_readManner_40 : decode cX5_readManner 40 = .ok (.aload_n 0, 1) := by decide +kernel
theorem dX5_readManner_41 : decode cX5_readManner 41 = .ok (.ldc 144, 2) := by decide +kernel
theorem dX5_readManner_43 : decode cX5_readManner 43 = .ok (.invokevirtual 88, 3) := by decide +kernel
theorem dX5_readManner_46 : decode cX5_readManner 46 = .ok (.ifCond .eq 14, 3) := by decide +kernel
theorem dX5_readManner_49 : decode cX5_readManner 49 = .ok (.aload_n 0, 1) := by decide +kernel
theorem dX5_readManner_50 : decode cX5_readManner 50 = .ok (.getfield 21, 3) := by decide +kernel
theorem dX5_readManner_53 : decode cX5_readManner 53 = .ok (.iconst 2, 1) := by decide +kernel
theorem dX5_readManner_54 : decode cX5_readManner 54 = .ok (.putfield 140, 3) := by decide +kernel
theorem dX5_readManner_57 : decode cX5_readManner 57 = .ok (.goto 9, 3) := by decide +kernel
theorem dX5_readManner_60 : decode cX5_readManner 60 = .ok (.aload_n 0, 1) := by decide +kernel
theorem dX5_readManner_61 : decode cX5_readManner 61 = .ok (.iconst 1, 1) := by decide +kernel
theorem dX5_readManner_62 : decode cX5_readManner 62 = .ok (.invokevirtual 76, 3) := by decide +kernel
theorem dX5_readManner_65 : decode cX5_readManner 65 = .ok (.ireturn, 1) := by decide +kernel
theorem dX5_readManner_66 : decode cX5_readManner 66 = .ok (.aload_n 0, 1) := by decide +kernel
theorem dX5_readManner_67 : decode cX5_readManner 67 = .ok (.invokevirtual 63, 3) := by decide +kernel
theorem dX5_readManner_70 : decode cX5_readManner 70 = .ok (.iconst 1, 1) := by decide +kernel
theorem dX5_readManner_71 : decode cX5_readManner 71 = .ok (.ireturn, 1) := by decide +kernel
theorem dX5_readWord_0 : decode cX5_readWord 0 = .ok (.aload_n 0, 1) := by decide +kernel
theorem dX5_readWord_1 : decode cX5_readWord 1 = .ok (.getfield 21, 3) := by decide +kernel
theorem dX5_readWord_4 : decode cX5_readWord 4 = .ok (.getfield 80, 3) := by decide +kernel
theorem dX5_readWord_7 : decode cX5_readWord 7 = .ok (.bipush 24, 2) := by decide +kernel
theorem dX5_readWord_9 : decode cX5_readWord 9 = .ok (.if_icmp .lt 9, 3) := by decide +kernel
theorem dX5_readWord_12 : decode cX5_readWord 12 = .ok (.aload_n 0, 1) := by decide +kernel
theorem dX5_readWord_13 : decode cX5_readWord 13 = .ok (.iconst 5, 1) := by decide +kernel
theorem dX5_readWord_14 : decode cX5_readWord 14 = .ok (.invokevirtual 76, 3) := by decide +kernel
theorem dX5_readWord_17 : decode cX5_readWord 17 = .ok (.ireturn, 1) := by decide +kernel
theorem dX5_readWord_18 : decode cX5_readWord 18 = .ok (.aload_n 0, 1) := by decide +kernel
theorem dX5_readWord_19 : decode cX5_readWord 19 = .ok (.invokevirtual 63, 3) := by decide +kernel
theorem dX5_readWord_22 : decode cX5_readWord 22 = .ok (.aload_n 0, 1) := by decide +kernel
theorem dX5_readWord_23 : decode cX5_readWord 23 = .ok (.getfield 70, 3) := by decide +kernel
theorem dX5_readWord_26 : decode cX5_readWord 26 = .ok (.iconst 1, 1) := by decide +kernel
theorem dX5_readWord_27 : decode cX5_readWord 27 = .ok (.if_icmp .eq 9, 3) := by decide +kernel
theorem dX5_readWord_30 : decode cX5_readWord 30 = .ok (.aload_n 0, 1) := by decide +kernel
theorem dX5_readWord_31 : decode cX5_readWord 31 = .ok (.iconst 1, 1) := by decide +kernel
theorem dX5_readWord_32 : decode cX5_readWord 32 = .ok (.invokevirtual 76, 3) := by decide +kernel
theorem dX5_readWord_35 : decode cX5_readWord 35 = .ok (.ireturn, 1) := by decide +kernel
theorem dX5_readWord_36 : decode cX5_readWord 36 = .ok (.aload_n 0, 1) := by decide +kernel
theorem dX5_readWord_37 : decode cX5_readWord 37 = .ok (.invokevirtual 146, 3) := by decide +kernel
theorem dX5_readWord_40 : decode cX5_readWord 40 = .ok (.ifCond .lt 9, 3) := by decide +kernel
theorem dX5_readWord_43 : decode cX5_readWord 43 = .ok (.aload_n 0, 1) := by decide +kernel
theorem dX5_readWord_44 : decode cX5_readWord 44 = .ok (.iconst 3, 1) := by decide +kernel
theorem dX5_readWord_45 : decode cX5_readWord 45 = .ok (.invokevirtual 76, 3) := by decide +kernel
theorem dX5_readWord_48 : decode cX5_readWord 48 = .ok (.ireturn, 1) := by decide +kernel
theorem dX5_readWord_49 : decode cX5_readWord 49 = .ok (.aload_n 0, 1) := by decide +kernel
theorem dX5_readWord_50 : decode cX5_readWord 50 = .ok (.getfield 60, 3) := by decide +kernel
theorem dX5_readWord_53 : decode cX5_readWord 53 = .ok (.aload_n 0, 1) := by decide +kernel
theorem dX5_readWord_54 : decode cX5_readWord 54 = .ok (.getfield 150, 3) := by decide +kernel
theorem dX5_readWord_57 : decode cX5_readWord 57 = .ok (.isub, 1) := by decide +kernel
theorem dX5_readWord_58 : decode cX5_readWord 58 = .ok (.bipush 6, 2) := by decide +kernel
theorem dX5_readWord_60 : decode cX5_readWord 60 = .ok (.if_icmp .le 9, 3) := by decide +kernel
theorem dX5_readWord_63 : decode cX5_readWord 63 = .ok (.aload_n 0, 1) := by decide +kernel
theorem dX5_readWord_64 : decode cX5_readWord 64 = .ok (.iconst 4, 1) := by decide +kernel
theorem dX5_readWord_65 : decode cX5_readWord 65 = .ok (.invokevirtual 76, 3) := by decide +kernel
theorem dX5_readWord_68 : decode cX5_readWord 68 = .ok (.ireturn, 1) := by decide +kernel
theorem dX5_readWord_69 : decode cX5_readWord 69 = .ok (.aload_n 0, 1) := by decide +kernel
theorem dX5_readWord_70 : decode cX5_readWord 70 = .ok (.getfield 21, 3) := by decide +kernel
theorem dX5_readWord_73 : decode cX5_readWord 73 = .ok (.aload_n 0, 1) := by decide +kernel
theorem dX5_readWord_74 : decode cX5_readWord 74 = .ok (.getfield 9, 3) := by decide +kernel
theorem dX5_readWord_77 : decode cX5_readWord 77 = .ok (.aload_n 0, 1) := by decide +kernel
theorem dX5_readWord_78 : decode cX5_readWord 78 = .ok (.getfield 150, 3) := by decide +kernel
theorem dX5_readWord_81 : decode cX5_readWord 81 = .ok (.aload_n 0, 1) := by decide +kernel
theorem dX5_readWord_82 : decode cX5_readWord 82 = .ok (.getfield 60, 3) := by decide +kernel
theorem dX5_readWord_85 : decode cX5_readWord 85 = .ok (.invokevirtual 153, 3) := by decide +kernel
theorem dX5_readWord_88 : decode cX5_readWord 88 = .ok (.aload_n 0, 1) := by decide +kernel
theorem dX5_readWord_89 : decode cX5_readWord 89 = .ok (.getfield 21, 3) := by decide +kernel
theorem dX5_readWord_92 : decode cX5_readWord 92 = .ok (.getfield 80, 3) := by decide +kernel
theorem dX5_readWord_95 : decode cX5_readWord 95 = .ok (.iconst 1, 1) := by decide +kernel
theorem dX5_readWord_96 : decode cX5_readWord 96 = .ok (.isub, 1) := by decide +kernel
theorem dX5_readWord_97 : decode cX5_readWord 97 = .ok (.istore_n 1, 1) := by decide +kernel
theorem dX5_readWord_98 : decode cX5_readWord 98 = .ok (.aload_n 0, 1) := by decide +kernel
theorem dX5_readWord_99 : decode cX5_readWord 99 = .ok (.invokevirtual 63, 3) := by decide +kernel
theorem dX5_readWord_102 : decode cX5_readWord 102 = .ok (.aload_n 0, 1) := by decide +kernel
theorem dX5_readWord_103 : decode cX5_readWord 103 = .ok (.ldc 157, 2) := by decide +kernel
theorem dX5_readWord_105 : decode cX5_readWord 105 = .ok (.invokevirtual 117, 3) := by decide +kernel
theorem dX5_readWord_108 : decode cX5_readWord 108 = .ok (.ifCond .eq 13, 3) := by decide +kernel
theorem dX5_readWord_111 : decode cX5_readWord 111 = .ok (.aload_n 0, 1) := by decide +kernel
theorem dX5_readWord_112 : decode cX5_readWord 112 = .ok (.iconst 0, 1) := by decide +kernel
theorem dX5_readWord_113 : decode cX5_readWord 113 = .ok (.bipush 99, 2) := by decide +kernel
theorem dX5_readWord_115 : decode cX5_readWord 115 = .ok (.invokevirtual 120, 3) := by decide +kernel
theorem dX5_readWord_118 : decode cX5_readWord 118 = .ok (.ifCond .ne 5, 3) := by decide +kernel
theorem dX5_readWord_121 : decode cX5_readWord 121 = .ok (.iconst 0, 1) := by decide +kernel
theorem dX5_readWord_122 : decode cX5_readWord 122 = .ok (.ireturn, 1) := by decide +kernel
theorem dX5_readWord_123 : decode cX5_readWord 123 = .ok (.aload_n 0, 1) := by decide +kernel
theorem dX5_readWord_124 : decode cX5_readWord 124 = .ok (.getfield 21, 3) := by decide +kernel
theorem dX5_readWord_127 : decode cX5_readWord 127 = .ok (.iload_n 1, 1) := by decide +kernel
theorem dX5_readWord_128 : decode cX5_readWord 128 = .ok (.aload_n 0, 1) := by decide +kernel
theorem dX5_readWord_129 : decode cX5_readWord 129 = .ok (.getfield 124, 3) := by decide +kernel
theorem dX5_readWord_132 : decode cX5_readWord 132 = .ok (.invokevirtual 159, 3) := by decide +kernel
theorem dX5_readWord_135 : decode cX5_readWord 135 = .ok (.aload_n 0, 1) := by decide +kernel
theorem dX5_readWord_136 : decode cX5_readWord 136 = .ok (.ldc 163, 2) := by decide +kernel
theorem dX5_readWord_138 : decode cX5_readWord 138 = .ok (.invokevirtual 88, 3) := by decide +kernel
theorem dX5_readWord_141 : decode cX5_readWord 141 = .ok (.ifCond .eq 16, 3) := by decide +kernel
theorem dX5_readWord_144 : decode cX5_readWord 144 = .ok (.aload_n 0, 1) := by decide +kernel
theorem dX5_readWord_145 : decode cX5_readWord 145 = .ok (.getfield 21, 3) := by decide +kernel
theorem dX5_readWord_148 : decode cX5_readWord 148 = .ok (.iload_n 1, 1) := by decide +kernel
theorem dX5_readWord_149 : decode cX5_readWord 149 = .ok (.iconst 1, 1) := by decide +kernel
theorem dX5_readWord_150 : decode cX5_readWord 150 = .ok (.invokevirtual 165, 3) := by decide +kernel
theorem dX5_readWord_153 : decode cX5_readWord 153 = .ok (.aload_n 0, 1) := by decide +kernel
theorem dX5_readWord_154 : decode cX5_readWord 154 = .ok (.invokevirtual 63, 3) := by decide +kernel
theorem dX5_readWord_157 : decode cX5_readWord 157 = .ok (.iconst 1, 1) := by decide +kernel
theorem dX5_readWord_158 : decode cX5_readWord 158 = .ok (.ireturn, 1) := by decide +kernel
theorem dX5_readGuests_0 : decode cX5_readGuests 0 = .ok (.iconst 0, 1) := by decide +kernel
theorem dX5_readGuests_1 : decode cX5_readGuests 1 = .ok (.istore_n 1, 1) := by decide +kernel
theorem dX5_readGuests_2 : decode cX5_readGuests 2 = .ok (.iload_n 1, 1) := by decide +kernel
theorem dX5_readGuests_3 : decode cX5_readGuests 3 = .ok (.bipush 8, 2) := by decide +kernel
theorem dX5_readGuests_5 : decode cX5_readGuests 5 = .ok (.if_icmp .gt 122, 3) := by decide +kernel
theorem dX5_readGuests_8 : decode cX5_readGuests 8 = .ok (.aload_n 0, 1) := by decide +kernel
theorem dX5_readGuests_9 : decode cX5_readGuests 9 = .ok (.invokevirtual 63, 3) := by decide +kernel
theorem dX5_readGuests_12 : decode cX5_readGuests 12 = .ok (.aload_n 0, 1) := by decide +kernel
theorem dX5_readGuests_13 : decode cX5_readGuests 13 = .ok (.getfield 70, 3) := by decide +kernel
theorem dX5_readGuests_16 : decode cX5_readGuests 16 = .ok (.iconst 1, 1) := by decide +kernel
theorem dX5_readGuests_17 : decode cX5_readGuests 17 = .ok (.if_icmp .eq 9, 3) := by decide +kernel
theorem dX5_readGuests_20 : decode cX5_readGuests 20 = .ok (.aload_n 0, 1) := by decide +kernel
theorem dX5_readGuests_21 : decode cX5_readGuests 21 = .ok (.iconst 1, 1) := by decide +kernel
theorem dX5_readGuests_22 : decode cX5_readGuests 22 = .ok (.invokevirtual 76, 3) := by decide +kernel
theorem dX5_readGuests_25 : decode cX5_readGuests 25 = .ok (.ireturn, 1) := by decide +kernel
theorem dX5_readGuests_26 : decode cX5_readGuests 26 = .ok (.aload_n 0, 1) := by decide +kernel
theorem dX5_readGuests_27 : decode cX5_readGuests 27 = .ok (.invokevirtual 169, 3) := by decide +kernel
theorem dX5_readGuests_30 : decode cX5_readGuests 30 = .ok (.ifCond .eq 9, 3) := by decide +kernel
theorem dX5_readGuests_33 : decode cX5_readGuests 33 = .ok (.aload_n 0, 1) := by decide +kernel
theorem dX5_readGuests_34 : decode cX5_readGuests 34 = .ok (.iconst 3, 1) := by decide +kernel
theorem dX5_readGuests_35 : decode cX5_readGuests 35 = .ok (.invokevirtual 76, 3) := by decide +kernel
theorem dX5_readGuests_38 : decode cX5_readGuests 38 = .ok (.ireturn, 1) := by decide +kernel
theorem dX5_readGuests_39 : decode cX5_readGuests 39 = .ok (.aload_n 0, 1) := by decide +kernel
theorem dX5_readGuests_40 : decode cX5_readGuests 40 = .ok (.getfield 21, 3) := by decide +kernel
theorem dX5_readGuests_43 : decode cX5_readGuests 43 = .ok (.getfield 83, 3) := by decide +kernel
theorem dX5_readGuests_46 : decode cX5_readGuests 46 = .ok (.bipush 8, 2) := by decide +kernel
theorem dX5_readGuests_48 : decode cX5_readGuests 48 = .ok (.if_icmp .lt 9, 3) := by decide +kernel
theorem dX5_readGuests_51 : decode cX5_readGuests 51 = .ok (.aload_n 0, 1) := by decide +kernel
theorem dX5_readGuests_52 : decode cX5_readGuests 52 = .ok (.iconst 5, 1) := by decide +kernel
theorem dX5_readGuests_53 : decode cX5_readGuests 53 = .ok (.invokevirtual 76, 3) := by decide +kernel
theorem dX5_readGuests_56 : decode cX5_readGuests 56 = .ok (.ireturn, 1) := by decide +kernel
theorem dX5_readGuests_57 : decode cX5_readGuests 57 = .ok (.aload_n 0, 1) := by decide +kernel
theorem dX5_readGuests_58 : decode cX5_readGuests 58 = .ok (.getfield 15, 3) := by decide +kernel
theorem dX5_readGuests_61 : decode cX5_readGuests 61 = .ok (.aload_n 0, 1) := by decide +kernel
theorem dX5_readGuests_62 : decode cX5_readGuests 62 = .ok (.getfield 21, 3) := by decide +kernel
theorem dX5_readGuests_65 : decode cX5_readGuests 65 = .ok (.getfield 83, 3) := by decide +kernel
theorem dX5_readGuests_68 : decode cX5_readGuests 68 = .ok (.aload_n 0, 1) := by decide +kernel
theorem dX5_readGuests_69 : decode cX5_readGuests 69 = .ok (.getfield 150, 3) := by decide +kernel
theorem dX5_readGuests_72 : decode cX5_readGuests 72 = .ok (.iastore, 1) := by decide +kernel
theorem dX5_readGuests_73 : decode cX5_readGuests 73 = .ok (.aload_n 0, 1) := by decide +kernel
theorem dX5_readGuests_74 : decode cX5_readGuests 74 = .ok (.getfield 18, 3) := by decide +kernel
theorem dX5_readGuests_77 : decode cX5_readGuests 77 = .ok (.aload_n 0, 1) := by decide +kernel
theorem dX5_readGuests_78 : decode cX5_readGuests 78 = .ok (.getfield 21, 3) := by decide +kernel
theorem dX5_readGuests_81 : decode cX5_readGuests 81 = .ok (.getfield 83, 3) := by decide +kernel
theorem dX5_readGuests_84 : decode cX5_readGuests 84 = .ok (.aload_n 0, 1) := by decide +kernel
theorem dX5_readGuests_85 : decode cX5_readGuests 85 = .ok (.getfield 60, 3) := by decide +kernel
theorem dX5_readGuests_88 : decode cX5_readGuests 88 = .ok (.iastore, 1) := by decide +kernel
theorem dX5_readGuests_89 : decode cX5_readGuests 89 = .ok (.aload_n 0, 1) := by decide +kernel
theorem dX5_readGuests_90 : decode cX5_readGuests 90 = .ok (.getfield 21, 3) := by decide +kernel
theorem dX5_readGuests_93 : decode cX5_readGuests 93 = .ok (.aload_n 0, 1) := by decide +kernel
theorem dX5_readGuests_94 : decode cX5_readGuests 94 = .ok (.aload_n 0, 1) := by decide +kernel
theorem dX5_readGuests_95 : decode cX5_readGuests 95 = .ok (.getfield 150, 3) := by decide +kernel
theorem dX5_readGuests_98 : decode cX5_readGuests 98 = .ok (.invokevirtual 172, 3) := by decide +kernel
theorem dX5_readGuests_101 : decode cX5_readGuests 101 = .ok (.bipush 97, 2) := by decide +kernel
theorem dX5_readGuests_103 : decode cX5_readGuests 103 = .ok (.isub, 1) := by decide +kernel
theorem dX5_readGuests_104 : decode cX5_readGuests 104 = .ok (.invokevirtual 176, 3) := by decide +kernel
theorem dX5_readGuests_107 : decode cX5_readGuests 107 = .ok (.aload_n 0, 1) := by decide +kernel
theorem dX5_readGuests_108 : decode cX5_readGuests 108 = .ok (.invokevirtual 63, 3) := by decide +kernel
theorem dX5_readGuests_111 : decode cX5_readGuests 111 = .ok (.aload_n 0, 1) := by decide +kernel
theorem dX5_readGuests_112 : decode cX5_readGuests 112 = .ok (.getfield 70, 3) := by decide +kernel
theorem dX5_readGuests_115 : decode cX5_readGuests 115 = .ok (.iconst 4, 1) := by decide +kernel
theorem dX5_readGuests_116 : decode cX5_readGuests 116 = .ok (.if_icmp .eq 5, 3) := by decide +kernel
theorem dX5_readGuests_119 : decode cX5_readGuests 119 = .ok (.iconst 1, 1) := by decide +kernel
theorem dX5_readGuests_120 : decode cX5_readGuests 120 = .ok (.ireturn, 1) := by decide +kernel
theorem dX5_readGuests_121 : decode cX5_readGuests 121 = .ok (.iinc 1 1, 3) := by decide +kernel
theorem dX5_readGuests_124 : decode cX5_readGuests 124 = .ok (.goto (-122), 3) := by decide +kernel
theorem dX5_readGuests_127 : decode cX5_readGuests 127 = .ok (.aload_n 0, 1) := by decide +kernel
theorem dX5_readGuests_128 : decode cX5_readGuests 128 = .ok (.iconst 5, 1) := by decide +kernel
theorem dX5_readGuests_129 : decode cX5_readGuests 129 = .ok (.invokevirtual 76, 3) := by decide +kernel
theorem dX5_readGuests_132 : decode cX5_readGuests 132 = .ok (.ireturn, 1) := by decide +kernel
theorem dX5_readLikely_0 : decode cX5_readLikely 0 = .ok (.aload_n 0, 1) := by decide +kernel
theorem dX5_readLikely_1 : decode cX5_readLikely 1 = .ok (.getfield 21, 3) := by decide +kernel
theorem dX5_readLikely_4 : decode cX5_readLikely 4 = .ok (.getfield 179, 3) := by decide +kernel
theorem dX5_readLikely_7 : decode cX5_readLikely 7 = .ok (.bipush 6, 2) := by decide +kernel
theorem dX5_readLikely_9 : decode cX5_readLikely 9 = .ok (.if_icmp .lt 9, 3) := by decide +kernel
theorem dX5_readLikely_12 : decode cX5_readLikely 12 = .ok (.aload_n 0, 1) := by decide +kernel
theorem dX5_readLikely_13 : decode cX5_readLikely 13 = .ok (.iconst 5, 1) := by decide +kernel
theorem dX5_readLikely_14 : decode cX5_readLikely 14 = .ok (.invokevirtual 76, 3) := by decide +kernel
theorem dX5_readLikely_17 : decode cX5_readLikely 17 = .ok (.ireturn, 1) := by decide +kernel
theorem dX5_readLikely_18 : decode cX5_readLikely 18 = .ok (.aload_n 0, 1) := by decide +kernel
theorem dX5_readLikely_19 : decode cX5_readLikely 19 = .ok (.invokevirtual 63, 3) := by decide +kernel
theorem dX5_readLikely_22 : decode cX5_readLikely 22 = .ok (.aload_n 0, 1) := by decide +kernel
theorem dX5_readLikely_23 : decode cX5_readLikely 23 = .ok (.getfield 70, 3) := by decide +kernel
theorem dX5_readLikely_26 : decode cX5_readLikely 26 = .ok (.iconst 1, 1) := by decide +kernel
theorem dX5_readLikely_27 : decode cX5_readLikely 27 = .ok (.if_icmp .eq 9, 3) := by decide +kernel
theorem dX5_readLikely_30 : decode cX5_readLikely 30 = .ok (.aload_n 0, 1) := by decide +kernel
theorem dX5_readLikely_31 : decode cX5_readLikely 31 = .ok (.iconst 1, 1) := by decide +kernel
theorem dX5_readLikely_32 : decode cX5_readLikely 32 = .ok (.invokevirtual 76, 3) := by decide +kernel
theorem dX5_readLikely_35 : decode cX5_readLikely 35 = .ok (.ireturn, 1) := by decide +kernel
theorem dX5_readLikely_36 : decode cX5_readLikely 36 = .ok (.aload_n 0, 1) := by decide +kernel
theorem dX5_readLikely_37 : decode cX5_readLikely 37 = .ok (.getfield 60, 3) := by decide +kernel
theorem dX5_readLikely_40 : decode cX5_readLikely 40 = .ok (.aload_n 0, 1) := by decide +kernel
theorem dX5_readLikely_41 : decode cX5_readLikely 41 = .ok (.getfield 150, 3) := by decide +kernel
theorem dX5_readLikely_44 : decode cX5_readLikely 44 = .ok (.isub, 1) := by decide +kernel
theorem dX5_readLikely_45 : decode cX5_readLikely 45 = .ok (.iconst 1, 1) := by decide +kernel
theorem dX5_readLikely_46 : decode cX5_readLikely 46 = .ok (.if_icmp .le 9, 3) := by decide +kernel
theorem dX5_readLikely_49 : decode cX5_readLikely 49 = .ok (.aload_n 0, 1) := by decide +kernel
theorem dX5_readLikely_50 : decode cX5_readLikely 50 = .ok (.iconst 4, 1) := by decide +kernel
theorem dX5_readLikely_51 : decode cX5_readLikely 51 = .ok (.invokevirtual 76, 3) := by decide +kernel
theorem dX5_readLikely_54 : decode cX5_readLikely 54 = .ok (.ireturn, 1) := by decide +kernel
theorem dX5_readLikely_55 : decode cX5_readLikely 55 = .ok (.aload_n 0, 1) := by decide +kernel
theorem dX5_readLikely_56 : decode cX5_readLikely 56 = .ok (.aload_n 0, 1) := by decide +kernel
theorem dX5_readLikely_57 : decode cX5_readLikely 57 = .ok (.getfield 150, 3) := by decide +kernel
theorem dX5_readLikely_60 : decode cX5_readLikely 60 = .ok (.invokevirtual 172, 3) := by decide +kernel
theorem dX5_readLikely_63 : decode cX5_readLikely 63 = .ok (.bipush 97, 2) := by decide +kernel
theorem dX5_readLikely_65 : decode cX5_readLikely 65 = .ok (.isub, 1) := by decide +kernel
theorem dX5_readLikely_66 : decode cX5_readLikely 66 = .ok (.istore_n 1, 1) := by decide +kernel
theorem dX5_readLikely_67 : decode cX5_readLikely 67 = .ok (.iconst 0, 1) := by decide +kernel
theorem dX5_readLikely_68 : decode cX5_readLikely 68 = .ok (.istore_n 2, 1) := by decide +kernel
theorem dX5_readLikely_69 : decode cX5_readLikely 69 = .ok (.iload_n 2, 1) := by decide +kernel
theorem dX5_readLikely_70 : decode cX5_readLikely 70 = .ok (.aload_n 0, 1) := by decide +kernel
theorem dX5_readLikely_71 : decode cX5_readLikely 71 = .ok (.getfield 21, 3) := by decide +kernel
theorem dX5_readLikely_74 : decode cX5_readLikely 74 = .ok (.getfield 179, 3) := by decide +kernel
theorem dX5_readLikely_77 : decode cX5_readLikely 77 = .ok (.if_icmp .ge 27, 3) := by decide +kernel
theorem dX5_readLikely_80 : decode cX5_readLikely 80 = .ok (.aload_n 0, 1) := by decide +kernel
theorem dX5_readLikely_81 : decode cX5_readLikely 81 = .ok (.getfield 21, 3) := by decide +kernel
theorem dX5_readLikely_84 : decode cX5_readLikely 84 = .ok (.iload_n 2, 1) := by decide +kernel
theorem dX5_readLikely_85 : decode cX5_readLikely 85 = .ok (.invokevirtual 182, 3) := by decide +kernel
theorem dX5_readLikely_88 : decode cX5_readLikely 88 = .ok (.iload_n 1, 1) := by decide +kernel
theorem dX5_readLikely_89 : decode cX5_readLikely 89 = .ok (.if_icmp .ne 9, 3) := by decide +kernel
theorem dX5_readLikely_92 : decode cX5_readLikely 92 = .ok (.aload_n 0, 1) := by decide +kernel
theorem dX5_readLikely_93 : decode cX5_readLikely 93 = .ok (.iconst 3, 1) := by decide +kernel
theorem dX5_readLikely_94 : decode cX5_readLikely 94 = .ok (.invokevirtual 76, 3) := by decide +kernel
theorem dX5_readLikely_97 : decode cX5_readLikely 97 = .ok (.ireturn, 1) := by decide +kernel
theorem dX5_readLikely_98 : decode cX5_readLikely 98 = .ok (.iinc 2 1, 3) := by decide +kernel
theorem dX5_readLikely_101 : decode cX5_readLikely 101 = .ok (.goto (-32), 3) := by decide +kernel
theorem dX5_readLikely_104 : decode cX5_readLikely 104 = .ok (.aload_n 0, 1) := by decide +kernel
theorem dX5_readLikely_105 : decode cX5_readLikely 105 = .ok (.invokevirtual 63, 3) := by decide +kernel
theorem dX5_readLikely_108 : decode cX5_readLikely 108 = .ok (.aload_n 0, 1) := by decide +kernel
theorem dX5_readLikely_109 : decode cX5_readLikely 109 = .ok (.iconst 1, 1) := by decide +kernel
theorem dX5_readLikely_110 : decode cX5_readLikely 110 = .ok (.bipush 9, 2) := by decide +kernel
theorem dX5_readLikely_112 : decode cX5_readLikely 112 = .ok (.invokevirtual 120, 3) := by decide +kernel
theorem dX5_readLikely_115 : decode cX5_readLikely 115 = .ok (.ifCond .ne 5, 3) := by decide +kernel
theorem dX5_readLikely_118 : decode cX5_readLikely 118 = .ok (.iconst 0, 1) := by decide +kernel
theorem dX5_readLikely_119 : decode cX5_readLikely 119 = .ok (.ireturn, 1) := by decide +kernel
theorem dX5_readLikely_120 : decode cX5_readLikely 120 = .ok (.aload_n 0, 1) := by decide +kernel
theorem dX5_readLikely_121 : decode cX5_readLikely 121 = .ok (.getfield 21, 3) := by decide +kernel
theorem dX5_readLikely_124 : decode cX5_readLikely 124 = .ok (.iload_n 1, 1) := by decide +kernel
theorem dX5_readLikely_125 : decode cX5_readLikely 125 = .ok (.aload_n 0, 1) := by decide +kernel
theorem dX5_readLikely_126 : decode cX5_readLikely 126 = .ok (.getfield 124, 3) := by decide +kernel
theorem dX5_readLikely_129 : decode cX5_readLikely 129 = .ok (.invokevirtual 185, 3) := by decide +kernel
theorem dX5_readLikely_132 : decode cX5_readLikely 132 = .ok (.iconst 1, 1) := by decide +kernel
theorem dX5_readLikely_133 : decode cX5_readLikely 133 = .ok (.ireturn, 1) := by decide +kernel
theorem dX5_readSeen_0 : decode cX5_readSeen 0 = .ok (.aload_n 0, 1) := by decide +kernel
theorem dX5_readSeen_1 : decode cX5_readSeen 1 = .ok (.getfield 42, 3) := by decide +kernel
theorem dX5_readSeen_4 : decode cX5_readSeen 4 = .ok (.ifCond .eq 9, 3) := by decide +kernel
theorem dX5_readSeen_7 : decode cX5_readSeen 7 = .ok (.aload_n 0, 1) := by decide +kernel
theorem dX5_readSeen_8 : decode cX5_readSeen 8 = .ok (.iconst 3, 1) := by decide +kernel
theorem dX5_readSeen_9 : decode cX5_readSeen 9 = .ok (.invokevirtual 76, 3) := by decide +kernel
theorem dX5_readSeen_12 : decode cX5_readSeen 12 = .ok (.ireturn, 1) := by decide +kernel
theorem dX5_readSeen_13 : decode cX5_readSeen 13 = .ok (.aload_n 0, 1) := by decide +kernel
theorem dX5_readSeen_14 : decode cX5_readSeen 14 = .ok (.iconst 1, 1) := by decide +kernel
theorem dX5_readSeen_15 : decode cX5_readSeen 15 = .ok (.putfield 42, 3) := by decide +kernel
theorem dX5_readSeen_18 : decode cX5_readSeen 18 = .ok (.iconst 0, 1) := by decide +kernel
theorem dX5_readSeen_19 : decode cX5_readSeen 19 = .ok (.istore_n 1, 1) := by decide +kernel
theorem dX5_readSeen_20 : decode cX5_readSeen 20 = .ok (.iload_n 1, 1) := by decide +kernel
theorem dX5_readSeen_21 : decode cX5_readSeen 21 = .ok (.bipush 6, 2) := by decide +kernel
theorem dX5_readSeen_23 : decode cX5_readSeen 23 = .ok (.if_icmp .gt 82, 3) := by decide +kernel
theorem dX5_readSeen_26 : decode cX5_readSeen 26 = .ok (.aload_n 0, 1) := by decide +kernel
theorem dX5_readSeen_27 : decode cX5_readSeen 27 = .ok (.invokevirtual 63, 3) := by decide +kernel
theorem dX5_readSeen_30 : decode cX5_readSeen 30 = .ok (.aload_n 0, 1) := by decide +kernel
theorem dX5_readSeen_31 : decode cX5_readSeen 31 = .ok (.getfield 70, 3) := by decide +kernel
theorem dX5_readSeen_34 : decode cX5_readSeen 34 = .ok (.iconst 1, 1) := by decide +kernel
theorem dX5_readSeen_35 : decode cX5_readSeen 35 = .ok (.if_icmp .eq 9, 3) := by decide +kernel
theorem dX5_readSeen_38 : decode cX5_readSeen 38 = .ok (.aload_n 0, 1) := by decide +kernel
theorem dX5_readSeen_39 : decode cX5_readSeen 39 = .ok (.iconst 1, 1) := by decide +kernel
theorem dX5_readSeen_40 : decode cX5_readSeen 40 = .ok (.invokevirtual 76, 3) := by decide +kernel
theorem dX5_readSeen_43 : decode cX5_readSeen 43 = .ok (.ireturn, 1) := by decide +kernel
theorem dX5_readSeen_44 : decode cX5_readSeen 44 = .ok (.aload_n 0, 1) := by decide +kernel
theorem dX5_readSeen_45 : decode cX5_readSeen 45 = .ok (.invokevirtual 146, 3) := by decide +kernel
theorem dX5_readSeen_48 : decode cX5_readSeen 48 = .ok (.istore_n 2, 1) := by decide +kernel
theorem dX5_readSeen_49 : decode cX5_readSeen 49 = .ok (.iload_n 2, 1) := by decide +kernel
theorem dX5_readSeen_50 : decode cX5_readSeen 50 = .ok (.ifCond .ge 9, 3) := by decide +kernel
theorem dX5_readSeen_53 : decode cX5_readSeen 53 = .ok (.aload_n 0, 1) := by decide +kernel
theorem dX5_readSeen_54 : decode cX5_readSeen 54 = .ok (.iconst 2, 1) := by decide +kernel
theorem dX5_readSeen_55 : decode cX5_readSeen 55 = .ok (.invokevirtual 76, 3) := by decide +kernel
theorem dX5_readSeen_58 : decode cX5_readSeen 58 = .ok (.ireturn, 1) := by decide +kernel
theorem dX5_readSeen_59 : decode cX5_readSeen 59 = .ok (.aload_n 0, 1) := by decide +kernel
theorem dX5_readSeen_60 : decode cX5_readSeen 60 = .ok (.getfield 21, 3) := by decide +kernel
theorem dX5_readSeen_63 : decode cX5_readSeen 63 = .ok (.getfield 188, 3) := by decide +kernel
theorem dX5_readSeen_66 : decode cX5_readSeen 66 = .ok (.bipush 6, 2) := by decide +kernel
theorem dX5_readSeen_68 : decode cX5_readSeen 68 = .ok (.if_icmp .lt 9, 3) := by decide +kernel
theorem dX5_readSeen_71 : decode cX5_readSeen 71 = .ok (.aload_n 0, 1) := by decide +kernel
theorem dX5_readSeen_72 : decode cX5_readSeen 72 = .ok (.iconst 5, 1) := by decide +kernel
theorem dX5_readSeen_73 : decode cX5_readSeen 73 = .ok (.invokevirtual 76, 3) := by decide +kernel
theorem dX5_readSeen_76 : decode cX5_readSeen 76 = .ok (.ireturn, 1) := by decide +kernel
theorem dX5_readSeen_77 : decode cX5_readSeen 77 = .ok (.aload_n 0, 1) := by decide +kernel
theorem dX5_readSeen_78 : decode cX5_readSeen 78 = .ok (.getfield 21, 3) := by decide +kernel
theorem dX5_readSeen_81 : decode cX5_readSeen 81 = .ok (.iload_n 2, 1) := by decide +kernel
theorem dX5_readSeen_82 : decode cX5_readSeen 82 = .ok (.invokevirtual 191, 3) := by decide +kernel
theorem dX5_readSeen_85 : decode cX5_readSeen 85 = .ok (.aload_n 0, 1) := by decide +kernel
theorem dX5_readSeen_86 : decode cX5_readSeen 86 = .ok (.invokevirtual 63, 3) := by decide +kernel
theorem dX5_readSeen_89 : decode cX5_readSeen 89 = .ok (.aload_n 0, 1) := by decide +kernel
theorem dX5_readSeen_90 : decode cX5_readSeen 90 = .ok (.getfield 70, 3) := by decide +kernel
theorem dX5_readSeen_93 : decode cX5_readSeen 93 = .ok (.iconst 4, 1) := by decide +kernel
theorem dX5_readSeen_94 : decode cX5_readSeen 94 = .ok (.if_icmp .eq 5, 3) := by decide +kernel
theorem dX5_readSeen_97 : decode cX5_readSeen 97 = .ok (.iconst 1, 1) := by decide +kernel
theorem dX5_readSeen_98 : decode cX5_readSeen 98 = .ok (.ireturn, 1) := by decide +kernel
theorem dX5_readSeen_99 : decode cX5_readSeen 99 = .ok (.iinc 1 1, 3) := by decide +kernel
theorem dX5_readSeen_102 : decode cX5_readSeen 102 = .ok (.goto (-82), 3) := by decide +kernel
theorem dX5_readSeen_105 : decode cX5_readSeen 105 = .ok (.aload_n 0, 1) := by decide +kernel
theorem dX5_readSeen_106 : decode cX5_readSeen 106 = .ok (.iconst 5, 1) := by decide +kernel
theorem dX5_readSeen_107 : decode cX5_readSeen 107 = .ok (.invokevirtual 76, 3) := by decide +kernel
theorem dX5_readSeen_110 : decode cX5_readSeen 110 = .ok (.ireturn, 1) := by decide +kernel
theorem dX5_readKey_0 : decode cX5_readKey 0 = .ok (.aload_n 0, 1) := by decide +kernel
theorem dX5_readKey_1 : decode cX5_readKey 1 = .ok (.aload_n 1, 1) := by decide +kernel
theorem dX5_readKey_2 : decode cX5_readKey 2 = .ok (.invokevirtual 88, 3) := by decide +kernel
theorem dX5_readKey_5 : decode cX5_readKey 5 = .ok (.ifCond .ne 9, 3) := by decide +kernel
theorem dX5_readKey_8 : decode cX5_readKey 8 = .ok (.aload_n 0, 1) := by decide +kernel
theorem dX5_readKey_9 : decode cX5_readKey 9 = .ok (.iconst 1, 1) := by decide +kernel
theorem dX5_readKey_10 : decode cX5_readKey 10 = .ok (.invokevirtual 76, 3) := by decide +kernel
theorem dX5_readKey_13 : decode cX5_readKey 13 = .ok (.ireturn, 1) := by decide +kernel
theorem dX5_readKey_14 : decode cX5_readKey 14 = .ok (.aload_n 0, 1) := by decide +kernel
theorem dX5_readKey_15 : decode cX5_readKey 15 = .ok (.invokevirtual 63, 3) := by decide +kernel
theorem dX5_readKey_18 : decode cX5_readKey 18 = .ok (.iconst 1, 1) := by decide +kernel
theorem dX5_readKey_19 : decode cX5_readKey 19 = .ok (.ireturn, 1) := by decide +kernel
theorem dX5_readWhole_0 : decode cX5_readWhole 0 = .ok (.aload_n 0, 1) := by decide +kernel
theorem dX5_readWhole_1 : decode cX5_readWhole 1 = .ok (.getfield 70, 3) := by decide +kernel
theorem dX5_readWhole_4 : decode cX5_readWhole 4 = .ok (.iconst 2, 1) := by decide +kernel
theorem dX5_readWhole_5 : decode cX5_readWhole 5 = .ok (.if_icmp .eq 9, 3) := by decide +kernel
theorem dX5_readWhole_8 : decode cX5_readWhole 8 = .ok (.aload_n 0, 1) := by decide +kernel
theorem dX5_readWhole_9 : decode cX5_readWhole 9 = .ok (.iconst 1, 1) := by decide +kernel
theorem dX5_readWhole_10 : decode cX5_readWhole 10 = .ok (.invokevirtual 76, 3) := by decide +kernel
theorem dX5_readWhole_13 : decode cX5_readWhole 13 = .ok (.ireturn, 1) := by decide +kernel
theorem dX5_readWhole_14 : decode cX5_readWhole 14 = .ok (.aload_n 0, 1) := by decide +kernel
theorem dX5_readWhole_15 : decode cX5_readWhole 15 = .ok (.iconst 0, 1) := by decide +kernel
theorem dX5_readWhole_16 : decode cX5_readWhole 16 = .ok (.putfield 124, 3) := by decide +kernel
theorem dX5_readWhole_19 : decode cX5_readWhole 19 = .ok (.aload_n 0, 1) := by decide +kernel
theorem dX5_readWhole_20 : decode cX5_readWhole 20 = .ok (.getfield 150, 3) := by decide +kernel
theorem dX5_readWhole_23 : decode cX5_readWhole 23 = .ok (.istore_n 3, 1) := by decide +kernel
theorem dX5_readWhole_24 : decode cX5_readWhole 24 = .ok (.iload_n 3, 1) := by decide +kernel
theorem dX5_readWhole_25 : decode cX5_readWhole 25 = .ok (.aload_n 0, 1) := by decide +kernel
theorem dX5_readWhole_26 : decode cX5_readWhole 26 = .ok (.getfield 60, 3) := by decide +kernel
theorem dX5_readWhole_29 : decode cX5_readWhole 29 = .ok (.if_icmp .ge 29, 3) := by decide +kernel
theorem dX5_readWhole_32 : decode cX5_readWhole 32 = .ok (.aload_n 0, 1) := by decide +kernel
theorem dX5_readWhole_33 : decode cX5_readWhole 33 = .ok (.aload_n 0, 1) := by decide +kernel
theorem dX5_readWhole_34 : decode cX5_readWhole 34 = .ok (.getfield 124, 3) := by decide +kernel
theorem dX5_readWhole_37 : decode cX5_readWhole 37 = .ok (.bipush 10, 2) := by decide +kernel
theorem dX5_readWhole_39 : decode cX5_readWhole 39 = .ok (.imul, 1) := by decide +kernel
theorem dX5_readWhole_40 : decode cX5_readWhole 40 = .ok (.aload_n 0, 1) := by decide +kernel
theorem dX5_readWhole_41 : decode cX5_readWhole 41 = .ok (.iload_n 3, 1) := by decide +kernel
theorem dX5_readWhole_42 : decode cX5_readWhole 42 = .ok (.invokevirtual 172, 3) := by decide +kernel
theorem dX5_readWhole_45 : decode cX5_readWhole 45 = .ok (.iadd, 1) := by decide +kernel
theorem dX5_readWhole_46 : decode cX5_readWhole 46 = .ok (.bipush 48, 2) := by decide +kernel
theorem dX5_readWhole_48 : decode cX5_readWhole 48 = .ok (.isub, 1) := by decide +kernel
theorem dX5_readWhole_49 : decode cX5_readWhole 49 = .ok (.putfield 124, 3) := by decide +kernel
theorem dX5_readWhole_52 : decode cX5_readWhole 52 = .ok (.iinc 3 1, 3) := by decide +kernel
theorem dX5_readWhole_55 : decode cX5_readWhole 55 = .ok (.goto (-31), 3) := by decide +kernel
theorem dX5_readWhole_58 : decode cX5_readWhole 58 = .ok (.aload_n 0, 1) := by decide +kernel
theorem dX5_readWhole_59 : decode cX5_readWhole 59 = .ok (.getfield 124, 3) := by decide +kernel
theorem dX5_readWhole_62 : decode cX5_readWhole 62 = .ok (.iload_n 1, 1) := by decide +kernel
theorem dX5_readWhole_63 : decode cX5_readWhole 63 = .ok (.if_icmp .lt 11, 3) := by decide +kernel
theorem dX5_readWhole_66 : decode cX5_readWhole 66 = .ok (.aload_n 0, 1) := by decide +kernel
theorem dX5_readWhole_67 : decode cX5_readWhole 67 = .ok (.getfield 124, 3) := by decide +kernel
theorem dX5_readWhole_70 : decode cX5_readWhole 70 = .ok (.iload_n 2, 1) := by decide +kernel
theorem dX5_readWhole_71 : decode cX5_readWhole 71 = .ok (.if_icmp .le 9, 3) := by decide +kernel
theorem dX5_readWhole_74 : decode cX5_readWhole 74 = .ok (.aload_n 0, 1) := by decide +kernel
theorem dX5_readWhole_75 : decode cX5_readWhole 75 = .ok (.iconst 4, 1) := by decide +kernel
theorem dX5_readWhole_76 : decode cX5_readWhole 76 = .ok (.invokevirtual 76, 3) := by decide +kernel
theorem dX5_readWhole_79 : decode cX5_readWhole 79 = .ok (.ireturn, 1) := by decide +kernel
theorem dX5_readWhole_80 : decode cX5_readWhole 80 = .ok (.aload_n 0, 1) := by decide +kernel
theorem dX5_readWhole_81 : decode cX5_readWhole 81 = .ok (.invokevirtual 63, 3) := by decide +kernel
theorem dX5_readWhole_84 : decode cX5_readWhole 84 = .ok (.iconst 1, 1) := by decide +kernel
theorem dX5_readWhole_85 : decode cX5_readWhole 85 = .ok (.ireturn, 1) := by decide +kernel
theorem dX5_fails_0 : decode cX5_fails 0 = .ok (.aload_n 0, 1) := by decide +kernel
theorem dX5_fails_1 : decode cX5_fails 1 = .ok (.iload_n 1, 1) := by decide +kernel
theorem dX5_fails_2 : decode cX5_fails 2 = .ok (.putfield 45, 3) := by decide +kernel
theorem dX5_fails_5 : decode cX5_fails 5 = .ok (.aload_n 0, 1) := by decide +kernel
theorem dX5_fails_6 : decode cX5_fails 6 = .ok (.aload_n 0, 1) := by decide +kernel
theorem dX5_fails_7 : decode cX5_fails 7 = .ok (.getfield 150, 3) := by decide +kernel
theorem dX5_fails_10 : decode cX5_fails 10 = .ok (.putfield 48, 3) := by decide +kernel
theorem dX5_fails_13 : decode cX5_fails 13 = .ok (.iconst 0, 1) := by decide +kernel
theorem dX5_fails_14 : decode cX5_fails 14 = .ok (.ireturn, 1) := by decide +kernel
theorem dX5_reads_0 : decode cX5_reads 0 = .ok (.aload_n 0, 1) := by decide +kernel
theorem dX5_reads_1 : decode cX5_reads 1 = .ok (.getfield 70, 3) := by decide +kernel
theorem dX5_reads_4 : decode cX5_reads 4 = .ok (.iconst 1, 1) := by decide +kernel
theorem dX5_reads_5 : decode cX5_reads 5 = .ok (.if_icmp .ne 19, 3) := by decide +kernel
theorem dX5_reads_8 : decode cX5_reads 8 = .ok (.aload_n 0, 1) := by decide +kernel
theorem dX5_reads_9 : decode cX5_reads 9 = .ok (.getfield 60, 3) := by decide +kernel
theorem dX5_reads_12 : decode cX5_reads 12 = .ok (.aload_n 0, 1) := by decide +kernel
theorem dX5_reads_13 : decode cX5_reads 13 = .ok (.getfield 150, 3) := by decide +kernel
theorem dX5_reads_16 : decode cX5_reads 16 = .ok (.isub, 1) := by decide +kernel
theorem dX5_reads_17 : decode cX5_reads 17 = .ok (.aload_n 1, 1) := by decide +kernel
theorem dX5_reads_18 : decode cX5_reads 18 = .ok (.invokevirtual 194, 3) := by decide +kernel
theorem dX5_reads_21 : decode cX5_reads 21 = .ok (.if_icmp .eq 5, 3) := by decide +kernel
theorem dX5_reads_24 : decode cX5_reads 24 = .ok (.iconst 0, 1) := by decide +kernel
theorem dX5_reads_25 : decode cX5_reads 25 = .ok (.ireturn, 1) := by decide +kernel
theorem dX5_reads_26 : decode cX5_reads 26 = .ok (.iconst 0, 1) := by decide +kernel
theorem dX5_reads_27 : decode cX5_reads 27 = .ok (.istore_n 2, 1) := by decide +kernel
theorem dX5_reads_28 : decode cX5_reads 28 = .ok (.iload_n 2, 1) := by decide +kernel
theorem dX5_reads_29 : decode cX5_reads 29 = .ok (.aload_n 1, 1) := by decide +kernel
theorem dX5_reads_30 : decode cX5_reads 30 = .ok (.invokevirtual 194, 3) := by decide +kernel
theorem dX5_reads_33 : decode cX5_reads 33 = .ok (.if_icmp .ge 29, 3) := by decide +kernel
theorem dX5_reads_36 : decode cX5_reads 36 = .ok (.aload_n 0, 1) := by decide +kernel
theorem dX5_reads_37 : decode cX5_reads 37 = .ok (.aload_n 0, 1) := by decide +kernel
theorem dX5_reads_38 : decode cX5_reads 38 = .ok (.getfield 150, 3) := by decide +kernel
theorem dX5_reads_41 : decode cX5_reads 41 = .ok (.iload_n 2, 1) := by decide +kernel
theorem dX5_reads_42 : decode cX5_reads 42 = .ok (.iadd, 1) := by decide +kernel
theorem dX5_reads_43 : decode cX5_reads 43 = .ok (.invokevirtual 172, 3) := by decide +kernel
theorem dX5_reads_46 : decode cX5_reads 46 = .ok (.aload_n 1, 1) := by decide +kernel
theorem dX5_reads_47 : decode cX5_reads 47 = .ok (.iload_n 2, 1) := by decide +kernel
theorem dX5_reads_48 : decode cX5_reads 48 = .ok (.invokevirtual 199, 3) := by decide +kernel
theorem dX5_reads_51 : decode cX5_reads 51 = .ok (.if_icmp .eq 5, 3) := by decide +kernel
theorem dX5_reads_54 : decode cX5_reads 54 = .ok (.iconst 0, 1) := by decide +kernel
theorem dX5_reads_55 : decode cX5_reads 55 = .ok (.ireturn, 1) := by decide +kernel
theorem dX5_reads_56 : decode cX5_reads 56 = .ok (.iinc 2 1, 3) := by decide +kernel
theorem dX5_reads_59 : decode cX5_reads 59 = .ok (.goto (-31), 3) := by decide +kernel
theorem dX5_reads_62 : decode cX5_reads 62 = .ok (.iconst 1, 1) := by decide +kernel
theorem dX5_reads_63 : decode cX5_reads 63 = .ok (.ireturn, 1) := by decide +kernel
theorem dX5_toldWord_0 : decode cX5_toldWord 0 = .ok (.iconst 0, 1) := by decide +kernel
theorem dX5_toldWord_1 : decode cX5_toldWord 1 = .ok (.istore_n 1, 1) := by decide +kernel
theorem dX5_toldWord_2 : decode cX5_toldWord 2 = .ok (.iload_n 1, 1) := by decide +kernel
theorem dX5_toldWord_3 : decode cX5_toldWord 3 = .ok (.aload_n 0, 1) := by decide +kernel
theorem dX5_toldWord_4 : decode cX5_toldWord 4 = .ok (.getfield 21, 3) := by decide +kernel
theorem dX5_toldWord_7 : decode cX5_toldWord 7 = .ok (.getfield 80, 3) := by decide +kernel
theorem dX5_toldWord_10 : decode cX5_toldWord 10 = .ok (.if_icmp .ge 19, 3) := by decide +kernel
theorem dX5_toldWord_13 : decode cX5_toldWord 13 = .ok (.aload_n 0, 1) := by decide +kernel
theorem dX5_toldWord_14 : decode cX5_toldWord 14 = .ok (.iload_n 1, 1) := by decide +kernel
theorem dX5_toldWord_15 : decode cX5_toldWord 15 = .ok (.invokevirtual 203, 3) := by decide +kernel
theorem dX5_toldWord_18 : decode cX5_toldWord 18 = .ok (.ifCond .eq 5, 3) := by decide +kernel
theorem dX5_toldWord_21 : decode cX5_toldWord 21 = .ok (.iload_n 1, 1) := by decide +kernel
theorem dX5_toldWord_22 : decode cX5_toldWord 22 = .ok (.ireturn, 1) := by decide +kernel
theorem dX5_toldWord_23 : decode cX5_toldWord 23 = .ok (.iinc 1 1, 3) := by decide +kernel
theorem dX5_toldWord_26 : decode cX5_toldWord 26 = .ok (.goto (-24), 3) := by decide +kernel
theorem dX5_toldWord_29 : decode cX5_toldWord 29 = .ok (.iconst (-1), 1) := by decide +kernel
theorem dX5_toldWord_30 : decode cX5_toldWord 30 = .ok (.ireturn, 1) := by decide +kernel
theorem dX5_isWordHere_0 : decode cX5_isWordHere 0 = .ok (.aload_n 0, 1) := by decide +kernel
theorem dX5_isWordHere_1 : decode cX5_isWordHere 1 = .ok (.getfield 21, 3) := by decide +kernel
theorem dX5_isWordHere_4 : decode cX5_isWordHere 4 = .ok (.iload_n 1, 1) := by decide +kernel
theorem dX5_isWordHere_5 : decode cX5_isWordHere 5 = .ok (.invokevirtual 206, 3) := by decide +kernel
theorem dX5_isWordHere_8 : decode cX5_isWordHere 8 = .ok (.aload_n 0, 1) := by decide +kernel
theorem dX5_isWordHere_9 : decode cX5_isWordHere 9 = .ok (.getfield 60, 3) := by decide +kernel
theorem dX5_isWordHere_12 : decode cX5_isWordHere 12 = .ok (.aload_n 0, 1) := by decide +kernel
theorem dX5_isWordHere_13 : decode cX5_isWordHere 13 = .ok (.getfield 150, 3) := by decide +kernel
theorem dX5_isWordHere_16 : decode cX5_isWordHere 16 = .ok (.isub, 1) := by decide +kernel
theorem dX5_isWordHere_17 : decode cX5_isWordHere 17 = .ok (.if_icmp .eq 5, 3) := by decide +kernel
theorem dX5_isWordHere_20 : decode cX5_isWordHere 20 = .ok (.iconst 0, 1) := by decide +kernel
theorem dX5_isWordHere_21 : decode cX5_isWordHere 21 = .ok (.ireturn, 1) := by decide +kernel
theorem dX5_isWordHere_22 : decode cX5_isWordHere 22 = .ok (.aload_n 0, 1) := by decide +kernel
theorem dX5_isWordHere_23 : decode cX5_isWordHere 23 = .ok (.getfield 150, 3) := by decide +kernel
theorem dX5_isWordHere_26 : decode cX5_isWordHere 26 = .ok (.istore_n 2, 1) := by decide +kernel
theorem dX5_isWordHere_27 : decode cX5_isWordHere 27 = .ok (.iload_n 2, 1) := by decide +kernel
theorem dX5_isWordHere_28 : decode cX5_isWordHere 28 = .ok (.aload_n 0, 1) := by decide +kernel
theorem dX5_isWordHere_29 : decode cX5_isWordHere 29 = .ok (.getfield 60, 3) := by decide +kernel
theorem dX5_isWordHere_32 : decode cX5_isWordHere 32 = .ok (.if_icmp .ge 36, 3) := by decide +kernel
theorem dX5_isWordHere_35 : decode cX5_isWordHere 35 = .ok (.aload_n 0, 1) := by decide +kernel
theorem dX5_isWordHere_36 : decode cX5_isWordHere 36 = .ok (.getfield 21, 3) := by decide +kernel
theorem dX5_isWordHere_39 : decode cX5_isWordHere 39 = .ok (.iload_n 1, 1) := by decide +kernel
theorem dX5_isWordHere_40 : decode cX5_isWordHere 40 = .ok (.iload_n 2, 1) := by decide +kernel
theorem dX5_isWordHere_41 : decode cX5_isWordHere 41 = .ok (.aload_n 0, 1) := by decide +kernel
theorem dX5_isWordHere_42 : decode cX5_isWordHere 42 = .ok (.getfield 150, 3) := by decide +kernel
theorem dX5_isWordHere_45 : decode cX5_isWordHere 45 = .ok (.isub, 1) := by decide +kernel
theorem dX5_isWordHere_46 : decode cX5_isWordHere 46 = .ok (.invokevirtual 209, 3) := by decide +kernel
theorem dX5_isWordHere_49 : decode cX5_isWordHere 49 = .ok (.aload_n 0, 1) := by decide +kernel
theorem dX5_isWordHere_50 : decode cX5_isWordHere 50 = .ok (.iload_n 2, 1) := by decide +kernel
theorem dX5_isWordHere_51 : decode cX5_isWordHere 51 = .ok (.invokevirtual 172, 3) := by decide +kernel
theorem dX5_isWordHere_54 : decode cX5_isWordHere 54 = .ok (.bipush 97, 2) := by decide +kernel
theorem dX5_isWordHere_56 : decode cX5_isWordHere 56 = .ok (.isub, 1) := by decide +kernel
theorem dX5_isWordHere_57 : decode cX5_isWordHere 57 = .ok (.if_icmp .eq 5, 3) := by decide +kernel
theorem dX5_isWordHere_60 : decode cX5_isWordHere 60 = .ok (.iconst 0, 1) := by decide +kernel
theorem dX5_isWordHere_61 : decode cX5_isWordHere 61 = .ok (.ireturn, 1) := by decide +kernel
theorem dX5_isWordHere_62 : decode cX5_isWordHere 62 = .ok (.iinc 2 1, 3) := by decide +kernel
theorem dX5_isWordHere_65 : decode cX5_isWordHere 65 = .ok (.goto (-38), 3) := by decide +kernel
theorem dX5_isWordHere_68 : decode cX5_isWordHere 68 = .ok (.iconst 1, 1) := by decide +kernel
theorem dX5_isWordHere_69 : decode cX5_isWordHere 69 = .ok (.ireturn, 1) := by decide +kernel
theorem dX5_isNamed_0 : decode cX5_isNamed 0 = .ok (.iconst 0, 1) := by decide +kernel
theorem dX5_isNamed_1 : decode cX5_isNamed 1 = .ok (.istore_n 1, 1) := by decide +kernel
theorem dX5_isNamed_2 : decode cX5_isNamed 2 = .ok (.iload_n 1, 1) := by decide +kernel
theorem dX5_isNamed_3 : decode cX5_isNamed 3 = .ok (.aload_n 0, 1) := by decide +kernel
theorem dX5_isNamed_4 : decode cX5_isNamed 4 = .ok (.getfield 21, 3) := by decide +kernel
theorem dX5_isNamed_7 : decode cX5_isNamed 7 = .ok (.getfield 83, 3) := by decide +kernel
theorem dX5_isNamed_10 : decode cX5_isNamed 10 = .ok (.if_icmp .ge 36, 3) := by decide +kernel
theorem dX5_isNamed_13 : decode cX5_isNamed 13 = .ok (.iload_n 1, 1) := by decide +kernel
theorem dX5_isNamed_14 : decode cX5_isNamed 14 = .ok (.bipush 8, 2) := by decide +kernel
theorem dX5_isNamed_16 : decode cX5_isNamed 16 = .ok (.if_icmp .ge 30, 3) := by decide +kernel
theorem dX5_isNamed_19 : decode cX5_isNamed 19 = .ok (.aload_n 0, 1) := by decide +kernel
theorem dX5_isNamed_20 : decode cX5_isNamed 20 = .ok (.aload_n 0, 1) := by decide +kernel
theorem dX5_isNamed_21 : decode cX5_isNamed 21 = .ok (.getfield 15, 3) := by decide +kernel
theorem dX5_isNamed_24 : decode cX5_isNamed 24 = .ok (.iload_n 1, 1) := by decide +kernel
theorem dX5_isNamed_25 : decode cX5_isNamed 25 = .ok (.iaload, 1) := by decide +kernel
theorem dX5_isNamed_26 : decode cX5_isNamed 26 = .ok (.aload_n 0, 1) := by decide +kernel
theorem dX5_isNamed_27 : decode cX5_isNamed 27 = .ok (.getfield 18, 3) := by decide +kernel
theorem dX5_isNamed_30 : decode cX5_isNamed 30 = .ok (.iload_n 1, 1) := by decide +kernel
theorem dX5_isNamed_31 : decode cX5_isNamed 31 = .ok (.iaload, 1) := by decide +kernel
theorem dX5_isNamed_32 : decode cX5_isNamed 32 = .ok (.invokevirtual 212, 3) := by decide +kernel
theorem dX5_isNamed_35 : decode cX5_isNamed 35 = .ok (.ifCond .eq 5, 3) := by decide +kernel
theorem dX5_isNamed_38 : decode cX5_isNamed 38 = .ok (.iconst 1, 1) := by decide +kernel
theorem dX5_isNamed_39 : decode cX5_isNamed 39 = .ok (.ireturn, 1) := by decide +kernel
theorem dX5_isNamed_40 : decode cX5_isNamed 40 = .ok (.iinc 1 1, 3) := by decide +kernel
theorem dX5_isNamed_43 : decode cX5_isNamed 43 = .ok (.goto (-41), 3) := by decide +kernel
theorem dX5_isNamed_46 : decode cX5_isNamed 46 = .ok (.iconst 0, 1) := by decide +kernel
theorem dX5_isNamed_47 : decode cX5_isNamed 47 = .ok (.ireturn, 1) := by decide +kernel
theorem dX5_isNameHere_0 : decode cX5_isNameHere 0 = .ok (.iload_n 2, 1) := by decide +kernel
theorem dX5_isNameHere_1 : decode cX5_isNameHere 1 = .ok (.iload_n 1, 1) := by decide +kernel
theorem dX5_isNameHere_2 : decode cX5_isNameHere 2 = .ok (.isub, 1) := by decide +kernel
theorem dX5_isNameHere_3 : decode cX5_isNameHere 3 = .ok (.aload_n 0, 1) := by decide +kernel
theorem dX5_isNameHere_4 : decode cX5_isNameHere 4 = .ok (.getfield 60, 3) := by decide +kernel
theorem dX5_isNameHere_7 : decode cX5_isNameHere 7 = .ok (.aload_n 0, 1) := by decide +kernel
theorem dX5_isNameHere_8 : decode cX5_isNameHere 8 = .ok (.getfield 150, 3) := by decide +kernel
theorem dX5_isNameHere_11 : decode cX5_isNameHere 11 = .ok (.isub, 1) := by decide +kernel
theorem dX5_isNameHere_12 : decode cX5_isNameHere 12 = .ok (.if_icmp .eq 5, 3) := by decide +kernel
theorem dX5_isNameHere_15 : decode cX5_isNameHere 15 = .ok (.iconst 0, 1) := by decide +kernel
theorem dX5_isNameHere_16 : decode cX5_isNameHere 16 = .ok (.ireturn, 1) := by decide +kernel
theorem dX5_isNameHere_17 : decode cX5_isNameHere 17 = .ok (.iload_n 1, 1) := by decide +kernel
theorem dX5_isNameHere_18 : decode cX5_isNameHere 18 = .ok (.istore_n 3, 1) := by decide +kernel
theorem dX5_isNameHere_19 : decode cX5_isNameHere 19 = .ok (.iload_n 3, 1) := by decide +kernel
theorem dX5_isNameHere_20 : decode cX5_isNameHere 20 = .ok (.iload_n 2, 1) := by decide +kernel
theorem dX5_isNameHere_21 : decode cX5_isNameHere 21 = .ok (.if_icmp .ge 31, 3) := by decide +kernel
theorem dX5_isNameHere_24 : decode cX5_isNameHere 24 = .ok (.aload_n 0, 1) := by decide +kernel
theorem dX5_isNameHere_25 : decode cX5_isNameHere 25 = .ok (.iload_n 3, 1) := by decide +kernel
theorem dX5_isNameHere_26 : decode cX5_isNameHere 26 = .ok (.invokevirtual 172, 3) := by decide +kernel
theorem dX5_isNameHere_29 : decode cX5_isNameHere 29 = .ok (.aload_n 0, 1) := by decide +kernel
theorem dX5_isNameHere_30 : decode cX5_isNameHere 30 = .ok (.aload_n 0, 1) := by decide +kernel
theorem dX5_isNameHere_31 : decode cX5_isNameHere 31 = .ok (.getfield 150, 3) := by decide +kernel
theorem dX5_isNameHere_34 : decode cX5_isNameHere 34 = .ok (.iload_n 3, 1) := by decide +kernel
theorem dX5_isNameHere_35 : decode cX5_isNameHere 35 = .ok (.iadd, 1) := by decide +kernel
theorem dX5_isNameHere_36 : decode cX5_isNameHere 36 = .ok (.iload_n 1, 1) := by decide +kernel
theorem dX5_isNameHere_37 : decode cX5_isNameHere 37 = .ok (.isub, 1) := by decide +kernel
theorem dX5_isNameHere_38 : decode cX5_isNameHere 38 = .ok (.invokevirtual 172, 3) := by decide +kernel
theorem dX5_isNameHere_41 : decode cX5_isNameHere 41 = .ok (.if_icmp .eq 5, 3) := by decide +kernel
theorem dX5_isNameHere_44 : decode cX5_isNameHere 44 = .ok (.iconst 0, 1) := by decide +kernel
theorem dX5_isNameHere_45 : decode cX5_isNameHere 45 = .ok (.ireturn, 1) := by decide +kernel
theorem dX5_isNameHere_46 : decode cX5_isNameHere 46 = .ok (.iinc 3 1, 3) := by decide +kernel
theorem dX5_isNameHere_49 : decode cX5_isNameHere 49 = .ok (.goto (-30), 3) := by decide +kernel
theorem dX5_isNameHere_52 : decode cX5_isNameHere 52 = .ok (.iconst 1, 1) := by decide +kernel
theorem dX5_isNameHere_53 : decode cX5_isNameHere 53 = .ok (.ireturn, 1) := by decide +kernel
theorem dX5_next_0 : decode cX5_next 0 = .ok (.aload_n 0, 1) := by decide +kernel
theorem dX5_next_1 : decode cX5_next 1 = .ok (.aload_n 0, 1) := by decide +kernel
theorem dX5_next_2 : decode cX5_next 2 = .ok (.getfield 60, 3) := by decide +kernel
theorem dX5_next_5 : decode cX5_next 5 = .ok (.putfield 150, 3) := by decide +kernel
theorem dX5_next_8 : decode cX5_next 8 = .ok (.aload_n 0, 1) := by decide +kernel
theorem dX5_next_9 : decode cX5_next 9 = .ok (.getfield 150, 3) := by decide +kernel
theorem dX5_next_12 : decode cX5_next 12 = .ok (.aload_n 0, 1) := by decide +kernel
theorem dX5_next_13 : decode cX5_next 13 = .ok (.getfield 57, 3) := by decide +kernel
theorem dX5_next_16 : decode cX5_next 16 = .ok (.if_icmp .ge 29, 3) := by decide +kernel
theorem dX5_next_19 : decode cX5_next 19 = .ok (.aload_n 0, 1) := by decide +kernel
theorem dX5_next_20 : decode cX5_next 20 = .ok (.aload_n 0, 1) := by decide +kernel
theorem dX5_next_21 : decode cX5_next 21 = .ok (.getfield 150, 3) := by decide +kernel
theorem dX5_next_24 : decode cX5_next 24 = .ok (.invokevirtual 172, 3) := by decide +kernel
theorem dX5_next_27 : decode cX5_next 27 = .ok (.bipush 32, 2) := by decide +kernel
theorem dX5_next_29 : decode cX5_next 29 = .ok (.if_icmp .ne 16, 3) := by decide +kernel
theorem dX5_next_32 : decode cX5_next 32 = .ok (.aload_n 0, 1) := by decide +kernel
theorem dX5_next_33 : decode cX5_next 33 = .ok (.dup, 1) := by decide +kernel
theorem dX5_next_34 : decode cX5_next 34 = .ok (.getfield 150, 3) := by decide +kernel
theorem dX5_next_37 : decode cX5_next 37 = .ok (.iconst 1, 1) := by decide +kernel
theorem dX5_next_38 : decode cX5_next 38 = .ok (.iadd, 1) := by decide +kernel
theorem dX5_next_39 : decode cX5_next 39 = .ok (.putfield 150, 3) := by decide +kernel
theorem dX5_next_42 : decode cX5_next 42 = .ok (.goto (-34), 3) := by decide +kernel
theorem dX5_next_45 : decode cX5_next 45 = .ok (.aload_n 0, 1) := by decide +kernel
theorem dX5_next_46 : decode cX5_next 46 = .ok (.aload_n 0, 1) := by decide +kernel
theorem dX5_next_47 : decode cX5_next 47 = .ok (.getfield 150, 3) := by decide +kernel
theorem dX5_next_50 : decode cX5_next 50 = .ok (.iconst 1, 1) := by decide +kernel
theorem dX5_next_51 : decode cX5_next 51 = .ok (.iadd, 1) := by decide +kernel
theorem dX5_next_52 : decode cX5_next 52 = .ok (.putfield 60, 3) := by decide +kernel
theorem dX5_next_55 : decode cX5_next 55 = .ok (.aload_n 0, 1) := by decide +kernel
theorem dX5_next_56 : decode cX5_next 56 = .ok (.aload_n 0, 1) := by decide +kernel
theorem dX5_next_57 : decode cX5_next 57 = .ok (.getfield 150, 3) := by decide +kernel
theorem dX5_next_60 : decode cX5_next 60 = .ok (.invokevirtual 172, 3) := by decide +kernel
theorem dX5_next_63 : decode cX5_next 63 = .ok (.istore_n 1, 1) := by decide +kernel
theorem dX5_next_64 : decode cX5_next 64 = .ok (.aload_n 0, 1) := by decide +kernel
theorem dX5_next_65 : decode cX5_next 65 = .ok (.getfield 150, 3) := by decide +kernel
theorem dX5_next_68 : decode cX5_next 68 = .ok (.aload_n 0, 1) := by decide +kernel
theorem dX5_next_69 : decode cX5_next 69 = .ok (.getfield 57, 3) := by decide +kernel
theorem dX5_next_72 : decode cX5_next 72 = .ok (.if_icmp .lt 19, 3) := by decide +kernel
theorem dX5_next_75 : decode cX5_next 75 = .ok (.aload_n 0, 1) := by decide +kernel
theorem dX5_next_76 : decode cX5_next 76 = .ok (.aload_n 0, 1) := by decide +kernel
theorem dX5_next_77 : decode cX5_next 77 = .ok (.getfield 150, 3) := by decide +kernel
theorem dX5_next_80 : decode cX5_next 80 = .ok (.putfield 60, 3) := by decide +kernel
theorem dX5_next_83 : decode cX5_next 83 = .ok (.aload_n 0, 1) := by decide +kernel
theorem dX5_next_84 : decode cX5_next 84 = .ok (.iconst 0, 1) := by decide +kernel
theorem dX5_next_85 : decode cX5_next 85 = .ok (.putfield 70, 3) := by decide +kernel
theorem dX5_next_88 : decode cX5_next 88 = .ok (.goto 135, 3) := by decide +kernel
theorem dX5_next_91 : decode cX5_next 91 = .ok (.iload_n 1, 1) := by decide +kernel
theorem dX5_next_92 : decode cX5_next 92 = .ok (.bipush 59, 2) := by decide +kernel
theorem dX5_next_94 : decode cX5_next 94 = .ok (.if_icmp .ne 11, 3) := by decide +kernel
theorem dX5_next_97 : decode cX5_next 97 = .ok (.aload_n 0, 1) := by decide +kernel
theorem dX5_next_98 : decode cX5_next 98 = .ok (.iconst 3, 1) := by decide +kernel
theorem dX5_next_99 : decode cX5_next 99 = .ok (.putfield 70, 3) := by decide +kernel
theorem dX5_next_102 : decode cX5_next 102 = .ok (.goto 121, 3) := by decide +kernel
theorem dX5_next_105 : decode cX5_next 105 = .ok (.iload_n 1, 1) := by decide +kernel
theorem dX5_next_106 : decode cX5_next 106 = .ok (.bipush 44, 2) := by decide +kernel
theorem dX5_next_108 : decode cX5_next 108 = .ok (.if_icmp .ne 11, 3) := by decide +kernel
theorem dX5_next_111 : decode cX5_next 111 = .ok (.aload_n 0, 1) := by decide +kernel
theorem dX5_next_112 : decode cX5_next 112 = .ok (.iconst 4, 1) := by decide +kernel
theorem dX5_next_113 : decode cX5_next 113 = .ok (.putfield 70, 3) := by decide +kernel
theorem dX5_next_116 : decode cX5_next 116 = .ok (.goto 107, 3) := by decide +kernel
theorem dX5_next_119 : decode cX5_next 119 = .ok (.iload_n 1, 1) := by decide +kernel
theorem dX5_next_120 : decode cX5_next 120 = .ok (.bipush 97, 2) := by decide +kernel
theorem dX5_next_122 : decode cX5_next 122 = .ok (.if_icmp .lt 47, 3) := by decide +kernel
theorem dX5_next_125 : decode cX5_next 125 = .ok (.iload_n 1, 1) := by decide +kernel
theorem dX5_next_126 : decode cX5_next 126 = .ok (.bipush 122, 2) := by decide +kernel
theorem dX5_next_128 : decode cX5_next 128 = .ok (.if_icmp .gt 41, 3) := by decide +kernel
theorem dX5_next_131 : decode cX5_next 131 = .ok (.aload_n 0, 1) := by decide +kernel
theorem dX5_next_132 : decode cX5_next 132 = .ok (.aload_n 0, 1) := by decide +kernel
theorem dX5_next_133 : decode cX5_next 133 = .ok (.bipush 97, 2) := by decide +kernel
theorem dX5_next_135 : decode cX5_next 135 = .ok (.bipush 122, 2) := by decide +kernel
theorem dX5_next_137 : decode cX5_next 137 = .ok (.invokevirtual 215, 3) := by decide +kernel
theorem dX5_next_140 : decode cX5_next 140 = .ok (.putfield 60, 3) := by decide +kernel
theorem dX5_next_143 : decode cX5_next 143 = .ok (.aload_n 0, 1) := by decide +kernel
theorem dX5_next_144 : decode cX5_next 144 = .ok (.aload_n 0, 1) := by decide +kernel
theorem dX5_next_145 : decode cX5_next 145 = .ok (.getfield 60, 3) := by decide +kernel
theorem dX5_next_148 : decode cX5_next 148 = .ok (.aload_n 0, 1) := by decide +kernel
theorem dX5_next_149 : decode cX5_next 149 = .ok (.getfield 150, 3) := by decide +kernel
theorem dX5_next_152 : decode cX5_next 152 = .ok (.isub, 1) := by decide +kernel
theorem dX5_next_153 : decode cX5_next 153 = .ok (.bipush 8, 2) := by decide +kernel
theorem dX5_next_155 : decode cX5_next 155 = .ok (.if_icmp .gt 7, 3) := by decide +kernel
theorem dX5_next_158 : decode cX5_next 158 = .ok (.iconst 1, 1) := by decide +kernel
theorem dX5_next_159 : decode cX5_next 159 = .ok (.goto 4, 3) := by decide +kernel
theorem dX5_next_162 : decode cX5_next 162 = .ok (.iconst 5, 1) := by decide +kernel
theorem dX5_next_163 : decode cX5_next 163 = .ok (.putfield 70, 3) := by decide +kernel
theorem dX5_next_166 : decode cX5_next 166 = .ok (.goto 57, 3) := by decide +kernel
theorem dX5_next_169 : decode cX5_next 169 = .ok (.iload_n 1, 1) := by decide +kernel
theorem dX5_next_170 : decode cX5_next 170 = .ok (.bipush 48, 2) := by decide +kernel
theorem dX5_next_172 : decode cX5_next 172 = .ok (.if_icmp .lt 46, 3) := by decide +kernel
theorem dX5_next_175 : decode cX5_next 175 = .ok (.iload_n 1, 1) := by decide +kernel
theorem dX5_next_176 : decode cX5_next 176 = .ok (.bipush 57, 2) := by decide +kernel
theorem dX5_next_178 : decode cX5_next 178 = .ok (.if_icmp .gt 40, 3) := by decide +kernel
theorem dX5_next_181 : decode cX5_next 181 = .ok (.aload_n 0, 1) := by decide +kernel
theorem dX5_next_182 : decode cX5_next 182 = .ok (.aload_n 0, 1) := by decide +kernel
theorem dX5_next_183 : decode cX5_next 183 = .ok (.bipush 48, 2) := by decide +kernel
theorem dX5_next_185 : decode cX5_next 185 = .ok (.bipush 57, 2) := by decide +kernel
theorem dX5_next_187 : decode cX5_next 187 = .ok (.invokevirtual 215, 3) := by decide +kernel
theorem dX5_next_190 : decode cX5_next 190 = .ok (.putfield 60, 3) := by decide +kernel
theorem dX5_next_193 : decode cX5_next 193 = .ok (.aload_n 0, 1) := by decide +kernel
theorem dX5_next_194 : decode cX5_next 194 = .ok (.aload_n 0, 1) := by decide +kernel
theorem dX5_next_195 : decode cX5_next 195 = .ok (.getfield 60, 3) := by decide +kernel
theorem dX5_next_198 : decode cX5_next 198 = .ok (.aload_n 0, 1) := by decide +kernel
theorem dX5_next_199 : decode cX5_next 199 = .ok (.getfield 150, 3) := by decide +kernel
theorem dX5_next_202 : decode cX5_next 202 = .ok (.isub, 1) := by decide +kernel
theorem dX5_next_203 : decode cX5_next 203 = .ok (.iconst 3, 1) := by decide +kernel
theorem dX5_next_204 : decode cX5_next 204 = .ok (.if_icmp .gt 7, 3) := by decide +kernel
theorem dX5_next_207 : decode cX5_next 207 = .ok (.iconst 2, 1) := by decide +kernel
theorem dX5_next_208 : decode cX5_next 208 = .ok (.goto 4, 3) := by decide +kernel
theorem dX5_next_211 : decode cX5_next 211 = .ok (.iconst 5, 1) := by decide +kernel
theorem dX5_next_212 : decode cX5_next 212 = .ok (.putfield 70, 3) := by decide +kernel
theorem dX5_next_215 : decode cX5_next 215 = .ok (.goto 8, 3) := by decide +kernel
theorem dX5_next_218 : decode cX5_next 218 = .ok (.aload_n 0, 1) := by decide +kernel
theorem dX5_next_219 : decode cX5_next 219 = .ok (.iconst 5, 1) := by decide +kernel
theorem dX5_next_220 : decode cX5_next 220 = .ok (.putfield 70, 3) := by decide +kernel
theorem dX5_next_223 : decode cX5_next 223 = .ok (.return_, 1) := by decide +kernel
theorem dX5_runEnd_0 : decode cX5_runEnd 0 = .ok (.aload_n 0, 1) := by decide +kernel
theorem dX5_runEnd_1 : decode cX5_runEnd 1 = .ok (.getfield 150, 3) := by decide +kernel
theorem dX5_runEnd_4 : decode cX5_runEnd 4 = .ok (.istore_n 3, 1) := by decide +kernel
theorem dX5_runEnd_5 : decode cX5_runEnd 5 = .ok (.iload_n 3, 1) := by decide +kernel
theorem dX5_runEnd_6 : decode cX5_runEnd 6 = .ok (.aload_n 0, 1) := by decide +kernel
theorem dX5_runEnd_7 : decode cX5_runEnd 7 = .ok (.getfield 57, 3) := by decide +kernel
theorem dX5_runEnd_10 : decode cX5_runEnd 10 = .ok (.if_icmp .ge 27, 3) := by decide +kernel
theorem dX5_runEnd_13 : decode cX5_runEnd 13 = .ok (.aload_n 0, 1) := by decide +kernel
theorem dX5_runEnd_14 : decode cX5_runEnd 14 = .ok (.iload_n 3, 1) := by decide +kernel
theorem dX5_runEnd_15 : decode cX5_runEnd 15 = .ok (.invokevirtual 172, 3) := by decide +kernel
theorem dX5_runEnd_18 : decode cX5_runEnd 18 = .ok (.iload_n 1, 1) := by decide +kernel
theorem dX5_runEnd_19 : decode cX5_runEnd 19 = .ok (.if_icmp .lt 18, 3) := by decide +kernel
theorem dX5_runEnd_22 : decode cX5_runEnd 22 = .ok (.aload_n 0, 1) := by decide +kernel
theorem dX5_runEnd_23 : decode cX5_runEnd 23 = .ok (.iload_n 3, 1) := by decide +kernel
theorem dX5_runEnd_24 : decode cX5_runEnd 24 = .ok (.invokevirtual 172, 3) := by decide +kernel
theorem dX5_runEnd_27 : decode cX5_runEnd 27 = .ok (.iload_n 2, 1) := by decide +kernel
theorem dX5_runEnd_28 : decode cX5_runEnd 28 = .ok (.if_icmp .gt 9, 3) := by decide +kernel
theorem dX5_runEnd_31 : decode cX5_runEnd 31 = .ok (.iinc 3 1, 3) := by decide +kernel
theorem dX5_runEnd_34 : decode cX5_runEnd 34 = .ok (.goto (-29), 3) := by decide +kernel
theorem dX5_runEnd_37 : decode cX5_runEnd 37 = .ok (.iload_n 3, 1) := by decide +kernel
theorem dX5_runEnd_38 : decode cX5_runEnd 38 = .ok (.ireturn, 1) := by decide +kernel
theorem dX5_byteAt_0 : decode cX5_byteAt 0 = .ok (.iload_n 1, 1) := by decide +kernel
theorem dX5_byteAt_1 : decode cX5_byteAt 1 = .ok (.ifCond .lt 19, 3) := by decide +kernel
theorem dX5_byteAt_4 : decode cX5_byteAt 4 = .ok (.iload_n 1, 1) := by decide +kernel
theorem dX5_byteAt_5 : decode cX5_byteAt 5 = .ok (.sipush 900, 3) := by decide +kernel
theorem dX5_byteAt_8 : decode cX5_byteAt 8 = .ok (.if_icmp .ge 12, 3) := by decide +kernel
theorem dX5_byteAt_11 : decode cX5_byteAt 11 = .ok (.aload_n 0, 1) := by decide +kernel
theorem dX5_byteAt_12 : decode cX5_byteAt 12 = .ok (.getfield 9, 3) := by decide +kernel
theorem dX5_byteAt_15 : decode cX5_byteAt 15 = .ok (.iload_n 1, 1) := by decide +kernel
theorem dX5_byteAt_16 : decode cX5_byteAt 16 = .ok (.iaload, 1) := by decide +kernel
theorem dX5_byteAt_17 : decode cX5_byteAt 17 = .ok (.goto 4, 3) := by decide +kernel
theorem dX5_byteAt_20 : decode cX5_byteAt 20 = .ok (.iconst (-1), 1) := by decide +kernel
theorem dX5_byteAt_21 : decode cX5_byteAt 21 = .ok (.ireturn, 1) := by decide +kernel
theorem dX6_init_0 : decode cX6_init 0 = .ok (.aload_n 0, 1) := by decide +kernel
theorem dX6_init_1 : decode cX6_init 1 = .ok (.invokespecial 3, 3) := by decide +kernel
theorem dX6_init_4 : decode cX6_init 4 = .ok (.aload_n 0, 1) := by decide +kernel
theorem dX6_init_5 : decode cX6_init 5 = .ok (.bipush 26, 2) := by decide +kernel
theorem dX6_init_7 : decode cX6_init 7 = .ok (.newarray .int, 2) := by decide +kernel
theorem dX6_init_9 : decode cX6_init 9 = .ok (.putfield 9, 3) := by decide +kernel
theorem dX6_init_12 : decode cX6_init 12 = .ok (.aload_n 0, 1) := by decide +kernel
theorem dX6_init_13 : decode cX6_init 13 = .ok (.aload_n 1, 1) := by decide +kernel
theorem dX6_init_14 : decode cX6_init 14 = .ok (.putfield 15, 3) := by decide +kernel
theorem dX6_init_17 : decode cX6_init 17 = .ok (.aload_n 0, 1) := by decide +kernel
theorem dX6_init_18 : decode cX6_init 18 = .ok (.aload_n 2, 1) := by decide +kernel
theorem dX6_init_19 : decode cX6_init 19 = .ok (.putfield 19, 3) := by decide +kernel
theorem dX6_init_22 : decode cX6_init 22 = .ok (.return_, 1) := by decide +kernel
theorem dX6_firstWrong_0 : decode cX6_firstWrong 0 = .ok (.iconst 0, 1) := by decide +kernel
theorem dX6_firstWrong_1 : decode cX6_firstWrong 1 = .ok (.istore_n 1, 1) := by decide +kernel
theorem dX6_firstWrong_2 : decode cX6_firstWrong 2 = .ok (.iload_n 1, 1) := by decide +kernel
theorem dX6_firstWrong_3 : decode cX6_firstWrong 3 = .ok (.aload_n 0, 1) := by decide +kernel
theorem dX6_firstWrong_4 : decode cX6_firstWrong 4 = .ok (.getfield 15, 3) := by decide +kernel
theorem dX6_firstWrong_7 : decode cX6_firstWrong 7 = .ok (.getfield 23, 3) := by decide +kernel
theorem dX6_firstWrong_10 : decode cX6_firstWrong 10 = .ok (.if_icmp .ge 41, 3) := by decide +kernel
theorem dX6_firstWrong_13 : decode cX6_firstWrong 13 = .ok (.aload_n 0, 1) := by decide +kernel
theorem dX6_firstWrong_14 : decode cX6_firstWrong 14 = .ok (.getfield 15, 3) := by decide +kernel
theorem dX6_firstWrong_17 : decode cX6_firstWrong 17 = .ok (.aload_n 0, 1) := by decide +kernel
theorem dX6_firstWrong_18 : decode cX6_firstWrong 18 = .ok (.getfield 15, 3) := by decide +kernel
theorem dX6_firstWrong_21 : decode cX6_firstWrong 21 = .ok (.iload_n 1, 1) := by decide +kernel
theorem dX6_firstWrong_22 : decode cX6_firstWrong 22 = .ok (.invokevirtual 29, 3) := by decide +kernel
theorem dX6_firstWrong_25 : decode cX6_firstWrong 25 = .ok (.invokevirtual 33, 3) := by decide +kernel
theorem dX6_firstWrong_28 : decode cX6_firstWrong 28 = .ok (.ifCond .eq 15, 3) := by decide +kernel
theorem dX6_firstWrong_31 : decode cX6_firstWrong 31 = .ok (.iload_n 1, 1) := by decide +kernel
theorem dX6_firstWrong_32 : decode cX6_firstWrong 32 = .ok (.ifCond .le 13, 3) := by decide +kernel
theorem dX6_firstWrong_35 : decode cX6_firstWrong 35 = .ok (.aload_n 0, 1) := by decide +kernel
theorem dX6_firstWrong_36 : decode cX6_firstWrong 36 = .ok (.iload_n 1, 1) := by decide +kernel
theorem dX6_firstWrong_37 : decode cX6_firstWrong 37 = .ok (.invokevirtual 37, 3) := by decide +kernel
theorem dX6_firstWrong_40 : decode cX6_firstWrong 40 = .ok (.ifCond .ge 5, 3) := by decide +kernel
theorem dX6_firstWrong_43 : decode cX6_firstWrong 43 = .ok (.iload_n 1, 1) := by decide +kernel
theorem dX6_firstWrong_44 : decode cX6_firstWrong 44 = .ok (.ireturn, 1) := by decide +kernel
theorem dX6_firstWrong_45 : decode cX6_firstWrong 45 = .ok (.iinc 1 1, 3) := by decide +kernel
theorem dX6_firstWrong_48 : decode cX6_firstWrong 48 = .ok (.goto (-46), 3) := by decide +kernel
theorem dX6_firstWrong_51 : decode cX6_firstWrong 51 = .ok (.bipush (-2), 2) := by decide +kernel
theorem dX6_firstWrong_53 : decode cX6_firstWrong 53 = .ok (.ireturn, 1) := by decide +kernel
theorem dX6_grownBy_0 : decode cX6_grownBy 0 = .ok (.aload_n 0, 1) := by decide +kernel
theorem dX6_grownBy_1 : decode cX6_grownBy 1 = .ok (.getfield 19, 3) := by decide +kernel
theorem dX6_grownBy_4 : decode cX6_grownBy 4 = .ok (.aload_n 0, 1) := by decide +kernel
theorem dX6_grownBy_5 : decode cX6_grownBy 5 = .ok (.getfield 15, 3) := by decide +kernel
theorem dX6_grownBy_8 : decode cX6_grownBy 8 = .ok (.iload_n 1, 1) := by decide +kernel
theorem dX6_grownBy_9 : decode cX6_grownBy 9 = .ok (.iconst 1, 1) := by decide +kernel
theorem dX6_grownBy_10 : decode cX6_grownBy 10 = .ok (.isub, 1) := by decide +kernel
theorem dX6_grownBy_11 : decode cX6_grownBy 11 = .ok (.invokevirtual 29, 3) := by decide +kernel
theorem dX6_grownBy_14 : decode cX6_grownBy 14 = .ok (.aload_n 0, 1) := by decide +kernel
theorem dX6_grownBy_15 : decode cX6_grownBy 15 = .ok (.getfield 15, 3) := by decide +kernel
theorem dX6_grownBy_18 : decode cX6_grownBy 18 = .ok (.iload_n 1, 1) := by decide +kernel
theorem dX6_grownBy_19 : decode cX6_grownBy 19 = .ok (.invokevirtual 29, 3) := by decide +kernel
theorem dX6_grownBy_22 : decode cX6_grownBy 22 = .ok (.invokevirtual 40, 3) := by decide +kernel
theorem dX6_grownBy_25 : decode cX6_grownBy 25 = .ok (.ireturn, 1) := by decide +kernel
theorem dX6_rowsWith_0 : decode cX6_rowsWith 0 = .ok (.aload_n 0, 1) := by decide +kernel
theorem dX6_rowsWith_1 : decode cX6_rowsWith 1 = .ok (.invokevirtual 46, 3) := by decide +kernel
theorem dX6_rowsWith_4 : decode cX6_rowsWith 4 = .ok (.ifCond .lt 5, 3) := by decide +kernel
theorem dX6_rowsWith_7 : decode cX6_rowsWith 7 = .ok (.iconst 0, 1) := by decide +kernel
theorem dX6_rowsWith_8 : decode cX6_rowsWith 8 = .ok (.ireturn, 1) := by decide +kernel
theorem dX6_rowsWith_9 : decode cX6_rowsWith 9 = .ok (.aload_n 0, 1) := by decide +kernel
theorem dX6_rowsWith_10 : decode cX6_rowsWith 10 = .ok (.getfield 15, 3) := by decide +kernel
theorem dX6_rowsWith_13 : decode cX6_rowsWith 13 = .ok (.aload_n 0, 1) := by decide +kernel
theorem dX6_rowsWith_14 : decode cX6_rowsWith 14 = .ok (.getfield 15, 3) := by decide +kernel
theorem dX6_rowsWith_17 : decode cX6_rowsWith 17 = .ok (.aload_n 0, 1) := by decide +kernel
theorem dX6_rowsWith_18 : decode cX6_rowsWith 18 = .ok (.getfield 15, 3) := by decide +kernel
theorem dX6_rowsWith_21 : decode cX6_rowsWith 21 = .ok (.getfield 23, 3) := by decide +kernel
theorem dX6_rowsWith_24 : decode cX6_rowsWith 24 = .ok (.iconst 1, 1) := by decide +kernel
theorem dX6_rowsWith_25 : decode cX6_rowsWith 25 = .ok (.isub, 1) := by decide +kernel
theorem dX6_rowsWith_26 : decode cX6_rowsWith 26 = .ok (.invokevirtual 29, 3) := by decide +kernel
theorem dX6_rowsWith_29 : decode cX6_rowsWith 29 = .ok (.invokevirtual 50, 3) := by decide +kernel
theorem dX6_rowsWith_32 : decode cX6_rowsWith 32 = .ok (.istore_n 2, 1) := by decide +kernel
theorem dX6_rowsWith_33 : decode cX6_rowsWith 33 = .ok (.iconst 0, 1) := by decide +kernel
theorem dX6_rowsWith_34 : decode cX6_rowsWith 34 = .ok (.istore_n 3, 1) := by decide +kernel
theorem dX6_rowsWith_35 : decode cX6_rowsWith 35 = .ok (.iconst 0, 1) := by decide +kernel
theorem dX6_rowsWith_36 : decode cX6_rowsWith 36 = .ok (.istore 4, 2) := by decide +kernel
theorem dX6_rowsWith_38 : decode cX6_rowsWith 38 = .ok (.iload 4, 2) := by decide +kernel
theorem dX6_rowsWith_40 : decode cX6_rowsWith 40 = .ok (.iconst 1, 1) := by decide +kernel
theorem dX6_rowsWith_41 : decode cX6_rowsWith 41 = .ok (.aload_n 0, 1) := by decide +kernel
theorem dX6_rowsWith_42 : decode cX6_rowsWith 42 = .ok (.getfield 15, 3) := by decide +kernel
theorem dX6_rowsWith_45 : decode cX6_rowsWith 45 = .ok (.getfield 53, 3) := by decide +kernel
theorem dX6_rowsWith_48 : decode cX6_rowsWith 48 = .ok (.ishl, 1) := by decide +kernel
theorem dX6_rowsWith_49 : decode cX6_rowsWith 49 = .ok (.if_icmp .ge 56, 3) := by decide +kernel
theorem dX6_rowsWith_52 : decode cX6_rowsWith 52 = .ok (.iload_n 1, 1) := by decide +kernel
theorem dX6_rowsWith_53 : decode cX6_rowsWith 53 = .ok (.ifCond .lt 13, 3) := by decide +kernel
theorem dX6_rowsWith_56 : decode cX6_rowsWith 56 = .ok (.iload 4, 2) := by decide +kernel
theorem dX6_rowsWith_58 : decode cX6_rowsWith 58 = .ok (.iload_n 1, 1) := by decide +kernel
theorem dX6_rowsWith_59 : decode cX6_rowsWith 59 = .ok (.ishr, 1) := by decide +kernel
theorem dX6_rowsWith_60 : decode cX6_rowsWith 60 = .ok (.iconst 1, 1) := by decide +kernel
theorem dX6_rowsWith_61 : decode cX6_rowsWith 61 = .ok (.iand, 1) := by decide +kernel
theorem dX6_rowsWith_62 : decode cX6_rowsWith 62 = .ok (.iconst 1, 1) := by decide +kernel
theorem dX6_rowsWith_63 : decode cX6_rowsWith 63 = .ok (.if_icmp .ne 7, 3) := by decide +kernel
theorem dX6_rowsWith_66 : decode cX6_rowsWith 66 = .ok (.iconst 1, 1) := by decide +kernel
theorem dX6_rowsWith_67 : decode cX6_rowsWith 67 = .ok (.goto 4, 3) := by decide +kernel
theorem dX6_rowsWith_70 : decode cX6_rowsWith 70 = .ok (.iconst 0, 1) := by decide +kernel
theorem dX6_rowsWith_71 : decode cX6_rowsWith 71 = .ok (.istore 5, 2) := by decide +kernel
theorem dX6_rowsWith_73 : decode cX6_rowsWith 73 = .ok (.iload 5, 2) := by decide +kernel
theorem dX6_rowsWith_75 : decode cX6_rowsWith 75 = .ok (.ifCond .eq 24, 3) := by decide +kernel
theorem dX6_rowsWith_78 : decode cX6_rowsWith 78 = .ok (.iload 4, 2) := by decide +kernel
theorem dX6_rowsWith_80 : decode cX6_rowsWith 80 = .ok (.invokestatic 56, 3) := by decide +kernel
theorem dX6_rowsWith_83 : decode cX6_rowsWith 83 = .ok (.iload_n 2, 1) := by decide +kernel
theorem dX6_rowsWith_84 : decode cX6_rowsWith 84 = .ok (.if_icmp .ne 15, 3) := by decide +kernel
theorem dX6_rowsWith_87 : decode cX6_rowsWith 87 = .ok (.aload_n 0, 1) := by decide +kernel
theorem dX6_rowsWith_88 : decode cX6_rowsWith 88 = .ok (.iload 4, 2) := by decide +kernel
theorem dX6_rowsWith_90 : decode cX6_rowsWith 90 = .ok (.invokevirtual 61, 3) := by decide +kernel
theorem dX6_rowsWith_93 : decode cX6_rowsWith 93 = .ok (.ifCond .eq 6, 3) := by decide +kernel
theorem dX6_rowsWith_96 : decode cX6_rowsWith 96 = .ok (.iinc 3 1, 3) := by decide +kernel
theorem dX6_rowsWith_99 : decode cX6_rowsWith 99 = .ok (.iinc 4 1, 3) := by decide +kernel
theorem dX6_rowsWith_102 : decode cX6_rowsWith 102 = .ok (.goto (-64), 3) := by decide +kernel
theorem dX6_rowsWith_105 : decode cX6_rowsWith 105 = .ok (.iload_n 3, 1) := by decide +kernel
theorem dX6_rowsWith_106 : decode cX6_rowsWith 106 = .ok (.ireturn, 1) := by decide +kernel
theorem dX6_isRow_0 : decode cX6_isRow 0 = .ok (.aload_n 0, 1) := by decide +kernel
theorem dX6_isRow_1 : decode cX6_isRow 1 = .ok (.getfield 15, 3) := by decide +kernel
theorem dX6_isRow_4 : decode cX6_isRow 4 = .ok (.aload_n 0, 1) := by decide +kernel
theorem dX6_isRow_5 : decode cX6_isRow 5 = .ok (.getfield 15, 3) := by decide +kernel
theorem dX6_isRow_8 : decode cX6_isRow 8 = .ok (.iconst 0, 1) := by decide +kernel
theorem dX6_isRow_9 : decode cX6_isRow 9 = .ok (.invokevirtual 29, 3) := by decide +kernel
theorem dX6_isRow_12 : decode cX6_isRow 12 = .ok (.invokevirtual 50, 3) := by decide +kernel
theorem dX6_isRow_15 : decode cX6_isRow 15 = .ok (.istore_n 2, 1) := by decide +kernel
theorem dX6_isRow_16 : decode cX6_isRow 16 = .ok (.aload_n 0, 1) := by decide +kernel
theorem dX6_isRow_17 : decode cX6_isRow 17 = .ok (.aload_n 0, 1) := by decide +kernel
theorem dX6_isRow_18 : decode cX6_isRow 18 = .ok (.getfield 15, 3) := by decide +kernel
theorem dX6_isRow_21 : decode cX6_isRow 21 = .ok (.aload_n 0, 1) := by decide +kernel
theorem dX6_isRow_22 : decode cX6_isRow 22 = .ok (.getfield 15, 3) := by decide +kernel
theorem dX6_isRow_25 : decode cX6_isRow 25 = .ok (.iconst 0, 1) := by decide +kernel
theorem dX6_isRow_26 : decode cX6_isRow 26 = .ok (.invokevirtual 29, 3) := by decide +kernel
theorem dX6_isRow_29 : decode cX6_isRow 29 = .ok (.invokevirtual 64, 3) := by decide +kernel
theorem dX6_isRow_32 : decode cX6_isRow 32 = .ok (.invokevirtual 68, 3) := by decide +kernel
theorem dX6_isRow_35 : decode cX6_isRow 35 = .ok (.iconst 0, 1) := by decide +kernel
theorem dX6_isRow_36 : decode cX6_isRow 36 = .ok (.istore_n 3, 1) := by decide +kernel
theorem dX6_isRow_37 : decode cX6_isRow 37 = .ok (.iconst 0, 1) := by decide +kernel
theorem dX6_isRow_38 : decode cX6_isRow 38 = .ok (.istore 4, 2) := by decide +kernel
theorem dX6_isRow_40 : decode cX6_isRow 40 = .ok (.iload 4, 2) := by decide +kernel
theorem dX6_isRow_42 : decode cX6_isRow 42 = .ok (.aload_n 0, 1) := by decide +kernel
theorem dX6_isRow_43 : decode cX6_isRow 43 = .ok (.getfield 15, 3) := by decide +kernel
theorem dX6_isRow_46 : decode cX6_isRow 46 = .ok (.getfield 53, 3) := by decide +kernel
theorem dX6_isRow_49 : decode cX6_isRow 49 = .ok (.if_icmp .ge 75, 3) := by decide +kernel
theorem dX6_isRow_52 : decode cX6_isRow 52 = .ok (.iload_n 1, 1) := by decide +kernel
theorem dX6_isRow_53 : decode cX6_isRow 53 = .ok (.iload 4, 2) := by decide +kernel
theorem dX6_isRow_55 : decode cX6_isRow 55 = .ok (.ishr, 1) := by decide +kernel
theorem dX6_isRow_56 : decode cX6_isRow 56 = .ok (.iconst 1, 1) := by decide +kernel
theorem dX6_isRow_57 : decode cX6_isRow 57 = .ok (.iand, 1) := by decide +kernel
theorem dX6_isRow_58 : decode cX6_isRow 58 = .ok (.iconst 1, 1) := by decide +kernel
theorem dX6_isRow_59 : decode cX6_isRow 59 = .ok (.if_icmp .ne 59, 3) := by decide +kernel
theorem dX6_isRow_62 : decode cX6_isRow 62 = .ok (.aload_n 0, 1) := by decide +kernel
theorem dX6_isRow_63 : decode cX6_isRow 63 = .ok (.getfield 15, 3) := by decide +kernel
theorem dX6_isRow_66 : decode cX6_isRow 66 = .ok (.iload 4, 2) := by decide +kernel
theorem dX6_isRow_68 : decode cX6_isRow 68 = .ok (.invokevirtual 72, 3) := by decide +kernel
theorem dX6_isRow_71 : decode cX6_isRow 71 = .ok (.istore 5, 2) := by decide +kernel
theorem dX6_isRow_73 : decode cX6_isRow 73 = .ok (.iload_n 3, 1) := by decide +kernel
theorem dX6_isRow_74 : decode cX6_isRow 74 = .ok (.iload_n 2, 1) := by decide +kernel
theorem dX6_isRow_75 : decode cX6_isRow 75 = .ok (.if_icmp .ge 12, 3) := by decide +kernel
theorem dX6_isRow_78 : decode cX6_isRow 78 = .ok (.aload_n 0, 1) := by decide +kernel
theorem dX6_isRow_79 : decode cX6_isRow 79 = .ok (.iload 5, 2) := by decide +kernel
theorem dX6_isRow_81 : decode cX6_isRow 81 = .ok (.invokevirtual 75, 3) := by decide +kernel
theorem dX6_isRow_84 : decode cX6_isRow 84 = .ok (.goto 22, 3) := by decide +kernel
theorem dX6_isRow_87 : decode cX6_isRow 87 = .ok (.aload_n 0, 1) := by decide +kernel
theorem dX6_isRow_88 : decode cX6_isRow 88 = .ok (.iload_n 3, 1) := by decide +kernel
theorem dX6_isRow_89 : decode cX6_isRow 89 = .ok (.iload_n 2, 1) := by decide +kernel
theorem dX6_isRow_90 : decode cX6_isRow 90 = .ok (.isub, 1) := by decide +kernel
theorem dX6_isRow_91 : decode cX6_isRow 91 = .ok (.iconst 1, 1) := by decide +kernel
theorem dX6_isRow_92 : decode cX6_isRow 92 = .ok (.iadd, 1) := by decide +kernel
theorem dX6_isRow_93 : decode cX6_isRow 93 = .ok (.invokevirtual 37, 3) := by decide +kernel
theorem dX6_isRow_96 : decode cX6_isRow 96 = .ok (.iload 5, 2) := by decide +kernel
theorem dX6_isRow_98 : decode cX6_isRow 98 = .ok (.if_icmp .ne 7, 3) := by decide +kernel
theorem dX6_isRow_101 : decode cX6_isRow 101 = .ok (.iconst 1, 1) := by decide +kernel
theorem dX6_isRow_102 : decode cX6_isRow 102 = .ok (.goto 4, 3) := by decide +kernel
theorem dX6_isRow_105 : decode cX6_isRow 105 = .ok (.iconst 0, 1) := by decide +kernel
theorem dX6_isRow_106 : decode cX6_isRow 106 = .ok (.istore 6, 2) := by decide +kernel
theorem dX6_isRow_108 : decode cX6_isRow 108 = .ok (.iload 6, 2) := by decide +kernel
theorem dX6_isRow_110 : decode cX6_isRow 110 = .ok (.ifCond .ne 5, 3) := by decide +kernel
theorem dX6_isRow_113 : decode cX6_isRow 113 = .ok (.iconst 0, 1) := by decide +kernel
theorem dX6_isRow_114 : decode cX6_isRow 114 = .ok (.ireturn, 1) := by decide +kernel
theorem dX6_isRow_115 : decode cX6_isRow 115 = .ok (.iinc 3 1, 3) := by decide +kernel
theorem dX6_isRow_118 : decode cX6_isRow 118 = .ok (.iinc 4 1, 3) := by decide +kernel
theorem dX6_isRow_121 : decode cX6_isRow 121 = .ok (.goto (-81), 3) := by decide +kernel
theorem dX6_isRow_124 : decode cX6_isRow 124 = .ok (.iconst 1, 1) := by decide +kernel
theorem dX6_isRow_125 : decode cX6_isRow 125 = .ok (.ireturn, 1) := by decide +kernel
theorem dX6_layOut_0 : decode cX6_layOut 0 = .ok (.aload_n 0, 1) := by decide +kernel
theorem dX6_layOut_1 : decode cX6_layOut 1 = .ok (.getfield 9, 3) := by decide +kernel
theorem dX6_layOut_4 : decode cX6_layOut 4 = .ok (.iconst 0, 1) := by decide +kernel
theorem dX6_layOut_5 : decode cX6_layOut 5 = .ok (.invokestatic 78, 3) := by decide +kernel
theorem dX6_layOut_8 : decode cX6_layOut 8 = .ok (.iconst 0, 1) := by decide +kernel
theorem dX6_layOut_9 : decode cX6_layOut 9 = .ok (.istore_n 2, 1) := by decide +kernel
theorem dX6_layOut_10 : decode cX6_layOut 10 = .ok (.iload_n 2, 1) := by decide +kernel
theorem dX6_layOut_11 : decode cX6_layOut 11 = .ok (.aload_n 1, 1) := by decide +kernel
theorem dX6_layOut_12 : decode cX6_layOut 12 = .ok (.arraylength, 1) := by decide +kernel
theorem dX6_layOut_13 : decode cX6_layOut 13 = .ok (.if_icmp .ge 35, 3) := by decide +kernel
theorem dX6_layOut_16 : decode cX6_layOut 16 = .ok (.aload_n 1, 1) := by decide +kernel
theorem dX6_layOut_17 : decode cX6_layOut 17 = .ok (.iload_n 2, 1) := by decide +kernel
theorem dX6_layOut_18 : decode cX6_layOut 18 = .ok (.iaload, 1) := by decide +kernel
theorem dX6_layOut_19 : decode cX6_layOut 19 = .ok (.ifCond .lt 29, 3) := by decide +kernel
theorem dX6_layOut_22 : decode cX6_layOut 22 = .ok (.aload_n 1, 1) := by decide +kernel
theorem dX6_layOut_23 : decode cX6_layOut 23 = .ok (.iload_n 2, 1) := by decide +kernel
theorem dX6_layOut_24 : decode cX6_layOut 24 = .ok (.iaload, 1) := by decide +kernel
theorem dX6_layOut_25 : decode cX6_layOut 25 = .ok (.bipush 26, 2) := by decide +kernel
theorem dX6_layOut_27 : decode cX6_layOut 27 = .ok (.if_icmp .ge 21, 3) := by decide +kernel
theorem dX6_layOut_30 : decode cX6_layOut 30 = .ok (.aload_n 0, 1) := by decide +kernel
theorem dX6_layOut_31 : decode cX6_layOut 31 = .ok (.getfield 9, 3) := by decide +kernel
theorem dX6_layOut_34 : decode cX6_layOut 34 = .ok (.aload_n 1, 1) := by decide +kernel
theorem dX6_layOut_35 : decode cX6_layOut 35 = .ok (.iload_n 2, 1) := by decide +kernel
theorem dX6_layOut_36 : decode cX6_layOut 36 = .ok (.iaload, 1) := by decide +kernel
theorem dX6_layOut_37 : decode cX6_layOut 37 = .ok (.dup2, 1) := by decide +kernel
theorem dX6_layOut_38 : decode cX6_layOut 38 = .ok (.iaload, 1) := by decide +kernel
theorem dX6_layOut_39 : decode cX6_layOut 39 = .ok (.iconst 1, 1) := by decide +kernel
theorem dX6_layOut_40 : decode cX6_layOut 40 = .ok (.iadd, 1) := by decide +kernel
theorem dX6_layOut_41 : decode cX6_layOut 41 = .ok (.iastore, 1) := by decide +kernel
theorem dX6_layOut_42 : decode cX6_layOut 42 = .ok (.iinc 2 1, 3) := by decide +kernel
theorem dX6_layOut_45 : decode cX6_layOut 45 = .ok (.goto (-35), 3) := by decide +kernel
theorem dX6_layOut_48 : decode cX6_layOut 48 = .ok (.return_, 1) := by decide +kernel
theorem dX6_takes_0 : decode cX6_takes 0 = .ok (.iload_n 1, 1) := by decide +kernel
theorem dX6_takes_1 : decode cX6_takes 1 = .ok (.ifCond .lt 19, 3) := by decide +kernel
theorem dX6_takes_4 : decode cX6_takes 4 = .ok (.iload_n 1, 1) := by decide +kernel
theorem dX6_takes_5 : decode cX6_takes 5 = .ok (.bipush 26, 2) := by decide +kernel
theorem dX6_takes_7 : decode cX6_takes 7 = .ok (.if_icmp .ge 13, 3) := by decide +kernel
theorem dX6_takes_10 : decode cX6_takes 10 = .ok (.aload_n 0, 1) := by decide +kernel
theorem dX6_takes_11 : decode cX6_takes 11 = .ok (.getfield 9, 3) := by decide +kernel
theorem dX6_takes_14 : decode cX6_takes 14 = .ok (.iload_n 1, 1) := by decide +kernel
theorem dX6_takes_15 : decode cX6_takes 15 = .ok (.iaload, 1) := by decide +kernel
theorem dX6_takes_16 : decode cX6_takes 16 = .ok (.iconst 1, 1) := by decide +kernel
theorem dX6_takes_17 : decode cX6_takes 17 = .ok (.if_icmp .ge 5, 3) := by decide +kernel
theorem dX6_takes_20 : decode cX6_takes 20 = .ok (.iconst 0, 1) := by decide +kernel
theorem dX6_takes_21 : decode cX6_takes 21 = .ok (.ireturn, 1) := by decide +kernel
theorem dX6_takes_22 : decode cX6_takes 22 = .ok (.aload_n 0, 1) := by decide +kernel
theorem dX6_takes_23 : decode cX6_takes 23 = .ok (.getfield 9, 3) := by decide +kernel
theorem dX6_takes_26 : decode cX6_takes 26 = .ok (.iload_n 1, 1) := by decide +kernel
theorem dX6_takes_27 : decode cX6_takes 27 = .ok (.dup2, 1) := by decide +kernel
theorem dX6_takes_28 : decode cX6_takes 28 = .ok (.iaload, 1) := by decide +kernel
theorem dX6_takes_29 : decode cX6_takes 29 = .ok (.iconst 1, 1) := by decide +kernel
theorem dX6_takes_30 : decode cX6_takes 30 = .ok (.isub, 1) := by decide +kernel
theorem dX6_takes_31 : decode cX6_takes 31 = .ok (.iastore, 1) := by decide +kernel
theorem dX6_takes_32 : decode cX6_takes 32 = .ok (.iconst 1, 1) := by decide +kernel
theorem dX6_takes_33 : decode cX6_takes 33 = .ok (.ireturn, 1) := by decide +kernel
theorem dX7_init_0 : decode cX7_init 0 = .ok (.aload_n 0, 1) := by decide +kernel
theorem dX7_init_1 : decode cX7_init 1 = .ok (.invokespecial 3, 3) := by decide +kernel
theorem dX7_init_4 : decode cX7_init 4 = .ok (.aload_n 0, 1) := by decide +kernel
theorem dX7_init_5 : decode cX7_init 5 = .ok (.bipush 26, 2) := by decide +kernel
theorem dX7_init_7 : decode cX7_init 7 = .ok (.newarray .int, 2) := by decide +kernel
theorem dX7_init_9 : decode cX7_init 9 = .ok (.putfield 9, 3) := by decide +kernel
theorem dX7_init_12 : decode cX7_init 12 = .ok (.aload_n 0, 1) := by decide +kernel
theorem dX7_init_13 : decode cX7_init 13 = .ok (.iconst 3, 1) := by decide +kernel
theorem dX7_init_14 : decode cX7_init 14 = .ok (.bipush 25, 2) := by decide +kernel
theorem dX7_init_16 : decode cX7_init 16 = .ok (.multianewarray 15 2, 4) := by decide +kernel
theorem dX7_init_20 : decode cX7_init 20 = .ok (.putfield 17, 3) := by decide +kernel
theorem dX7_init_23 : decode cX7_init 23 = .ok (.aload_n 0, 1) := by decide +kernel
theorem dX7_init_24 : decode cX7_init 24 = .ok (.bipush 25, 2) := by decide +kernel
theorem dX7_init_26 : decode cX7_init 26 = .ok (.newarray .int, 2) := by decide +kernel
theorem dX7_init_28 : decode cX7_init 28 = .ok (.putfield 20, 3) := by decide +kernel
theorem dX7_init_31 : decode cX7_init 31 = .ok (.aload_n 0, 1) := by decide +kernel
theorem dX7_init_32 : decode cX7_init 32 = .ok (.sipush 15625, 3) := by decide +kernel
theorem dX7_init_35 : decode cX7_init 35 = .ok (.newarray .int, 2) := by decide +kernel
theorem dX7_init_37 : decode cX7_init 37 = .ok (.putfield 23, 3) := by decide +kernel
theorem dX7_init_40 : decode cX7_init 40 = .ok (.aload_n 0, 1) := by decide +kernel
theorem dX7_init_41 : decode cX7_init 41 = .ok (.sipush 15625, 3) := by decide +kernel
theorem dX7_init_44 : decode cX7_init 44 = .ok (.newarray .int, 2) := by decide +kernel
theorem dX7_init_46 : decode cX7_init 46 = .ok (.putfield 26, 3) := by decide +kernel
theorem dX7_init_49 : decode cX7_init 49 = .ok (.aload_n 0, 1) := by decide +kernel
theorem dX7_init_50 : decode cX7_init 50 = .ok (.sipush 489, 3) := by decide +kernel
theorem dX7_init_53 : decode cX7_init 53 = .ok (.newarray .int, 2) := by decide +kernel
theorem dX7_init_55 : decode cX7_init 55 = .ok (.putfield 29, 3) := by decide +kernel
theorem dX7_init_58 : decode cX7_init 58 = .ok (.aload_n 0, 1) := by decide +kernel
theorem dX7_init_59 : decode cX7_init 59 = .ok (.sipush 489, 3) := by decide +kernel
theorem dX7_init_62 : decode cX7_init 62 = .ok (.newarray .int, 2) := by decide +kernel
theorem dX7_init_64 : decode cX7_init 64 = .ok (.putfield 32, 3) := by decide +kernel
theorem dX7_init_67 : decode cX7_init 67 = .ok (.aload_n 0, 1) := by decide +kernel
theorem dX7_init_68 : decode cX7_init 68 = .ok (.aload_n 1, 1) := by decide +kernel
theorem dX7_init_69 : decode cX7_init 69 = .ok (.putfield 35, 3) := by decide +kernel
theorem dX7_init_72 : decode cX7_init 72 = .ok (.aload_n 0, 1) := by decide +kernel
theorem dX7_init_73 : decode cX7_init 73 = .ok (.aload_n 2, 1) := by decide +kernel
theorem dX7_init_74 : decode cX7_init 74 = .ok (.putfield 39, 3) := by decide +kernel
theorem dX7_init_77 : decode cX7_init 77 = .ok (.return_, 1) := by decide +kernel
theorem dX7_codeOf_0 : decode cX7_codeOf 0 = .ok (.iload_n 1, 1) := by decide +kernel
theorem dX7_codeOf_1 : decode cX7_codeOf 1 = .ok (.bipush 25, 2) := by decide +kernel
theorem dX7_codeOf_3 : decode cX7_codeOf 3 = .ok (.imul, 1) := by decide +kernel
theorem dX7_codeOf_4 : decode cX7_codeOf 4 = .ok (.iload_n 2, 1) := by decide +kernel
theorem dX7_codeOf_5 : decode cX7_codeOf 5 = .ok (.iadd, 1) := by decide +kernel
theorem dX7_codeOf_6 : decode cX7_codeOf 6 = .ok (.bipush 25, 2) := by decide +kernel
theorem dX7_codeOf_8 : decode cX7_codeOf 8 = .ok (.imul, 1) := by decide +kernel
theorem dX7_codeOf_9 : decode cX7_codeOf 9 = .ok (.iload_n 3, 1) := by decide +kernel
theorem dX7_codeOf_10 : decode cX7_codeOf 10 = .ok (.iadd, 1) := by decide +kernel
theorem dX7_codeOf_11 : decode cX7_codeOf 11 = .ok (.ireturn, 1) := by decide +kernel
theorem dX7_kindAt_0 : decode cX7_kindAt 0 = .ok (.iload_n 1, 1) := by decide +kernel
theorem dX7_kindAt_1 : decode cX7_kindAt 1 = .ok (.ifCond .ne 11, 3) := by decide +kernel
theorem dX7_kindAt_4 : decode cX7_kindAt 4 = .ok (.iload_n 0, 1) := by decide +kernel
theorem dX7_kindAt_5 : decode cX7_kindAt 5 = .ok (.sipush 625, 3) := by decide +kernel
theorem dX7_kindAt_8 : decode cX7_kindAt 8 = .ok (.idiv, 1) := by decide +kernel
theorem dX7_kindAt_9 : decode cX7_kindAt 9 = .ok (.goto 22, 3) := by decide +kernel
theorem dX7_kindAt_12 : decode cX7_kindAt 12 = .ok (.iload_n 1, 1) := by decide +kernel
theorem dX7_kindAt_13 : decode cX7_kindAt 13 = .ok (.iconst 1, 1) := by decide +kernel
theorem dX7_kindAt_14 : decode cX7_kindAt 14 = .ok (.if_icmp .ne 13, 3) := by decide +kernel
theorem dX7_kindAt_17 : decode cX7_kindAt 17 = .ok (.iload_n 0, 1) := by decide +kernel
theorem dX7_kindAt_18 : decode cX7_kindAt 18 = .ok (.bipush 25, 2) := by decide +kernel
theorem dX7_kindAt_20 : decode cX7_kindAt 20 = .ok (.idiv, 1) := by decide +kernel
theorem dX7_kindAt_21 : decode cX7_kindAt 21 = .ok (.bipush 25, 2) := by decide +kernel
theorem dX7_kindAt_23 : decode cX7_kindAt 23 = .ok (.irem, 1) := by decide +kernel
theorem dX7_kindAt_24 : decode cX7_kindAt 24 = .ok (.goto 7, 3) := by decide +kernel
theorem dX7_kindAt_27 : decode cX7_kindAt 27 = .ok (.iload_n 0, 1) := by decide +kernel
theorem dX7_kindAt_28 : decode cX7_kindAt 28 = .ok (.bipush 25, 2) := by decide +kernel
theorem dX7_kindAt_30 : decode cX7_kindAt 30 = .ok (.irem, 1) := by decide +kernel
theorem dX7_kindAt_31 : decode cX7_kindAt 31 = .ok (.ireturn, 1) := by decide +kernel
theorem dX7_placeOf_0 : decode cX7_placeOf 0 = .ok (.iload_n 0, 1) := by decide +kernel
theorem dX7_placeOf_1 : decode cX7_placeOf 1 = .ok (.ifCond .ne 9, 3) := by decide +kernel
theorem dX7_placeOf_4 : decode cX7_placeOf 4 = .ok (.sipush 625, 3) := by decide +kernel
theorem dX7_placeOf_7 : decode cX7_placeOf 7 = .ok (.goto 14, 3) := by decide +kernel
theorem dX7_placeOf_10 : decode cX7_placeOf 10 = .ok (.iload_n 0, 1) := by decide +kernel
theorem dX7_placeOf_11 : decode cX7_placeOf 11 = .ok (.iconst 1, 1) := by decide +kernel
theorem dX7_placeOf_12 : decode cX7_placeOf 12 = .ok (.if_icmp .ne 8, 3) := by decide +kernel
theorem dX7_placeOf_15 : decode cX7_placeOf 15 = .ok (.bipush 25, 2) := by decide +kernel
theorem dX7_placeOf_17 : decode cX7_placeOf 17 = .ok (.goto 4, 3) := by decide +kernel
theorem dX7_placeOf_20 : decode cX7_placeOf 20 = .ok (.iconst 1, 1) := by decide +kernel
theorem dX7_placeOf_21 : decode cX7_placeOf 21 = .ok (.ireturn, 1) := by decide +kernel
theorem dX7_climb_0 : decode cX7_climb 0 = .ok (.aload_n 0, 1) := by decide +kernel
theorem dX7_climb_1 : decode cX7_climb 1 = .ok (.aload_n 1, 1) := by decide +kernel
theorem dX7_climb_2 : decode cX7_climb 2 = .ok (.iconst 0, 1) := by decide +kernel
theorem dX7_climb_3 : decode cX7_climb 3 = .ok (.invokevirtual 43, 3) := by decide +kernel
theorem dX7_climb_6 : decode cX7_climb 6 = .ok (.aload_n 1, 1) := by decide +kernel
theorem dX7_climb_7 : decode cX7_climb 7 = .ok (.iconst 1, 1) := by decide +kernel
theorem dX7_climb_8 : decode cX7_climb 8 = .ok (.invokevirtual 43, 3) := by decide +kernel
theorem dX7_climb_11 : decode cX7_climb 11 = .ok (.aload_n 1, 1) := by decide +kernel
theorem dX7_climb_12 : decode cX7_climb 12 = .ok (.iconst 2, 1) := by decide +kernel
theorem dX7_climb_13 : decode cX7_climb 13 = .ok (.invokevirtual 43, 3) := by decide +kernel
theorem dX7_climb_16 : decode cX7_climb 16 = .ok (.invokevirtual 49, 3) := by decide +kernel
theorem dX7_climb_19 : decode cX7_climb 19 = .ok (.istore 4, 2) := by decide +kernel
theorem dX7_climb_21 : decode cX7_climb 21 = .ok (.iload 4, 2) := by decide +kernel
theorem dX7_climb_23 : decode cX7_climb 23 = .ok (.iload_n 2, 1) := by decide +kernel
theorem dX7_climb_24 : decode cX7_climb 24 = .ok (.if_icmp .ne 5, 3) := by decide +kernel
theorem dX7_climb_27 : decode cX7_climb 27 = .ok (.iconst 0, 1) := by decide +kernel
theorem dX7_climb_28 : decode cX7_climb 28 = .ok (.ireturn, 1) := by decide +kernel
theorem dX7_climb_29 : decode cX7_climb 29 = .ok (.aload_n 0, 1) := by decide +kernel
theorem dX7_climb_30 : decode cX7_climb 30 = .ok (.aload_n 1, 1) := by decide +kernel
theorem dX7_climb_31 : decode cX7_climb 31 = .ok (.invokevirtual 53, 3) := by decide +kernel
theorem dX7_climb_34 : decode cX7_climb 34 = .ok (.aload_n 0, 1) := by decide +kernel
theorem dX7_climb_35 : decode cX7_climb 35 = .ok (.iload_n 3, 1) := by decide +kernel
theorem dX7_climb_36 : decode cX7_climb 36 = .ok (.putfield 57, 3) := by decide +kernel
theorem dX7_climb_39 : decode cX7_climb 39 = .ok (.aload_n 0, 1) := by decide +kernel
theorem dX7_climb_40 : decode cX7_climb 40 = .ok (.iload 4, 2) := by decide +kernel
theorem dX7_climb_42 : decode cX7_climb 42 = .ok (.iload_n 2, 1) := by decide +kernel
theorem dX7_climb_43 : decode cX7_climb 43 = .ok (.invokevirtual 61, 3) := by decide +kernel
theorem dX7_climb_46 : decode cX7_climb 46 = .ok (.istore 5, 2) := by decide +kernel
theorem dX7_climb_48 : decode cX7_climb 48 = .ok (.iload 5, 2) := by decide +kernel
theorem dX7_climb_50 : decode cX7_climb 50 = .ok (.ifCond .lt 11, 3) := by decide +kernel
theorem dX7_climb_53 : decode cX7_climb 53 = .ok (.aload_n 0, 1) := by decide +kernel
theorem dX7_climb_54 : decode cX7_climb 54 = .ok (.iload_n 2, 1) := by decide +kernel
theorem dX7_climb_55 : decode cX7_climb 55 = .ok (.invokevirtual 65, 3) := by decide +kernel
theorem dX7_climb_58 : decode cX7_climb 58 = .ok (.ifCond .ne 6, 3) := by decide +kernel
theorem dX7_climb_61 : decode cX7_climb 61 = .ok (.bipush (-2), 2) := by decide +kernel
theorem dX7_climb_63 : decode cX7_climb 63 = .ok (.ireturn, 1) := by decide +kernel
theorem dX7_climb_64 : decode cX7_climb 64 = .ok (.aload_n 0, 1) := by decide +kernel
theorem dX7_climb_65 : decode cX7_climb 65 = .ok (.getfield 29, 3) := by decide +kernel
theorem dX7_climb_68 : decode cX7_climb 68 = .ok (.iconst 0, 1) := by decide +kernel
theorem dX7_climb_69 : decode cX7_climb 69 = .ok (.invokestatic 69, 3) := by decide +kernel
theorem dX7_climb_72 : decode cX7_climb 72 = .ok (.aload_n 0, 1) := by decide +kernel
theorem dX7_climb_73 : decode cX7_climb 73 = .ok (.getfield 32, 3) := by decide +kernel
theorem dX7_climb_76 : decode cX7_climb 76 = .ok (.iconst 0, 1) := by decide +kernel
theorem dX7_climb_77 : decode cX7_climb 77 = .ok (.invokestatic 69, 3) := by decide +kernel
theorem dX7_climb_80 : decode cX7_climb 80 = .ok (.aload_n 0, 1) := by decide +kernel
theorem dX7_climb_81 : decode cX7_climb 81 = .ok (.iconst 0, 1) := by decide +kernel
theorem dX7_climb_82 : decode cX7_climb 82 = .ok (.putfield 75, 3) := by decide +kernel
theorem dX7_climb_85 : decode cX7_climb 85 = .ok (.aload_n 0, 1) := by decide +kernel
theorem dX7_climb_86 : decode cX7_climb 86 = .ok (.iconst 0, 1) := by decide +kernel
theorem dX7_climb_87 : decode cX7_climb 87 = .ok (.putfield 78, 3) := by decide +kernel
theorem dX7_climb_90 : decode cX7_climb 90 = .ok (.aload_n 0, 1) := by decide +kernel
theorem dX7_climb_91 : decode cX7_climb 91 = .ok (.iload 4, 2) := by decide +kernel
theorem dX7_climb_93 : decode cX7_climb 93 = .ok (.invokevirtual 81, 3) := by decide +kernel
theorem dX7_climb_96 : decode cX7_climb 96 = .ok (.iload 5, 2) := by decide +kernel
theorem dX7_climb_98 : decode cX7_climb 98 = .ok (.istore 6, 2) := by decide +kernel
theorem dX7_climb_100 : decode cX7_climb 100 = .ok (.iload 6, 2) := by decide +kernel
theorem dX7_climb_102 : decode cX7_climb 102 = .ok (.sipush 31250, 3) := by decide +kernel
theorem dX7_climb_105 : decode cX7_climb 105 = .ok (.if_icmp .gt 38, 3) := by decide +kernel
theorem dX7_climb_108 : decode cX7_climb 108 = .ok (.aload_n 0, 1) := by decide +kernel
theorem dX7_climb_109 : decode cX7_climb 109 = .ok (.getfield 75, 3) := by decide +kernel
theorem dX7_climb_112 : decode cX7_climb 112 = .ok (.ifCond .le 31, 3) := by decide +kernel
theorem dX7_climb_115 : decode cX7_climb 115 = .ok (.aload_n 0, 1) := by decide +kernel
theorem dX7_climb_116 : decode cX7_climb 116 = .ok (.invokevirtual 85, 3) := by decide +kernel
theorem dX7_climb_119 : decode cX7_climb 119 = .ok (.aload_n 0, 1) := by decide +kernel
theorem dX7_climb_120 : decode cX7_climb 120 = .ok (.getfield 29, 3) := by decide +kernel
theorem dX7_climb_123 : decode cX7_climb 123 = .ok (.iload_n 2, 1) := by decide +kernel
theorem dX7_climb_124 : decode cX7_climb 124 = .ok (.invokestatic 88, 3) := by decide +kernel
theorem dX7_climb_127 : decode cX7_climb 127 = .ok (.ifCond .eq 6, 3) := by decide +kernel
theorem dX7_climb_130 : decode cX7_climb 130 = .ok (.iload 6, 2) := by decide +kernel
theorem dX7_climb_132 : decode cX7_climb 132 = .ok (.ireturn, 1) := by decide +kernel
theorem dX7_climb_133 : decode cX7_climb 133 = .ok (.aload_n 0, 1) := by decide +kernel
theorem dX7_climb_134 : decode cX7_climb 134 = .ok (.invokevirtual 92, 3) := by decide +kernel
theorem dX7_climb_137 : decode cX7_climb 137 = .ok (.iinc 6 2, 3) := by decide +kernel
theorem dX7_climb_140 : decode cX7_climb 140 = .ok (.goto (-40), 3) := by decide +kernel
theorem dX7_climb_143 : decode cX7_climb 143 = .ok (.bipush (-2), 2) := by decide +kernel
theorem dX7_climb_145 : decode cX7_climb 145 = .ok (.ireturn, 1) := by decide +kernel
theorem dX7_gather_0 : decode cX7_gather 0 = .ok (.aload_n 0, 1) := by decide +kernel
theorem dX7_gather_1 : decode cX7_gather 1 = .ok (.getfield 9, 3) := by decide +kernel
theorem dX7_gather_4 : decode cX7_gather 4 = .ok (.iconst 0, 1) := by decide +kernel
theorem dX7_gather_5 : decode cX7_gather 5 = .ok (.invokestatic 69, 3) := by decide +kernel
theorem dX7_gather_8 : decode cX7_gather 8 = .ok (.aload_n 0, 1) := by decide +kernel
theorem dX7_gather_9 : decode cX7_gather 9 = .ok (.aload_n 1, 1) := by decide +kernel
theorem dX7_gather_10 : decode cX7_gather 10 = .ok (.getfield 95, 3) := by decide +kernel
theorem dX7_gather_13 : decode cX7_gather 13 = .ok (.putfield 98, 3) := by decide +kernel
theorem dX7_gather_16 : decode cX7_gather 16 = .ok (.iconst 0, 1) := by decide +kernel
theorem dX7_gather_17 : decode cX7_gather 17 = .ok (.istore_n 2, 1) := by decide +kernel
theorem dX7_gather_18 : decode cX7_gather 18 = .ok (.iload_n 2, 1) := by decide +kernel
theorem dX7_gather_19 : decode cX7_gather 19 = .ok (.aload_n 0, 1) := by decide +kernel
theorem dX7_gather_20 : decode cX7_gather 20 = .ok (.getfield 98, 3) := by decide +kernel
theorem dX7_gather_23 : decode cX7_gather 23 = .ok (.if_icmp .ge 38, 3) := by decide +kernel
theorem dX7_gather_26 : decode cX7_gather 26 = .ok (.aload_n 0, 1) := by decide +kernel
theorem dX7_gather_27 : decode cX7_gather 27 = .ok (.getfield 35, 3) := by decide +kernel
theorem dX7_gather_30 : decode cX7_gather 30 = .ok (.iload_n 2, 1) := by decide +kernel
theorem dX7_gather_31 : decode cX7_gather 31 = .ok (.invokevirtual 101, 3) := by decide +kernel
theorem dX7_gather_34 : decode cX7_gather 34 = .ok (.istore_n 3, 1) := by decide +kernel
theorem dX7_gather_35 : decode cX7_gather 35 = .ok (.iload_n 3, 1) := by decide +kernel
theorem dX7_gather_36 : decode cX7_gather 36 = .ok (.ifCond .lt 19, 3) := by decide +kernel
theorem dX7_gather_39 : decode cX7_gather 39 = .ok (.iload_n 3, 1) := by decide +kernel
theorem dX7_gather_40 : decode cX7_gather 40 = .ok (.bipush 26, 2) := by decide +kernel
theorem dX7_gather_42 : decode cX7_gather 42 = .ok (.if_icmp .ge 13, 3) := by decide +kernel
theorem dX7_gather_45 : decode cX7_gather 45 = .ok (.aload_n 0, 1) := by decide +kernel
theorem dX7_gather_46 : decode cX7_gather 46 = .ok (.getfield 9, 3) := by decide +kernel
theorem dX7_gather_49 : decode cX7_gather 49 = .ok (.iload_n 3, 1) := by decide +kernel
theorem dX7_gather_50 : decode cX7_gather 50 = .ok (.dup2, 1) := by decide +kernel
theorem dX7_gather_51 : decode cX7_gather 51 = .ok (.iaload, 1) := by decide +kernel
theorem dX7_gather_52 : decode cX7_gather 52 = .ok (.iconst 1, 1) := by decide +kernel
theorem dX7_gather_53 : decode cX7_gather 53 = .ok (.iadd, 1) := by decide +kernel
theorem dX7_gather_54 : decode cX7_gather 54 = .ok (.iastore, 1) := by decide +kernel
theorem dX7_gather_55 : decode cX7_gather 55 = .ok (.iinc 2 1, 3) := by decide +kernel
theorem dX7_gather_58 : decode cX7_gather 58 = .ok (.goto (-40), 3) := by decide +kernel
theorem dX7_gather_61 : decode cX7_gather 61 = .ok (.return_, 1) := by decide +kernel
theorem dX7_awayFrom_0 : decode cX7_awayFrom 0 = .ok (.iconst 0, 1) := by decide +kernel
theorem dX7_awayFrom_1 : decode cX7_awayFrom 1 = .ok (.istore_n 3, 1) := by decide +kernel
theorem dX7_awayFrom_2 : decode cX7_awayFrom 2 = .ok (.iconst 0, 1) := by decide +kernel
theorem dX7_awayFrom_3 : decode cX7_awayFrom 3 = .ok (.istore 4, 2) := by decide +kernel
theorem dX7_awayFrom_5 : decode cX7_awayFrom 5 = .ok (.iload 4, 2) := by decide +kernel
theorem dX7_awayFrom_7 : decode cX7_awayFrom 7 = .ok (.aload_n 0, 1) := by decide +kernel
theorem dX7_awayFrom_8 : decode cX7_awayFrom 8 = .ok (.getfield 35, 3) := by decide +kernel
theorem dX7_awayFrom_11 : decode cX7_awayFrom 11 = .ok (.getfield 106, 3) := by decide +kernel
theorem dX7_awayFrom_14 : decode cX7_awayFrom 14 = .ok (.if_icmp .ge 58, 3) := by decide +kernel
theorem dX7_awayFrom_17 : decode cX7_awayFrom 17 = .ok (.iload 4, 2) := by decide +kernel
theorem dX7_awayFrom_19 : decode cX7_awayFrom 19 = .ok (.iconst 3, 1) := by decide +kernel
theorem dX7_awayFrom_20 : decode cX7_awayFrom 20 = .ok (.if_icmp .ge 52, 3) := by decide +kernel
theorem dX7_awayFrom_23 : decode cX7_awayFrom 23 = .ok (.aload_n 0, 1) := by decide +kernel
theorem dX7_awayFrom_24 : decode cX7_awayFrom 24 = .ok (.aload_n 0, 1) := by decide +kernel
theorem dX7_awayFrom_25 : decode cX7_awayFrom 25 = .ok (.getfield 17, 3) := by decide +kernel
theorem dX7_awayFrom_28 : decode cX7_awayFrom 28 = .ok (.iload 4, 2) := by decide +kernel
theorem dX7_awayFrom_30 : decode cX7_awayFrom 30 = .ok (.aaload, 1) := by decide +kernel
theorem dX7_awayFrom_31 : decode cX7_awayFrom 31 = .ok (.iload_n 2, 1) := by decide +kernel
theorem dX7_awayFrom_32 : decode cX7_awayFrom 32 = .ok (.iload 4, 2) := by decide +kernel
theorem dX7_awayFrom_34 : decode cX7_awayFrom 34 = .ok (.invokestatic 109, 3) := by decide +kernel
theorem dX7_awayFrom_37 : decode cX7_awayFrom 37 = .ok (.invokevirtual 112, 3) := by decide +kernel
theorem dX7_awayFrom_40 : decode cX7_awayFrom 40 = .ok (.aload_n 0, 1) := by decide +kernel
theorem dX7_awayFrom_41 : decode cX7_awayFrom 41 = .ok (.iload 4, 2) := by decide +kernel
theorem dX7_awayFrom_43 : decode cX7_awayFrom 43 = .ok (.iload_n 1, 1) := by decide +kernel
theorem dX7_awayFrom_44 : decode cX7_awayFrom 44 = .ok (.iload 4, 2) := by decide +kernel
theorem dX7_awayFrom_46 : decode cX7_awayFrom 46 = .ok (.invokestatic 109, 3) := by decide +kernel
theorem dX7_awayFrom_49 : decode cX7_awayFrom 49 = .ok (.invokevirtual 115, 3) := by decide +kernel
theorem dX7_awayFrom_52 : decode cX7_awayFrom 52 = .ok (.istore 5, 2) := by decide +kernel
theorem dX7_awayFrom_54 : decode cX7_awayFrom 54 = .ok (.iload 5, 2) := by decide +kernel
theorem dX7_awayFrom_56 : decode cX7_awayFrom 56 = .ok (.ifCond .ge 5, 3) := by decide +kernel
theorem dX7_awayFrom_59 : decode cX7_awayFrom 59 = .ok (.iconst (-1), 1) := by decide +kernel
theorem dX7_awayFrom_60 : decode cX7_awayFrom 60 = .ok (.ireturn, 1) := by decide +kernel
theorem dX7_awayFrom_61 : decode cX7_awayFrom 61 = .ok (.iload_n 3, 1) := by decide +kernel
theorem dX7_awayFrom_62 : decode cX7_awayFrom 62 = .ok (.iload 5, 2) := by decide +kernel
theorem dX7_awayFrom_64 : decode cX7_awayFrom 64 = .ok (.iadd, 1) := by decide +kernel
theorem dX7_awayFrom_65 : decode cX7_awayFrom 65 = .ok (.istore_n 3, 1) := by decide +kernel
theorem dX7_awayFrom_66 : decode cX7_awayFrom 66 = .ok (.iinc 4 1, 3) := by decide +kernel
theorem dX7_awayFrom_69 : decode cX7_awayFrom 69 = .ok (.goto (-64), 3) := by decide +kernel
theorem dX7_awayFrom_72 : decode cX7_awayFrom 72 = .ok (.iload_n 3, 1) := by decide +kernel
theorem dX7_awayFrom_73 : decode cX7_awayFrom 73 = .ok (.ireturn, 1) := by decide +kernel
theorem dX7_measure_0 : decode cX7_measure 0 = .ok (.aload_n 1, 1) := by decide +kernel
theorem dX7_measure_1 : decode cX7_measure 1 = .ok (.iconst (-1), 1) := by decide +kernel
theorem dX7_measure_2 : decode cX7_measure 2 = .ok (.invokestatic 69, 3) := by decide +kernel
theorem dX7_measure_5 : decode cX7_measure 5 = .ok (.iload_n 2, 1) := by decide +kernel
theorem dX7_measure_6 : decode cX7_measure 6 = .ok (.ifCond .lt 16, 3) := by decide +kernel
theorem dX7_measure_9 : decode cX7_measure 9 = .ok (.iload_n 2, 1) := by decide +kernel
theorem dX7_measure_10 : decode cX7_measure 10 = .ok (.bipush 25, 2) := by decide +kernel
theorem dX7_measure_12 : decode cX7_measure 12 = .ok (.if_icmp .ge 10, 3) := by decide +kernel
theorem dX7_measure_15 : decode cX7_measure 15 = .ok (.aload_n 1, 1) := by decide +kernel
theorem dX7_measure_16 : decode cX7_measure 16 = .ok (.arraylength, 1) := by decide +kernel
theorem dX7_measure_17 : decode cX7_measure 17 = .ok (.bipush 25, 2) := by decide +kernel
theorem dX7_measure_19 : decode cX7_measure 19 = .ok (.if_icmp .ge 4, 3) := by decide +kernel
theorem dX7_measure_22 : decode cX7_measure 22 = .ok (.return_, 1) := by decide +kernel
theorem dX7_measure_23 : decode cX7_measure 23 = .ok (.aload_n 1, 1) := by decide +kernel
theorem dX7_measure_24 : decode cX7_measure 24 = .ok (.iload_n 2, 1) := by decide +kernel
theorem dX7_measure_25 : decode cX7_measure 25 = .ok (.iconst 0, 1) := by decide +kernel
theorem dX7_measure_26 : decode cX7_measure 26 = .ok (.iastore, 1) := by decide +kernel
theorem dX7_measure_27 : decode cX7_measure 27 = .ok (.aload_n 0, 1) := by decide +kernel
theorem dX7_measure_28 : decode cX7_measure 28 = .ok (.getfield 20, 3) := by decide +kernel
theorem dX7_measure_31 : decode cX7_measure 31 = .ok (.iconst 0, 1) := by decide +kernel
theorem dX7_measure_32 : decode cX7_measure 32 = .ok (.iload_n 2, 1) := by decide +kernel
theorem dX7_measure_33 : decode cX7_measure 33 = .ok (.iastore, 1) := by decide +kernel
theorem dX7_measure_34 : decode cX7_measure 34 = .ok (.iconst 1, 1) := by decide +kernel
theorem dX7_measure_35 : decode cX7_measure 35 = .ok (.istore_n 3, 1) := by decide +kernel
theorem dX7_measure_36 : decode cX7_measure 36 = .ok (.iconst 0, 1) := by decide +kernel
theorem dX7_measure_37 : decode cX7_measure 37 = .ok (.istore 4, 2) := by decide +kernel
theorem dX7_measure_39 : decode cX7_measure 39 = .ok (.iload 4, 2) := by decide +kernel
theorem dX7_measure_41 : decode cX7_measure 41 = .ok (.iload_n 3, 1) := by decide +kernel
theorem dX7_measure_42 : decode cX7_measure 42 = .ok (.if_icmp .ge 145, 3) := by decide +kernel
theorem dX7_measure_45 : decode cX7_measure 45 = .ok (.iload 4, 2) := by decide +kernel
theorem dX7_measure_47 : decode cX7_measure 47 = .ok (.bipush 25, 2) := by decide +kernel
theorem dX7_measure_49 : decode cX7_measure 49 = .ok (.if_icmp .ge 138, 3) := by decide +kernel
theorem dX7_measure_52 : decode cX7_measure 52 = .ok (.aload_n 0, 1) := by decide +kernel
theorem dX7_measure_53 : decode cX7_measure 53 = .ok (.getfield 20, 3) := by decide +kernel
theorem dX7_measure_56 : decode cX7_measure 56 = .ok (.iload 4, 2) := by decide +kernel
theorem dX7_measure_58 : decode cX7_measure 58 = .ok (.iaload, 1) := by decide +kernel
theorem dX7_measure_59 : decode cX7_measure 59 = .ok (.istore 5, 2) := by decide +kernel
theorem dX7_measure_61 : decode cX7_measure 61 = .ok (.aload_n 0, 1) := by decide +kernel
theorem dX7_measure_62 : decode cX7_measure 62 = .ok (.getfield 39, 3) := by decide +kernel
theorem dX7_measure_65 : decode cX7_measure 65 = .ok (.iload 5, 2) := by decide +kernel
theorem dX7_measure_67 : decode cX7_measure 67 = .ok (.invokevirtual 118, 3) := by decide +kernel
theorem dX7_measure_70 : decode cX7_measure 70 = .ok (.istore 6, 2) := by decide +kernel
theorem dX7_measure_72 : decode cX7_measure 72 = .ok (.iconst 0, 1) := by decide +kernel
theorem dX7_measure_73 : decode cX7_measure 73 = .ok (.istore 7, 2) := by decide +kernel
theorem dX7_measure_75 : decode cX7_measure 75 = .ok (.iload 7, 2) := by decide +kernel
theorem dX7_measure_77 : decode cX7_measure 77 = .ok (.iload 6, 2) := by decide +kernel
theorem dX7_measure_79 : decode cX7_measure 79 = .ok (.aload_n 0, 1) := by decide +kernel
theorem dX7_measure_80 : decode cX7_measure 80 = .ok (.getfield 39, 3) := by decide +kernel
theorem dX7_measure_83 : decode cX7_measure 83 = .ok (.iload 5, 2) := by decide +kernel
theorem dX7_measure_85 : decode cX7_measure 85 = .ok (.invokevirtual 123, 3) := by decide +kernel
theorem dX7_measure_88 : decode cX7_measure 88 = .ok (.iadd, 1) := by decide +kernel
theorem dX7_measure_89 : decode cX7_measure 89 = .ok (.if_icmp .ge 92, 3) := by decide +kernel
theorem dX7_measure_92 : decode cX7_measure 92 = .ok (.iload 7, 2) := by decide +kernel
theorem dX7_measure_94 : decode cX7_measure 94 = .ok (.iload 6, 2) := by decide +kernel
theorem dX7_measure_96 : decode cX7_measure 96 = .ok (.if_icmp .ge 17, 3) := by decide +kernel
theorem dX7_measure_99 : decode cX7_measure 99 = .ok (.aload_n 0, 1) := by decide +kernel
theorem dX7_measure_100 : decode cX7_measure 100 = .ok (.getfield 39, 3) := by decide +kernel
theorem dX7_measure_103 : decode cX7_measure 103 = .ok (.iload 5, 2) := by decide +kernel
theorem dX7_measure_105 : decode cX7_measure 105 = .ok (.iload 7, 2) := by decide +kernel
theorem dX7_measure_107 : decode cX7_measure 107 = .ok (.invokevirtual 126, 3) := by decide +kernel
theorem dX7_measure_110 : decode cX7_measure 110 = .ok (.goto 17, 3) := by decide +kernel
theorem dX7_measure_113 : decode cX7_measure 113 = .ok (.aload_n 0, 1) := by decide +kernel
theorem dX7_measure_114 : decode cX7_measure 114 = .ok (.getfield 39, 3) := by decide +kernel
theorem dX7_measure_117 : decode cX7_measure 117 = .ok (.iload 5, 2) := by decide +kernel
theorem dX7_measure_119 : decode cX7_measure 119 = .ok (.iload 7, 2) := by decide +kernel
theorem dX7_measure_121 : decode cX7_measure 121 = .ok (.iload 6, 2) := by decide +kernel
theorem dX7_measure_123 : decode cX7_measure 123 = .ok (.isub, 1) := by decide +kernel
theorem dX7_measure_124 : decode cX7_measure 124 = .ok (.invokevirtual 129, 3) := by decide +kernel
theorem dX7_measure_127 : decode cX7_measure 127 = .ok (.istore 8, 2) := by decide +kernel
theorem dX7_measure_129 : decode cX7_measure 129 = .ok (.iload 8, 2) := by decide +kernel
theorem dX7_measure_131 : decode cX7_measure 131 = .ok (.ifCond .lt 44, 3) := by decide +kernel
theorem dX7_measure_134 : decode cX7_measure 134 = .ok (.iload 8, 2) := by decide +kernel
theorem dX7_measure_136 : decode cX7_measure 136 = .ok (.bipush 25, 2) := by decide +kernel
theorem dX7_measure_138 : decode cX7_measure 138 = .ok (.if_icmp .ge 37, 3) := by decide +kernel
theorem dX7_measure_141 : decode cX7_measure 141 = .ok (.aload_n 1, 1) := by decide +kernel
theorem dX7_measure_142 : decode cX7_measure 142 = .ok (.iload 8, 2) := by decide +kernel
theorem dX7_measure_144 : decode cX7_measure 144 = .ok (.iaload, 1) := by decide +kernel
theorem dX7_measure_145 : decode cX7_measure 145 = .ok (.ifCond .ge 30, 3) := by decide +kernel
theorem dX7_measure_148 : decode cX7_measure 148 = .ok (.iload_n 3, 1) := by decide +kernel
theorem dX7_measure_149 : decode cX7_measure 149 = .ok (.bipush 25, 2) := by decide +kernel
theorem dX7_measure_151 : decode cX7_measure 151 = .ok (.if_icmp .ge 24, 3) := by decide +kernel
theorem dX7_measure_154 : decode cX7_measure 154 = .ok (.aload_n 1, 1) := by decide +kernel
theorem dX7_measure_155 : decode cX7_measure 155 = .ok (.iload 8, 2) := by decide +kernel
theorem dX7_measure_157 : decode cX7_measure 157 = .ok (.aload_n 1, 1) := by decide +kernel
theorem dX7_measure_158 : decode cX7_measure 158 = .ok (.iload 5, 2) := by decide +kernel
theorem dX7_measure_160 : decode cX7_measure 160 = .ok (.iaload, 1) := by decide +kernel
theorem dX7_measure_161 : decode cX7_measure 161 = .ok (.iconst 1, 1) := by decide +kernel
theorem dX7_measure_162 : decode cX7_measure 162 = .ok (.iadd, 1) := by decide +kernel
theorem dX7_measure_163 : decode cX7_measure 163 = .ok (.iastore, 1) := by decide +kernel
theorem dX7_measure_164 : decode cX7_measure 164 = .ok (.aload_n 0, 1) := by decide +kernel
theorem dX7_measure_165 : decode cX7_measure 165 = .ok (.getfield 20, 3) := by decide +kernel
theorem dX7_measure_168 : decode cX7_measure 168 = .ok (.iload_n 3, 1) := by decide +kernel
theorem dX7_measure_169 : decode cX7_measure 169 = .ok (.iload 8, 2) := by decide +kernel
theorem dX7_measure_171 : decode cX7_measure 171 = .ok (.iastore, 1) := by decide +kernel
theorem dX7_measure_172 : decode cX7_measure 172 = .ok (.iinc 3 1, 3) := by decide +kernel
theorem dX7_measure_175 : decode cX7_measure 175 = .ok (.iinc 7 1, 3) := by decide +kernel
theorem dX7_measure_178 : decode cX7_measure 178 = .ok (.goto (-103), 3) := by decide +kernel
theorem dX7_measure_181 : decode cX7_measure 181 = .ok (.iinc 4 1, 3) := by decide +kernel
theorem dX7_measure_184 : decode cX7_measure 184 = .ok (.goto (-145), 3) := by decide +kernel
theorem dX7_measure_187 : decode cX7_measure 187 = .ok (.return_, 1) := by decide +kernel
theorem dX7_farOf_0 : decode cX7_farOf 0 = .ok (.iload_n 1, 1) := by decide +kernel
theorem dX7_farOf_1 : decode cX7_farOf 1 = .ok (.ifCond .lt 29, 3) := by decide +kernel
theorem dX7_farOf_4 : decode cX7_farOf 4 = .ok (.iload_n 1, 1) := by decide +kernel
theorem dX7_farOf_5 : decode cX7_farOf 5 = .ok (.iconst 3, 1) := by decide +kernel
theorem dX7_farOf_6 : decode cX7_farOf 6 = .ok (.if_icmp .ge 24, 3) := by decide +kernel
theorem dX7_farOf_9 : decode cX7_farOf 9 = .ok (.iload_n 2, 1) := by decide +kernel
theorem dX7_farOf_10 : decode cX7_farOf 10 = .ok (.ifCond .lt 20, 3) := by decide +kernel
theorem dX7_farOf_13 : decode cX7_farOf 13 = .ok (.iload_n 2, 1) := by decide +kernel
theorem dX7_farOf_14 : decode cX7_farOf 14 = .ok (.bipush 25, 2) := by decide +kernel
theorem dX7_farOf_16 : decode cX7_farOf 16 = .ok (.if_icmp .ge 14, 3) := by decide +kernel
theorem dX7_farOf_19 : decode cX7_farOf 19 = .ok (.aload_n 0, 1) := by decide +kernel
theorem dX7_farOf_20 : decode cX7_farOf 20 = .ok (.getfield 17, 3) := by decide +kernel
theorem dX7_farOf_23 : decode cX7_farOf 23 = .ok (.iload_n 1, 1) := by decide +kernel
theorem dX7_farOf_24 : decode cX7_farOf 24 = .ok (.aaload, 1) := by decide +kernel
theorem dX7_farOf_25 : decode cX7_farOf 25 = .ok (.iload_n 2, 1) := by decide +kernel
theorem dX7_farOf_26 : decode cX7_farOf 26 = .ok (.iaload, 1) := by decide +kernel
theorem dX7_farOf_27 : decode cX7_farOf 27 = .ok (.goto 4, 3) := by decide +kernel
theorem dX7_farOf_30 : decode cX7_farOf 30 = .ok (.iconst (-1), 1) := by decide +kernel
theorem dX7_farOf_31 : decode cX7_farOf 31 = .ok (.ireturn, 1) := by decide +kernel
theorem dX7_shift_0 : decode cX7_shift 0 = .ok (.iconst 0, 1) := by decide +kernel
theorem dX7_shift_1 : decode cX7_shift 1 = .ok (.istore_n 3, 1) := by decide +kernel
theorem dX7_shift_2 : decode cX7_shift 2 = .ok (.iload_n 3, 1) := by decide +kernel
theorem dX7_shift_3 : decode cX7_shift 3 = .ok (.iconst 3, 1) := by decide +kernel
theorem dX7_shift_4 : decode cX7_shift 4 = .ok (.if_icmp .ge 72, 3) := by decide +kernel
theorem dX7_shift_7 : decode cX7_shift 7 = .ok (.aload_n 0, 1) := by decide +kernel
theorem dX7_shift_8 : decode cX7_shift 8 = .ok (.getfield 35, 3) := by decide +kernel
theorem dX7_shift_11 : decode cX7_shift 11 = .ok (.iload_n 1, 1) := by decide +kernel
theorem dX7_shift_12 : decode cX7_shift 12 = .ok (.iload_n 3, 1) := by decide +kernel
theorem dX7_shift_13 : decode cX7_shift 13 = .ok (.invokestatic 109, 3) := by decide +kernel
theorem dX7_shift_16 : decode cX7_shift 16 = .ok (.invokevirtual 132, 3) := by decide +kernel
theorem dX7_shift_19 : decode cX7_shift 19 = .ok (.astore 4, 2) := by decide +kernel
theorem dX7_shift_21 : decode cX7_shift 21 = .ok (.iconst 0, 1) := by decide +kernel
theorem dX7_shift_22 : decode cX7_shift 22 = .ok (.istore 5, 2) := by decide +kernel
theorem dX7_shift_24 : decode cX7_shift 24 = .ok (.iload 5, 2) := by decide +kernel
theorem dX7_shift_26 : decode cX7_shift 26 = .ok (.aload 4, 2) := by decide +kernel
theorem dX7_shift_28 : decode cX7_shift 28 = .ok (.arraylength, 1) := by decide +kernel
theorem dX7_shift_29 : decode cX7_shift 29 = .ok (.if_icmp .ge 41, 3) := by decide +kernel
theorem dX7_shift_32 : decode cX7_shift 32 = .ok (.aload 4, 2) := by decide +kernel
theorem dX7_shift_34 : decode cX7_shift 34 = .ok (.iload 5, 2) := by decide +kernel
theorem dX7_shift_36 : decode cX7_shift 36 = .ok (.iaload, 1) := by decide +kernel
theorem dX7_shift_37 : decode cX7_shift 37 = .ok (.ifCond .lt 33, 3) := by decide +kernel
theorem dX7_shift_40 : decode cX7_shift 40 = .ok (.aload 4, 2) := by decide +kernel
theorem dX7_shift_42 : decode cX7_shift 42 = .ok (.iload 5, 2) := by decide +kernel
theorem dX7_shift_44 : decode cX7_shift 44 = .ok (.iaload, 1) := by decide +kernel
theorem dX7_shift_45 : decode cX7_shift 45 = .ok (.bipush 26, 2) := by decide +kernel
theorem dX7_shift_47 : decode cX7_shift 47 = .ok (.if_icmp .ge 23, 3) := by decide +kernel
theorem dX7_shift_50 : decode cX7_shift 50 = .ok (.aload_n 0, 1) := by decide +kernel
theorem dX7_shift_51 : decode cX7_shift 51 = .ok (.getfield 9, 3) := by decide +kernel
theorem dX7_shift_54 : decode cX7_shift 54 = .ok (.aload 4, 2) := by decide +kernel
theorem dX7_shift_56 : decode cX7_shift 56 = .ok (.iload 5, 2) := by decide +kernel
theorem dX7_shift_58 : decode cX7_shift 58 = .ok (.iaload, 1) := by decide +kernel
theorem dX7_shift_59 : decode cX7_shift 59 = .ok (.dup2, 1) := by decide +kernel
theorem dX7_shift_60 : decode cX7_shift 60 = .ok (.iaload, 1) := by decide +kernel
theorem dX7_shift_61 : decode cX7_shift 61 = .ok (.iload_n 2, 1) := by decide +kernel
theorem dX7_shift_62 : decode cX7_shift 62 = .ok (.iadd, 1) := by decide +kernel
