theorem dX7_shift_63 : decode cX7_shift 63 = .ok (.iastore, 1) := by decide +kernel
theorem dX7_shift_64 : decode cX7_shift 64 = .ok (.iinc 5 1, 3) := by decide +kernel
theorem dX7_shift_67 : decode cX7_shift 67 = .ok (.goto (-43), 3) := by decide +kernel
theorem dX7_shift_70 : decode cX7_shift 70 = .ok (.iinc 3 1, 3) := by decide +kernel
theorem dX7_shift_73 : decode cX7_shift 73 = .ok (.goto (-71), 3) := by decide +kernel
theorem dX7_shift_76 : decode cX7_shift 76 = .ok (.return_, 1) := by decide +kernel
theorem dX7_canBe_0 : decode cX7_canBe 0 = .ok (.aload_n 0, 1) := by decide +kernel
theorem dX7_canBe_1 : decode cX7_canBe 1 = .ok (.iload_n 1, 1) := by decide +kernel
theorem dX7_canBe_2 : decode cX7_canBe 2 = .ok (.invokevirtual 136, 3) := by decide +kernel
theorem dX7_canBe_5 : decode cX7_canBe 5 = .ok (.aload_n 0, 1) := by decide +kernel
theorem dX7_canBe_6 : decode cX7_canBe 6 = .ok (.getfield 57, 3) := by decide +kernel
theorem dX7_canBe_9 : decode cX7_canBe 9 = .ok (.if_icmp .gt 7, 3) := by decide +kernel
theorem dX7_canBe_12 : decode cX7_canBe 12 = .ok (.iconst 1, 1) := by decide +kernel
theorem dX7_canBe_13 : decode cX7_canBe 13 = .ok (.goto 4, 3) := by decide +kernel
theorem dX7_canBe_16 : decode cX7_canBe 16 = .ok (.iconst 0, 1) := by decide +kernel
theorem dX7_canBe_17 : decode cX7_canBe 17 = .ok (.istore_n 2, 1) := by decide +kernel
theorem dX7_canBe_18 : decode cX7_canBe 18 = .ok (.aload_n 0, 1) := by decide +kernel
theorem dX7_canBe_19 : decode cX7_canBe 19 = .ok (.iload_n 1, 1) := by decide +kernel
theorem dX7_canBe_20 : decode cX7_canBe 20 = .ok (.iconst (-1), 1) := by decide +kernel
theorem dX7_canBe_21 : decode cX7_canBe 21 = .ok (.invokevirtual 139, 3) := by decide +kernel
theorem dX7_canBe_24 : decode cX7_canBe 24 = .ok (.iconst 0, 1) := by decide +kernel
theorem dX7_canBe_25 : decode cX7_canBe 25 = .ok (.istore_n 3, 1) := by decide +kernel
theorem dX7_canBe_26 : decode cX7_canBe 26 = .ok (.iload_n 3, 1) := by decide +kernel
theorem dX7_canBe_27 : decode cX7_canBe 27 = .ok (.bipush 26, 2) := by decide +kernel
theorem dX7_canBe_29 : decode cX7_canBe 29 = .ok (.if_icmp .ge 26, 3) := by decide +kernel
theorem dX7_canBe_32 : decode cX7_canBe 32 = .ok (.iload_n 2, 1) := by decide +kernel
theorem dX7_canBe_33 : decode cX7_canBe 33 = .ok (.aload_n 0, 1) := by decide +kernel
theorem dX7_canBe_34 : decode cX7_canBe 34 = .ok (.getfield 9, 3) := by decide +kernel
theorem dX7_canBe_37 : decode cX7_canBe 37 = .ok (.iload_n 3, 1) := by decide +kernel
theorem dX7_canBe_38 : decode cX7_canBe 38 = .ok (.iaload, 1) := by decide +kernel
theorem dX7_canBe_39 : decode cX7_canBe 39 = .ok (.ifCond .lt 7, 3) := by decide +kernel
theorem dX7_canBe_42 : decode cX7_canBe 42 = .ok (.iconst 1, 1) := by decide +kernel
theorem dX7_canBe_43 : decode cX7_canBe 43 = .ok (.goto 4, 3) := by decide +kernel
theorem dX7_canBe_46 : decode cX7_canBe 46 = .ok (.iconst 0, 1) := by decide +kernel
theorem dX7_canBe_47 : decode cX7_canBe 47 = .ok (.iand, 1) := by decide +kernel
theorem dX7_canBe_48 : decode cX7_canBe 48 = .ok (.istore_n 2, 1) := by decide +kernel
theorem dX7_canBe_49 : decode cX7_canBe 49 = .ok (.iinc 3 1, 3) := by decide +kernel
theorem dX7_canBe_52 : decode cX7_canBe 52 = .ok (.goto (-26), 3) := by decide +kernel
theorem dX7_canBe_55 : decode cX7_canBe 55 = .ok (.aload_n 0, 1) := by decide +kernel
theorem dX7_canBe_56 : decode cX7_canBe 56 = .ok (.iload_n 1, 1) := by decide +kernel
theorem dX7_canBe_57 : decode cX7_canBe 57 = .ok (.iconst 1, 1) := by decide +kernel
theorem dX7_canBe_58 : decode cX7_canBe 58 = .ok (.invokevirtual 139, 3) := by decide +kernel
theorem dX7_canBe_61 : decode cX7_canBe 61 = .ok (.iload_n 2, 1) := by decide +kernel
theorem dX7_canBe_62 : decode cX7_canBe 62 = .ok (.ireturn, 1) := by decide +kernel
theorem dX7_isStanding_0 : decode cX7_isStanding 0 = .ok (.iload_n 1, 1) := by decide +kernel
theorem dX7_isStanding_1 : decode cX7_isStanding 1 = .ok (.ifCond .lt 22, 3) := by decide +kernel
theorem dX7_isStanding_4 : decode cX7_isStanding 4 = .ok (.iload_n 1, 1) := by decide +kernel
theorem dX7_isStanding_5 : decode cX7_isStanding 5 = .ok (.bipush 26, 2) := by decide +kernel
theorem dX7_isStanding_7 : decode cX7_isStanding 7 = .ok (.if_icmp .ge 16, 3) := by decide +kernel
theorem dX7_isStanding_10 : decode cX7_isStanding 10 = .ok (.aload_n 0, 1) := by decide +kernel
theorem dX7_isStanding_11 : decode cX7_isStanding 11 = .ok (.getfield 9, 3) := by decide +kernel
theorem dX7_isStanding_14 : decode cX7_isStanding 14 = .ok (.iload_n 1, 1) := by decide +kernel
theorem dX7_isStanding_15 : decode cX7_isStanding 15 = .ok (.iaload, 1) := by decide +kernel
theorem dX7_isStanding_16 : decode cX7_isStanding 16 = .ok (.ifCond .le 7, 3) := by decide +kernel
theorem dX7_isStanding_19 : decode cX7_isStanding 19 = .ok (.iconst 1, 1) := by decide +kernel
theorem dX7_isStanding_20 : decode cX7_isStanding 20 = .ok (.goto 4, 3) := by decide +kernel
theorem dX7_isStanding_23 : decode cX7_isStanding 23 = .ok (.iconst 0, 1) := by decide +kernel
theorem dX7_isStanding_24 : decode cX7_isStanding 24 = .ok (.ireturn, 1) := by decide +kernel
theorem dX7_standingAt_0 : decode cX7_standingAt 0 = .ok (.aload_n 0, 1) := by decide +kernel
theorem dX7_standingAt_1 : decode cX7_standingAt 1 = .ok (.getfield 98, 3) := by decide +kernel
theorem dX7_standingAt_4 : decode cX7_standingAt 4 = .ok (.aload_n 0, 1) := by decide +kernel
theorem dX7_standingAt_5 : decode cX7_standingAt 5 = .ok (.getfield 35, 3) := by decide +kernel
theorem dX7_standingAt_8 : decode cX7_standingAt 8 = .ok (.iload_n 1, 1) := by decide +kernel
theorem dX7_standingAt_9 : decode cX7_standingAt 9 = .ok (.iconst 0, 1) := by decide +kernel
theorem dX7_standingAt_10 : decode cX7_standingAt 10 = .ok (.invokestatic 109, 3) := by decide +kernel
theorem dX7_standingAt_13 : decode cX7_standingAt 13 = .ok (.invokevirtual 143, 3) := by decide +kernel
theorem dX7_standingAt_16 : decode cX7_standingAt 16 = .ok (.isub, 1) := by decide +kernel
theorem dX7_standingAt_17 : decode cX7_standingAt 17 = .ok (.aload_n 0, 1) := by decide +kernel
theorem dX7_standingAt_18 : decode cX7_standingAt 18 = .ok (.getfield 35, 3) := by decide +kernel
theorem dX7_standingAt_21 : decode cX7_standingAt 21 = .ok (.iload_n 1, 1) := by decide +kernel
theorem dX7_standingAt_22 : decode cX7_standingAt 22 = .ok (.iconst 1, 1) := by decide +kernel
theorem dX7_standingAt_23 : decode cX7_standingAt 23 = .ok (.invokestatic 109, 3) := by decide +kernel
theorem dX7_standingAt_26 : decode cX7_standingAt 26 = .ok (.invokevirtual 143, 3) := by decide +kernel
theorem dX7_standingAt_29 : decode cX7_standingAt 29 = .ok (.isub, 1) := by decide +kernel
theorem dX7_standingAt_30 : decode cX7_standingAt 30 = .ok (.aload_n 0, 1) := by decide +kernel
theorem dX7_standingAt_31 : decode cX7_standingAt 31 = .ok (.getfield 35, 3) := by decide +kernel
theorem dX7_standingAt_34 : decode cX7_standingAt 34 = .ok (.iload_n 1, 1) := by decide +kernel
theorem dX7_standingAt_35 : decode cX7_standingAt 35 = .ok (.iconst 2, 1) := by decide +kernel
theorem dX7_standingAt_36 : decode cX7_standingAt 36 = .ok (.invokestatic 109, 3) := by decide +kernel
theorem dX7_standingAt_39 : decode cX7_standingAt 39 = .ok (.invokevirtual 143, 3) := by decide +kernel
theorem dX7_standingAt_42 : decode cX7_standingAt 42 = .ok (.isub, 1) := by decide +kernel
theorem dX7_standingAt_43 : decode cX7_standingAt 43 = .ok (.ireturn, 1) := by decide +kernel
theorem dX7_goOnAll_0 : decode cX7_goOnAll 0 = .ok (.iconst 0, 1) := by decide +kernel
theorem dX7_goOnAll_1 : decode cX7_goOnAll 1 = .ok (.istore_n 1, 1) := by decide +kernel
theorem dX7_goOnAll_2 : decode cX7_goOnAll 2 = .ok (.iload_n 1, 1) := by decide +kernel
theorem dX7_goOnAll_3 : decode cX7_goOnAll 3 = .ok (.sipush 15625, 3) := by decide +kernel
theorem dX7_goOnAll_6 : decode cX7_goOnAll 6 = .ok (.if_icmp .ge 39, 3) := by decide +kernel
theorem dX7_goOnAll_9 : decode cX7_goOnAll 9 = .ok (.aload_n 0, 1) := by decide +kernel
theorem dX7_goOnAll_10 : decode cX7_goOnAll 10 = .ok (.getfield 75, 3) := by decide +kernel
theorem dX7_goOnAll_13 : decode cX7_goOnAll 13 = .ok (.ifCond .le 32, 3) := by decide +kernel
theorem dX7_goOnAll_16 : decode cX7_goOnAll 16 = .ok (.aload_n 0, 1) := by decide +kernel
theorem dX7_goOnAll_17 : decode cX7_goOnAll 17 = .ok (.dup, 1) := by decide +kernel
theorem dX7_goOnAll_18 : decode cX7_goOnAll 18 = .ok (.getfield 75, 3) := by decide +kernel
theorem dX7_goOnAll_21 : decode cX7_goOnAll 21 = .ok (.iconst 1, 1) := by decide +kernel
theorem dX7_goOnAll_22 : decode cX7_goOnAll 22 = .ok (.isub, 1) := by decide +kernel
theorem dX7_goOnAll_23 : decode cX7_goOnAll 23 = .ok (.putfield 75, 3) := by decide +kernel
theorem dX7_goOnAll_26 : decode cX7_goOnAll 26 = .ok (.aload_n 0, 1) := by decide +kernel
theorem dX7_goOnAll_27 : decode cX7_goOnAll 27 = .ok (.aload_n 0, 1) := by decide +kernel
theorem dX7_goOnAll_28 : decode cX7_goOnAll 28 = .ok (.getfield 23, 3) := by decide +kernel
theorem dX7_goOnAll_31 : decode cX7_goOnAll 31 = .ok (.aload_n 0, 1) := by decide +kernel
theorem dX7_goOnAll_32 : decode cX7_goOnAll 32 = .ok (.getfield 75, 3) := by decide +kernel
theorem dX7_goOnAll_35 : decode cX7_goOnAll 35 = .ok (.iaload, 1) := by decide +kernel
theorem dX7_goOnAll_36 : decode cX7_goOnAll 36 = .ok (.invokevirtual 146, 3) := by decide +kernel
theorem dX7_goOnAll_39 : decode cX7_goOnAll 39 = .ok (.iinc 1 1, 3) := by decide +kernel
theorem dX7_goOnAll_42 : decode cX7_goOnAll 42 = .ok (.goto (-40), 3) := by decide +kernel
theorem dX7_goOnAll_45 : decode cX7_goOnAll 45 = .ok (.return_, 1) := by decide +kernel
theorem dX7_goOn_0 : decode cX7_goOn 0 = .ok (.aload_n 0, 1) := by decide +kernel
theorem dX7_goOn_1 : decode cX7_goOn 1 = .ok (.iload_n 1, 1) := by decide +kernel
theorem dX7_goOn_2 : decode cX7_goOn 2 = .ok (.invokevirtual 136, 3) := by decide +kernel
theorem dX7_goOn_5 : decode cX7_goOn 5 = .ok (.istore_n 2, 1) := by decide +kernel
theorem dX7_goOn_6 : decode cX7_goOn 6 = .ok (.aload_n 0, 1) := by decide +kernel
theorem dX7_goOn_7 : decode cX7_goOn 7 = .ok (.iload_n 1, 1) := by decide +kernel
theorem dX7_goOn_8 : decode cX7_goOn 8 = .ok (.iconst (-1), 1) := by decide +kernel
theorem dX7_goOn_9 : decode cX7_goOn 9 = .ok (.invokevirtual 139, 3) := by decide +kernel
theorem dX7_goOn_12 : decode cX7_goOn 12 = .ok (.iconst 0, 1) := by decide +kernel
theorem dX7_goOn_13 : decode cX7_goOn 13 = .ok (.istore_n 3, 1) := by decide +kernel
theorem dX7_goOn_14 : decode cX7_goOn 14 = .ok (.iload_n 3, 1) := by decide +kernel
theorem dX7_goOn_15 : decode cX7_goOn 15 = .ok (.aload_n 0, 1) := by decide +kernel
theorem dX7_goOn_16 : decode cX7_goOn 16 = .ok (.getfield 35, 3) := by decide +kernel
theorem dX7_goOn_19 : decode cX7_goOn 19 = .ok (.getfield 106, 3) := by decide +kernel
theorem dX7_goOn_22 : decode cX7_goOn 22 = .ok (.if_icmp .ge 138, 3) := by decide +kernel
theorem dX7_goOn_25 : decode cX7_goOn 25 = .ok (.iload_n 1, 1) := by decide +kernel
theorem dX7_goOn_26 : decode cX7_goOn 26 = .ok (.iload_n 3, 1) := by decide +kernel
theorem dX7_goOn_27 : decode cX7_goOn 27 = .ok (.invokestatic 109, 3) := by decide +kernel
theorem dX7_goOn_30 : decode cX7_goOn 30 = .ok (.istore 4, 2) := by decide +kernel
theorem dX7_goOn_32 : decode cX7_goOn 32 = .ok (.iload_n 2, 1) := by decide +kernel
theorem dX7_goOn_33 : decode cX7_goOn 33 = .ok (.iconst 1, 1) := by decide +kernel
theorem dX7_goOn_34 : decode cX7_goOn 34 = .ok (.isub, 1) := by decide +kernel
theorem dX7_goOn_35 : decode cX7_goOn 35 = .ok (.aload_n 0, 1) := by decide +kernel
theorem dX7_goOn_36 : decode cX7_goOn 36 = .ok (.getfield 57, 3) := by decide +kernel
theorem dX7_goOn_39 : decode cX7_goOn 39 = .ok (.if_icmp .gt 63, 3) := by decide +kernel
theorem dX7_goOn_42 : decode cX7_goOn 42 = .ok (.iconst 0, 1) := by decide +kernel
theorem dX7_goOn_43 : decode cX7_goOn 43 = .ok (.istore 5, 2) := by decide +kernel
theorem dX7_goOn_45 : decode cX7_goOn 45 = .ok (.iload 5, 2) := by decide +kernel
theorem dX7_goOn_47 : decode cX7_goOn 47 = .ok (.aload_n 0, 1) := by decide +kernel
theorem dX7_goOn_48 : decode cX7_goOn 48 = .ok (.getfield 39, 3) := by decide +kernel
theorem dX7_goOn_51 : decode cX7_goOn 51 = .ok (.iload 4, 2) := by decide +kernel
theorem dX7_goOn_53 : decode cX7_goOn 53 = .ok (.invokevirtual 118, 3) := by decide +kernel
theorem dX7_goOn_56 : decode cX7_goOn 56 = .ok (.if_icmp .ge 46, 3) := by decide +kernel
theorem dX7_goOn_59 : decode cX7_goOn 59 = .ok (.aload_n 0, 1) := by decide +kernel
theorem dX7_goOn_60 : decode cX7_goOn 60 = .ok (.aload_n 0, 1) := by decide +kernel
theorem dX7_goOn_61 : decode cX7_goOn 61 = .ok (.getfield 39, 3) := by decide +kernel
theorem dX7_goOn_64 : decode cX7_goOn 64 = .ok (.iload 4, 2) := by decide +kernel
theorem dX7_goOn_66 : decode cX7_goOn 66 = .ok (.iload 5, 2) := by decide +kernel
theorem dX7_goOn_68 : decode cX7_goOn 68 = .ok (.invokevirtual 149, 3) := by decide +kernel
theorem dX7_goOn_71 : decode cX7_goOn 71 = .ok (.invokevirtual 152, 3) := by decide +kernel
theorem dX7_goOn_74 : decode cX7_goOn 74 = .ok (.ifCond .eq 22, 3) := by decide +kernel
theorem dX7_goOn_77 : decode cX7_goOn 77 = .ok (.aload_n 0, 1) := by decide +kernel
theorem dX7_goOn_78 : decode cX7_goOn 78 = .ok (.iload_n 1, 1) := by decide +kernel
theorem dX7_goOn_79 : decode cX7_goOn 79 = .ok (.iload_n 3, 1) := by decide +kernel
theorem dX7_goOn_80 : decode cX7_goOn 80 = .ok (.iload 4, 2) := by decide +kernel
theorem dX7_goOn_82 : decode cX7_goOn 82 = .ok (.aload_n 0, 1) := by decide +kernel
theorem dX7_goOn_83 : decode cX7_goOn 83 = .ok (.getfield 39, 3) := by decide +kernel
theorem dX7_goOn_86 : decode cX7_goOn 86 = .ok (.iload 4, 2) := by decide +kernel
theorem dX7_goOn_88 : decode cX7_goOn 88 = .ok (.iload 5, 2) := by decide +kernel
theorem dX7_goOn_90 : decode cX7_goOn 90 = .ok (.invokevirtual 126, 3) := by decide +kernel
theorem dX7_goOn_93 : decode cX7_goOn 93 = .ok (.invokevirtual 155, 3) := by decide +kernel
theorem dX7_goOn_96 : decode cX7_goOn 96 = .ok (.iinc 5 1, 3) := by decide +kernel
theorem dX7_goOn_99 : decode cX7_goOn 99 = .ok (.goto (-54), 3) := by decide +kernel
theorem dX7_goOn_102 : decode cX7_goOn 102 = .ok (.iload_n 2, 1) := by decide +kernel
theorem dX7_goOn_103 : decode cX7_goOn 103 = .ok (.iconst 1, 1) := by decide +kernel
theorem dX7_goOn_104 : decode cX7_goOn 104 = .ok (.iadd, 1) := by decide +kernel
theorem dX7_goOn_105 : decode cX7_goOn 105 = .ok (.aload_n 0, 1) := by decide +kernel
theorem dX7_goOn_106 : decode cX7_goOn 106 = .ok (.getfield 57, 3) := by decide +kernel
theorem dX7_goOn_109 : decode cX7_goOn 109 = .ok (.if_icmp .gt 45, 3) := by decide +kernel
theorem dX7_goOn_112 : decode cX7_goOn 112 = .ok (.iconst 0, 1) := by decide +kernel
theorem dX7_goOn_113 : decode cX7_goOn 113 = .ok (.istore 5, 2) := by decide +kernel
theorem dX7_goOn_115 : decode cX7_goOn 115 = .ok (.iload 5, 2) := by decide +kernel
theorem dX7_goOn_117 : decode cX7_goOn 117 = .ok (.aload_n 0, 1) := by decide +kernel
theorem dX7_goOn_118 : decode cX7_goOn 118 = .ok (.getfield 39, 3) := by decide +kernel
theorem dX7_goOn_121 : decode cX7_goOn 121 = .ok (.iload 4, 2) := by decide +kernel
theorem dX7_goOn_123 : decode cX7_goOn 123 = .ok (.invokevirtual 123, 3) := by decide +kernel
theorem dX7_goOn_126 : decode cX7_goOn 126 = .ok (.if_icmp .ge 28, 3) := by decide +kernel
theorem dX7_goOn_129 : decode cX7_goOn 129 = .ok (.aload_n 0, 1) := by decide +kernel
theorem dX7_goOn_130 : decode cX7_goOn 130 = .ok (.iload_n 1, 1) := by decide +kernel
theorem dX7_goOn_131 : decode cX7_goOn 131 = .ok (.iload_n 3, 1) := by decide +kernel
theorem dX7_goOn_132 : decode cX7_goOn 132 = .ok (.iload 4, 2) := by decide +kernel
theorem dX7_goOn_134 : decode cX7_goOn 134 = .ok (.aload_n 0, 1) := by decide +kernel
theorem dX7_goOn_135 : decode cX7_goOn 135 = .ok (.getfield 39, 3) := by decide +kernel
theorem dX7_goOn_138 : decode cX7_goOn 138 = .ok (.iload 4, 2) := by decide +kernel
theorem dX7_goOn_140 : decode cX7_goOn 140 = .ok (.iload 5, 2) := by decide +kernel
theorem dX7_goOn_142 : decode cX7_goOn 142 = .ok (.invokevirtual 129, 3) := by decide +kernel
theorem dX7_goOn_145 : decode cX7_goOn 145 = .ok (.invokevirtual 155, 3) := by decide +kernel
theorem dX7_goOn_148 : decode cX7_goOn 148 = .ok (.iinc 5 1, 3) := by decide +kernel
theorem dX7_goOn_151 : decode cX7_goOn 151 = .ok (.goto (-36), 3) := by decide +kernel
theorem dX7_goOn_154 : decode cX7_goOn 154 = .ok (.iinc 3 1, 3) := by decide +kernel
theorem dX7_goOn_157 : decode cX7_goOn 157 = .ok (.goto (-143), 3) := by decide +kernel
theorem dX7_goOn_160 : decode cX7_goOn 160 = .ok (.aload_n 0, 1) := by decide +kernel
theorem dX7_goOn_161 : decode cX7_goOn 161 = .ok (.iload_n 1, 1) := by decide +kernel
theorem dX7_goOn_162 : decode cX7_goOn 162 = .ok (.iconst 1, 1) := by decide +kernel
theorem dX7_goOn_163 : decode cX7_goOn 163 = .ok (.invokevirtual 139, 3) := by decide +kernel
theorem dX7_goOn_166 : decode cX7_goOn 166 = .ok (.return_, 1) := by decide +kernel
theorem dX7_step_0 : decode cX7_step 0 = .ok (.iload_n 1, 1) := by decide +kernel
theorem dX7_step_1 : decode cX7_step 1 = .ok (.iload 4, 2) := by decide +kernel
theorem dX7_step_3 : decode cX7_step 3 = .ok (.iload_n 3, 1) := by decide +kernel
theorem dX7_step_4 : decode cX7_step 4 = .ok (.isub, 1) := by decide +kernel
theorem dX7_step_5 : decode cX7_step 5 = .ok (.iload_n 2, 1) := by decide +kernel
theorem dX7_step_6 : decode cX7_step 6 = .ok (.invokestatic 159, 3) := by decide +kernel
theorem dX7_step_9 : decode cX7_step 9 = .ok (.imul, 1) := by decide +kernel
theorem dX7_step_10 : decode cX7_step 10 = .ok (.iadd, 1) := by decide +kernel
theorem dX7_step_11 : decode cX7_step 11 = .ok (.istore 5, 2) := by decide +kernel
theorem dX7_step_13 : decode cX7_step 13 = .ok (.aload_n 0, 1) := by decide +kernel
theorem dX7_step_14 : decode cX7_step 14 = .ok (.iload_n 2, 1) := by decide +kernel
theorem dX7_step_15 : decode cX7_step 15 = .ok (.iload 4, 2) := by decide +kernel
theorem dX7_step_17 : decode cX7_step 17 = .ok (.invokevirtual 115, 3) := by decide +kernel
theorem dX7_step_20 : decode cX7_step 20 = .ok (.aload_n 0, 1) := by decide +kernel
theorem dX7_step_21 : decode cX7_step 21 = .ok (.iload_n 2, 1) := by decide +kernel
theorem dX7_step_22 : decode cX7_step 22 = .ok (.iload_n 3, 1) := by decide +kernel
theorem dX7_step_23 : decode cX7_step 23 = .ok (.invokevirtual 115, 3) := by decide +kernel
theorem dX7_step_26 : decode cX7_step 26 = .ok (.if_icmp .ge 12, 3) := by decide +kernel
theorem dX7_step_29 : decode cX7_step 29 = .ok (.aload_n 0, 1) := by decide +kernel
theorem dX7_step_30 : decode cX7_step 30 = .ok (.iload 5, 2) := by decide +kernel
theorem dX7_step_32 : decode cX7_step 32 = .ok (.invokevirtual 81, 3) := by decide +kernel
theorem dX7_step_35 : decode cX7_step 35 = .ok (.goto 9, 3) := by decide +kernel
theorem dX7_step_38 : decode cX7_step 38 = .ok (.aload_n 0, 1) := by decide +kernel
theorem dX7_step_39 : decode cX7_step 39 = .ok (.iload 5, 2) := by decide +kernel
theorem dX7_step_41 : decode cX7_step 41 = .ok (.invokevirtual 162, 3) := by decide +kernel
theorem dX7_step_44 : decode cX7_step 44 = .ok (.return_, 1) := by decide +kernel
theorem dX7_putNow_0 : decode cX7_putNow 0 = .ok (.iload_n 1, 1) := by decide +kernel
theorem dX7_putNow_1 : decode cX7_putNow 1 = .ok (.ifCond .lt 69, 3) := by decide +kernel
theorem dX7_putNow_4 : decode cX7_putNow 4 = .ok (.iload_n 1, 1) := by decide +kernel
theorem dX7_putNow_5 : decode cX7_putNow 5 = .ok (.sipush 15625, 3) := by decide +kernel
theorem dX7_putNow_8 : decode cX7_putNow 8 = .ok (.if_icmp .ge 62, 3) := by decide +kernel
theorem dX7_putNow_11 : decode cX7_putNow 11 = .ok (.aload_n 0, 1) := by decide +kernel
theorem dX7_putNow_12 : decode cX7_putNow 12 = .ok (.getfield 75, 3) := by decide +kernel
theorem dX7_putNow_15 : decode cX7_putNow 15 = .ok (.sipush 15625, 3) := by decide +kernel
theorem dX7_putNow_18 : decode cX7_putNow 18 = .ok (.if_icmp .ge 52, 3) := by decide +kernel
theorem dX7_putNow_21 : decode cX7_putNow 21 = .ok (.aload_n 0, 1) := by decide +kernel
theorem dX7_putNow_22 : decode cX7_putNow 22 = .ok (.getfield 29, 3) := by decide +kernel
theorem dX7_putNow_25 : decode cX7_putNow 25 = .ok (.iload_n 1, 1) := by decide +kernel
theorem dX7_putNow_26 : decode cX7_putNow 26 = .ok (.invokestatic 88, 3) := by decide +kernel
theorem dX7_putNow_29 : decode cX7_putNow 29 = .ok (.ifCond .ne 41, 3) := by decide +kernel
theorem dX7_putNow_32 : decode cX7_putNow 32 = .ok (.aload_n 0, 1) := by decide +kernel
theorem dX7_putNow_33 : decode cX7_putNow 33 = .ok (.getfield 29, 3) := by decide +kernel
theorem dX7_putNow_36 : decode cX7_putNow 36 = .ok (.iload_n 1, 1) := by decide +kernel
theorem dX7_putNow_37 : decode cX7_putNow 37 = .ok (.bipush 32, 2) := by decide +kernel
theorem dX7_putNow_39 : decode cX7_putNow 39 = .ok (.idiv, 1) := by decide +kernel
theorem dX7_putNow_40 : decode cX7_putNow 40 = .ok (.dup2, 1) := by decide +kernel
theorem dX7_putNow_41 : decode cX7_putNow 41 = .ok (.iaload, 1) := by decide +kernel
theorem dX7_putNow_42 : decode cX7_putNow 42 = .ok (.iconst 1, 1) := by decide +kernel
theorem dX7_putNow_43 : decode cX7_putNow 43 = .ok (.iload_n 1, 1) := by decide +kernel
theorem dX7_putNow_44 : decode cX7_putNow 44 = .ok (.bipush 32, 2) := by decide +kernel
theorem dX7_putNow_46 : decode cX7_putNow 46 = .ok (.irem, 1) := by decide +kernel
theorem dX7_putNow_47 : decode cX7_putNow 47 = .ok (.ishl, 1) := by decide +kernel
theorem dX7_putNow_48 : decode cX7_putNow 48 = .ok (.ior, 1) := by decide +kernel
theorem dX7_putNow_49 : decode cX7_putNow 49 = .ok (.iastore, 1) := by decide +kernel
theorem dX7_putNow_50 : decode cX7_putNow 50 = .ok (.aload_n 0, 1) := by decide +kernel
theorem dX7_putNow_51 : decode cX7_putNow 51 = .ok (.getfield 23, 3) := by decide +kernel
theorem dX7_putNow_54 : decode cX7_putNow 54 = .ok (.aload_n 0, 1) := by decide +kernel
theorem dX7_putNow_55 : decode cX7_putNow 55 = .ok (.getfield 75, 3) := by decide +kernel
theorem dX7_putNow_58 : decode cX7_putNow 58 = .ok (.iload_n 1, 1) := by decide +kernel
theorem dX7_putNow_59 : decode cX7_putNow 59 = .ok (.iastore, 1) := by decide +kernel
theorem dX7_putNow_60 : decode cX7_putNow 60 = .ok (.aload_n 0, 1) := by decide +kernel
theorem dX7_putNow_61 : decode cX7_putNow 61 = .ok (.dup, 1) := by decide +kernel
theorem dX7_putNow_62 : decode cX7_putNow 62 = .ok (.getfield 75, 3) := by decide +kernel
theorem dX7_putNow_65 : decode cX7_putNow 65 = .ok (.iconst 1, 1) := by decide +kernel
theorem dX7_putNow_66 : decode cX7_putNow 66 = .ok (.iadd, 1) := by decide +kernel
theorem dX7_putNow_67 : decode cX7_putNow 67 = .ok (.putfield 75, 3) := by decide +kernel
theorem dX7_putNow_70 : decode cX7_putNow 70 = .ok (.return_, 1) := by decide +kernel
theorem dX7_putLater_0 : decode cX7_putLater 0 = .ok (.iload_n 1, 1) := by decide +kernel
theorem dX7_putLater_1 : decode cX7_putLater 1 = .ok (.ifCond .lt 80, 3) := by decide +kernel
theorem dX7_putLater_4 : decode cX7_putLater 4 = .ok (.iload_n 1, 1) := by decide +kernel
theorem dX7_putLater_5 : decode cX7_putLater 5 = .ok (.sipush 15625, 3) := by decide +kernel
theorem dX7_putLater_8 : decode cX7_putLater 8 = .ok (.if_icmp .ge 73, 3) := by decide +kernel
theorem dX7_putLater_11 : decode cX7_putLater 11 = .ok (.aload_n 0, 1) := by decide +kernel
theorem dX7_putLater_12 : decode cX7_putLater 12 = .ok (.getfield 78, 3) := by decide +kernel
theorem dX7_putLater_15 : decode cX7_putLater 15 = .ok (.sipush 15625, 3) := by decide +kernel
theorem dX7_putLater_18 : decode cX7_putLater 18 = .ok (.if_icmp .ge 63, 3) := by decide +kernel
theorem dX7_putLater_21 : decode cX7_putLater 21 = .ok (.aload_n 0, 1) := by decide +kernel
theorem dX7_putLater_22 : decode cX7_putLater 22 = .ok (.getfield 29, 3) := by decide +kernel
theorem dX7_putLater_25 : decode cX7_putLater 25 = .ok (.iload_n 1, 1) := by decide +kernel
theorem dX7_putLater_26 : decode cX7_putLater 26 = .ok (.invokestatic 88, 3) := by decide +kernel
theorem dX7_putLater_29 : decode cX7_putLater 29 = .ok (.ifCond .ne 52, 3) := by decide +kernel
theorem dX7_putLater_32 : decode cX7_putLater 32 = .ok (.aload_n 0, 1) := by decide +kernel
theorem dX7_putLater_33 : decode cX7_putLater 33 = .ok (.getfield 32, 3) := by decide +kernel
theorem dX7_putLater_36 : decode cX7_putLater 36 = .ok (.iload_n 1, 1) := by decide +kernel
theorem dX7_putLater_37 : decode cX7_putLater 37 = .ok (.invokestatic 88, 3) := by decide +kernel
theorem dX7_putLater_40 : decode cX7_putLater 40 = .ok (.ifCond .ne 41, 3) := by decide +kernel
theorem dX7_putLater_43 : decode cX7_putLater 43 = .ok (.aload_n 0, 1) := by decide +kernel
theorem dX7_putLater_44 : decode cX7_putLater 44 = .ok (.getfield 32, 3) := by decide +kernel
theorem dX7_putLater_47 : decode cX7_putLater 47 = .ok (.iload_n 1, 1) := by decide +kernel
theorem dX7_putLater_48 : decode cX7_putLater 48 = .ok (.bipush 32, 2) := by decide +kernel
theorem dX7_putLater_50 : decode cX7_putLater 50 = .ok (.idiv, 1) := by decide +kernel
theorem dX7_putLater_51 : decode cX7_putLater 51 = .ok (.dup2, 1) := by decide +kernel
theorem dX7_putLater_52 : decode cX7_putLater 52 = .ok (.iaload, 1) := by decide +kernel
theorem dX7_putLater_53 : decode cX7_putLater 53 = .ok (.iconst 1, 1) := by decide +kernel
theorem dX7_putLater_54 : decode cX7_putLater 54 = .ok (.iload_n 1, 1) := by decide +kernel
theorem dX7_putLater_55 : decode cX7_putLater 55 = .ok (.bipush 32, 2) := by decide +kernel
theorem dX7_putLater_57 : decode cX7_putLater 57 = .ok (.irem, 1) := by decide +kernel
theorem dX7_putLater_58 : decode cX7_putLater 58 = .ok (.ishl, 1) := by decide +kernel
theorem dX7_putLater_59 : decode cX7_putLater 59 = .ok (.ior, 1) := by decide +kernel
theorem dX7_putLater_60 : decode cX7_putLater 60 = .ok (.iastore, 1) := by decide +kernel
theorem dX7_putLater_61 : decode cX7_putLater 61 = .ok (.aload_n 0, 1) := by decide +kernel
theorem dX7_putLater_62 : decode cX7_putLater 62 = .ok (.getfield 26, 3) := by decide +kernel
theorem dX7_putLater_65 : decode cX7_putLater 65 = .ok (.aload_n 0, 1) := by decide +kernel
theorem dX7_putLater_66 : decode cX7_putLater 66 = .ok (.getfield 78, 3) := by decide +kernel
theorem dX7_putLater_69 : decode cX7_putLater 69 = .ok (.iload_n 1, 1) := by decide +kernel
theorem dX7_putLater_70 : decode cX7_putLater 70 = .ok (.iastore, 1) := by decide +kernel
theorem dX7_putLater_71 : decode cX7_putLater 71 = .ok (.aload_n 0, 1) := by decide +kernel
theorem dX7_putLater_72 : decode cX7_putLater 72 = .ok (.dup, 1) := by decide +kernel
theorem dX7_putLater_73 : decode cX7_putLater 73 = .ok (.getfield 78, 3) := by decide +kernel
theorem dX7_putLater_76 : decode cX7_putLater 76 = .ok (.iconst 1, 1) := by decide +kernel
theorem dX7_putLater_77 : decode cX7_putLater 77 = .ok (.iadd, 1) := by decide +kernel
theorem dX7_putLater_78 : decode cX7_putLater 78 = .ok (.putfield 78, 3) := by decide +kernel
theorem dX7_putLater_81 : decode cX7_putLater 81 = .ok (.return_, 1) := by decide +kernel
theorem dX7_takeLater_0 : decode cX7_takeLater 0 = .ok (.aload_n 0, 1) := by decide +kernel
theorem dX7_takeLater_1 : decode cX7_takeLater 1 = .ok (.getfield 26, 3) := by decide +kernel
theorem dX7_takeLater_4 : decode cX7_takeLater 4 = .ok (.astore_n 1, 1) := by decide +kernel
theorem dX7_takeLater_5 : decode cX7_takeLater 5 = .ok (.aload_n 0, 1) := by decide +kernel
theorem dX7_takeLater_6 : decode cX7_takeLater 6 = .ok (.getfield 78, 3) := by decide +kernel
theorem dX7_takeLater_9 : decode cX7_takeLater 9 = .ok (.istore_n 2, 1) := by decide +kernel
theorem dX7_takeLater_10 : decode cX7_takeLater 10 = .ok (.aload_n 0, 1) := by decide +kernel
theorem dX7_takeLater_11 : decode cX7_takeLater 11 = .ok (.aload_n 0, 1) := by decide +kernel
theorem dX7_takeLater_12 : decode cX7_takeLater 12 = .ok (.getfield 23, 3) := by decide +kernel
theorem dX7_takeLater_15 : decode cX7_takeLater 15 = .ok (.putfield 26, 3) := by decide +kernel
theorem dX7_takeLater_18 : decode cX7_takeLater 18 = .ok (.aload_n 0, 1) := by decide +kernel
theorem dX7_takeLater_19 : decode cX7_takeLater 19 = .ok (.aload_n 1, 1) := by decide +kernel
theorem dX7_takeLater_20 : decode cX7_takeLater 20 = .ok (.putfield 23, 3) := by decide +kernel
theorem dX7_takeLater_23 : decode cX7_takeLater 23 = .ok (.aload_n 0, 1) := by decide +kernel
theorem dX7_takeLater_24 : decode cX7_takeLater 24 = .ok (.iconst 0, 1) := by decide +kernel
theorem dX7_takeLater_25 : decode cX7_takeLater 25 = .ok (.putfield 78, 3) := by decide +kernel
theorem dX7_takeLater_28 : decode cX7_takeLater 28 = .ok (.aload_n 0, 1) := by decide +kernel
theorem dX7_takeLater_29 : decode cX7_takeLater 29 = .ok (.iconst 0, 1) := by decide +kernel
theorem dX7_takeLater_30 : decode cX7_takeLater 30 = .ok (.putfield 75, 3) := by decide +kernel
theorem dX7_takeLater_33 : decode cX7_takeLater 33 = .ok (.iconst 0, 1) := by decide +kernel
theorem dX7_takeLater_34 : decode cX7_takeLater 34 = .ok (.istore_n 3, 1) := by decide +kernel
theorem dX7_takeLater_35 : decode cX7_takeLater 35 = .ok (.iload_n 3, 1) := by decide +kernel
theorem dX7_takeLater_36 : decode cX7_takeLater 36 = .ok (.iload_n 2, 1) := by decide +kernel
theorem dX7_takeLater_37 : decode cX7_takeLater 37 = .ok (.if_icmp .ge 23, 3) := by decide +kernel
theorem dX7_takeLater_40 : decode cX7_takeLater 40 = .ok (.iload_n 3, 1) := by decide +kernel
theorem dX7_takeLater_41 : decode cX7_takeLater 41 = .ok (.sipush 15625, 3) := by decide +kernel
theorem dX7_takeLater_44 : decode cX7_takeLater 44 = .ok (.if_icmp .ge 16, 3) := by decide +kernel
theorem dX7_takeLater_47 : decode cX7_takeLater 47 = .ok (.aload_n 0, 1) := by decide +kernel
theorem dX7_takeLater_48 : decode cX7_takeLater 48 = .ok (.aload_n 1, 1) := by decide +kernel
theorem dX7_takeLater_49 : decode cX7_takeLater 49 = .ok (.iload_n 3, 1) := by decide +kernel
theorem dX7_takeLater_50 : decode cX7_takeLater 50 = .ok (.iaload, 1) := by decide +kernel
theorem dX7_takeLater_51 : decode cX7_takeLater 51 = .ok (.invokevirtual 81, 3) := by decide +kernel
theorem dX7_takeLater_54 : decode cX7_takeLater 54 = .ok (.iinc 3 1, 3) := by decide +kernel
theorem dX7_takeLater_57 : decode cX7_takeLater 57 = .ok (.goto (-22), 3) := by decide +kernel
theorem dX7_takeLater_60 : decode cX7_takeLater 60 = .ok (.return_, 1) := by decide +kernel
theorem dX7_isIn_0 : decode cX7_isIn 0 = .ok (.iload_n 1, 1) := by decide +kernel
theorem dX7_isIn_1 : decode cX7_isIn 1 = .ok (.ifCond .lt 33, 3) := by decide +kernel
theorem dX7_isIn_4 : decode cX7_isIn 4 = .ok (.iload_n 1, 1) := by decide +kernel
theorem dX7_isIn_5 : decode cX7_isIn 5 = .ok (.bipush 32, 2) := by decide +kernel
theorem dX7_isIn_7 : decode cX7_isIn 7 = .ok (.idiv, 1) := by decide +kernel
theorem dX7_isIn_8 : decode cX7_isIn 8 = .ok (.aload_n 0, 1) := by decide +kernel
theorem dX7_isIn_9 : decode cX7_isIn 9 = .ok (.arraylength, 1) := by decide +kernel
theorem dX7_isIn_10 : decode cX7_isIn 10 = .ok (.if_icmp .ge 24, 3) := by decide +kernel
theorem dX7_isIn_13 : decode cX7_isIn 13 = .ok (.aload_n 0, 1) := by decide +kernel
theorem dX7_isIn_14 : decode cX7_isIn 14 = .ok (.iload_n 1, 1) := by decide +kernel
theorem dX7_isIn_15 : decode cX7_isIn 15 = .ok (.bipush 32, 2) := by decide +kernel
theorem dX7_isIn_17 : decode cX7_isIn 17 = .ok (.idiv, 1) := by decide +kernel
theorem dX7_isIn_18 : decode cX7_isIn 18 = .ok (.iaload, 1) := by decide +kernel
theorem dX7_isIn_19 : decode cX7_isIn 19 = .ok (.iload_n 1, 1) := by decide +kernel
theorem dX7_isIn_20 : decode cX7_isIn 20 = .ok (.bipush 32, 2) := by decide +kernel
theorem dX7_isIn_22 : decode cX7_isIn 22 = .ok (.irem, 1) := by decide +kernel
theorem dX7_isIn_23 : decode cX7_isIn 23 = .ok (.iushr, 1) := by decide +kernel
theorem dX7_isIn_24 : decode cX7_isIn 24 = .ok (.iconst 1, 1) := by decide +kernel
theorem dX7_isIn_25 : decode cX7_isIn 25 = .ok (.iand, 1) := by decide +kernel
theorem dX7_isIn_26 : decode cX7_isIn 26 = .ok (.iconst 1, 1) := by decide +kernel
theorem dX7_isIn_27 : decode cX7_isIn 27 = .ok (.if_icmp .ne 7, 3) := by decide +kernel
theorem dX7_isIn_30 : decode cX7_isIn 30 = .ok (.iconst 1, 1) := by decide +kernel
theorem dX7_isIn_31 : decode cX7_isIn 31 = .ok (.goto 4, 3) := by decide +kernel
theorem dX7_isIn_34 : decode cX7_isIn 34 = .ok (.iconst 0, 1) := by decide +kernel
theorem dX7_isIn_35 : decode cX7_isIn 35 = .ok (.ireturn, 1) := by decide +kernel
theorem dX8_init_0 : decode cX8_init 0 = .ok (.aload_n 0, 1) := by decide +kernel
theorem dX8_init_1 : decode cX8_init 1 = .ok (.invokespecial 3, 3) := by decide +kernel
theorem dX8_init_4 : decode cX8_init 4 = .ok (.aload_n 0, 1) := by decide +kernel
theorem dX8_init_5 : decode cX8_init 5 = .ok (.aload_n 1, 1) := by decide +kernel
theorem dX8_init_6 : decode cX8_init 6 = .ok (.putfield 9, 3) := by decide +kernel
theorem dX8_init_9 : decode cX8_init 9 = .ok (.aload_n 0, 1) := by decide +kernel
theorem dX8_init_10 : decode cX8_init 10 = .ok (.aload_n 2, 1) := by decide +kernel
theorem dX8_init_11 : decode cX8_init 11 = .ok (.putfield 15, 3) := by decide +kernel
theorem dX8_init_14 : decode cX8_init 14 = .ok (.aload_n 0, 1) := by decide +kernel
theorem dX8_init_15 : decode cX8_init 15 = .ok (.aload_n 3, 1) := by decide +kernel
theorem dX8_init_16 : decode cX8_init 16 = .ok (.putfield 19, 3) := by decide +kernel
theorem dX8_init_19 : decode cX8_init 19 = .ok (.return_, 1) := by decide +kernel
theorem dX8_receive_0 : decode cX8_receive 0 = .ok (.aload_n 0, 1) := by decide +kernel
theorem dX8_receive_1 : decode cX8_receive 1 = .ok (.getfield 9, 3) := by decide +kernel
theorem dX8_receive_4 : decode cX8_receive 4 = .ok (.aload_n 1, 1) := by decide +kernel
theorem dX8_receive_5 : decode cX8_receive 5 = .ok (.getfield 23, 3) := by decide +kernel
theorem dX8_receive_8 : decode cX8_receive 8 = .ok (.invokevirtual 29, 3) := by decide +kernel
theorem dX8_receive_11 : decode cX8_receive 11 = .ok (.ifCond .ne 4, 3) := by decide +kernel
theorem dX8_receive_14 : decode cX8_receive 14 = .ok (.return_, 1) := by decide +kernel
theorem dX8_receive_15 : decode cX8_receive 15 = .ok (.aload_n 0, 1) := by decide +kernel
theorem dX8_receive_16 : decode cX8_receive 16 = .ok (.getfield 9, 3) := by decide +kernel
theorem dX8_receive_19 : decode cX8_receive 19 = .ok (.aload_n 1, 1) := by decide +kernel
theorem dX8_receive_20 : decode cX8_receive 20 = .ok (.getfield 23, 3) := by decide +kernel
theorem dX8_receive_23 : decode cX8_receive 23 = .ok (.invokevirtual 35, 3) := by decide +kernel
theorem dX8_receive_26 : decode cX8_receive 26 = .ok (.istore_n 2, 1) := by decide +kernel
theorem dX8_receive_27 : decode cX8_receive 27 = .ok (.iconst (-1), 1) := by decide +kernel
theorem dX8_receive_28 : decode cX8_receive 28 = .ok (.istore_n 3, 1) := by decide +kernel
theorem dX8_receive_29 : decode cX8_receive 29 = .ok (.iconst (-1), 1) := by decide +kernel
theorem dX8_receive_30 : decode cX8_receive 30 = .ok (.istore 4, 2) := by decide +kernel
theorem dX8_receive_32 : decode cX8_receive 32 = .ok (.iconst 0, 1) := by decide +kernel
theorem dX8_receive_33 : decode cX8_receive 33 = .ok (.istore 5, 2) := by decide +kernel
theorem dX8_receive_35 : decode cX8_receive 35 = .ok (.iconst 0, 1) := by decide +kernel
theorem dX8_receive_36 : decode cX8_receive 36 = .ok (.istore 6, 2) := by decide +kernel
theorem dX8_receive_38 : decode cX8_receive 38 = .ok (.iload 6, 2) := by decide +kernel
theorem dX8_receive_40 : decode cX8_receive 40 = .ok (.aload_n 0, 1) := by decide +kernel
theorem dX8_receive_41 : decode cX8_receive 41 = .ok (.getfield 9, 3) := by decide +kernel
theorem dX8_receive_44 : decode cX8_receive 44 = .ok (.getfield 39, 3) := by decide +kernel
theorem dX8_receive_47 : decode cX8_receive 47 = .ok (.if_icmp .ge 106, 3) := by decide +kernel
theorem dX8_receive_50 : decode cX8_receive 50 = .ok (.aload_n 1, 1) := by decide +kernel
theorem dX8_receive_51 : decode cX8_receive 51 = .ok (.iload 6, 2) := by decide +kernel
theorem dX8_receive_53 : decode cX8_receive 53 = .ok (.invokevirtual 42, 3) := by decide +kernel
theorem dX8_receive_56 : decode cX8_receive 56 = .ok (.istore 7, 2) := by decide +kernel
theorem dX8_receive_58 : decode cX8_receive 58 = .ok (.iconst 0, 1) := by decide +kernel
theorem dX8_receive_59 : decode cX8_receive 59 = .ok (.istore 8, 2) := by decide +kernel
theorem dX8_receive_61 : decode cX8_receive 61 = .ok (.iload 8, 2) := by decide +kernel
theorem dX8_receive_63 : decode cX8_receive 63 = .ok (.aload_n 0, 1) := by decide +kernel
theorem dX8_receive_64 : decode cX8_receive 64 = .ok (.getfield 15, 3) := by decide +kernel
theorem dX8_receive_67 : decode cX8_receive 67 = .ok (.iload 7, 2) := by decide +kernel
theorem dX8_receive_69 : decode cX8_receive 69 = .ok (.invokevirtual 45, 3) := by decide +kernel
theorem dX8_receive_72 : decode cX8_receive 72 = .ok (.if_icmp .ge 75, 3) := by decide +kernel
theorem dX8_receive_75 : decode cX8_receive 75 = .ok (.aload_n 0, 1) := by decide +kernel
theorem dX8_receive_76 : decode cX8_receive 76 = .ok (.getfield 15, 3) := by decide +kernel
theorem dX8_receive_79 : decode cX8_receive 79 = .ok (.iload 7, 2) := by decide +kernel
theorem dX8_receive_81 : decode cX8_receive 81 = .ok (.iload 8, 2) := by decide +kernel
theorem dX8_receive_83 : decode cX8_receive 83 = .ok (.invokevirtual 50, 3) := by decide +kernel
theorem dX8_receive_86 : decode cX8_receive 86 = .ok (.iload_n 2, 1) := by decide +kernel
theorem dX8_receive_87 : decode cX8_receive 87 = .ok (.if_icmp .ne 54, 3) := by decide +kernel
theorem dX8_receive_90 : decode cX8_receive 90 = .ok (.aload_n 0, 1) := by decide +kernel
theorem dX8_receive_91 : decode cX8_receive 91 = .ok (.aload_n 1, 1) := by decide +kernel
theorem dX8_receive_92 : decode cX8_receive 92 = .ok (.iload 6, 2) := by decide +kernel
theorem dX8_receive_94 : decode cX8_receive 94 = .ok (.aload_n 0, 1) := by decide +kernel
theorem dX8_receive_95 : decode cX8_receive 95 = .ok (.getfield 15, 3) := by decide +kernel
theorem dX8_receive_98 : decode cX8_receive 98 = .ok (.iload 7, 2) := by decide +kernel
theorem dX8_receive_100 : decode cX8_receive 100 = .ok (.iload 8, 2) := by decide +kernel
theorem dX8_receive_102 : decode cX8_receive 102 = .ok (.invokevirtual 54, 3) := by decide +kernel
theorem dX8_receive_105 : decode cX8_receive 105 = .ok (.invokevirtual 57, 3) := by decide +kernel
theorem dX8_receive_108 : decode cX8_receive 108 = .ok (.istore 9, 2) := by decide +kernel
theorem dX8_receive_110 : decode cX8_receive 110 = .ok (.iload_n 3, 1) := by decide +kernel
theorem dX8_receive_111 : decode cX8_receive 111 = .ok (.ifCond .lt 10, 3) := by decide +kernel
theorem dX8_receive_114 : decode cX8_receive 114 = .ok (.iload 9, 2) := by decide +kernel
theorem dX8_receive_116 : decode cX8_receive 116 = .ok (.iload 5, 2) := by decide +kernel
theorem dX8_receive_118 : decode cX8_receive 118 = .ok (.if_icmp .le 23, 3) := by decide +kernel
theorem dX8_receive_121 : decode cX8_receive 121 = .ok (.iload 6, 2) := by decide +kernel
theorem dX8_receive_123 : decode cX8_receive 123 = .ok (.istore_n 3, 1) := by decide +kernel
theorem dX8_receive_124 : decode cX8_receive 124 = .ok (.aload_n 0, 1) := by decide +kernel
theorem dX8_receive_125 : decode cX8_receive 125 = .ok (.getfield 15, 3) := by decide +kernel
theorem dX8_receive_128 : decode cX8_receive 128 = .ok (.iload 7, 2) := by decide +kernel
theorem dX8_receive_130 : decode cX8_receive 130 = .ok (.iload 8, 2) := by decide +kernel
theorem dX8_receive_132 : decode cX8_receive 132 = .ok (.invokevirtual 54, 3) := by decide +kernel
theorem dX8_receive_135 : decode cX8_receive 135 = .ok (.istore 4, 2) := by decide +kernel
theorem dX8_receive_137 : decode cX8_receive 137 = .ok (.iload 9, 2) := by decide +kernel
theorem dX8_receive_139 : decode cX8_receive 139 = .ok (.istore 5, 2) := by decide +kernel
theorem dX8_receive_141 : decode cX8_receive 141 = .ok (.iinc 8 1, 3) := by decide +kernel
theorem dX8_receive_144 : decode cX8_receive 144 = .ok (.goto (-83), 3) := by decide +kernel
theorem dX8_receive_147 : decode cX8_receive 147 = .ok (.iinc 6 1, 3) := by decide +kernel
theorem dX8_receive_150 : decode cX8_receive 150 = .ok (.goto (-112), 3) := by decide +kernel
theorem dX8_receive_153 : decode cX8_receive 153 = .ok (.iload_n 3, 1) := by decide +kernel
theorem dX8_receive_154 : decode cX8_receive 154 = .ok (.ifCond .lt 27, 3) := by decide +kernel
theorem dX8_receive_157 : decode cX8_receive 157 = .ok (.aload_n 1, 1) := by decide +kernel
theorem dX8_receive_158 : decode cX8_receive 158 = .ok (.getfield 61, 3) := by decide +kernel
theorem dX8_receive_161 : decode cX8_receive 161 = .ok (.iconst 3, 1) := by decide +kernel
theorem dX8_receive_162 : decode cX8_receive 162 = .ok (.if_icmp .ne 26, 3) := by decide +kernel
theorem dX8_receive_165 : decode cX8_receive 165 = .ok (.aload_n 0, 1) := by decide +kernel
theorem dX8_receive_166 : decode cX8_receive 166 = .ok (.getfield 19, 3) := by decide +kernel
theorem dX8_receive_169 : decode cX8_receive 169 = .ok (.aload_n 1, 1) := by decide +kernel
theorem dX8_receive_170 : decode cX8_receive 170 = .ok (.iconst (-1), 1) := by decide +kernel
theorem dX8_receive_171 : decode cX8_receive 171 = .ok (.bipush 24, 2) := by decide +kernel
theorem dX8_receive_173 : decode cX8_receive 173 = .ok (.invokevirtual 64, 3) := by decide +kernel
theorem dX8_receive_176 : decode cX8_receive 176 = .ok (.iload 5, 2) := by decide +kernel
theorem dX8_receive_178 : decode cX8_receive 178 = .ok (.if_icmp .le 10, 3) := by decide +kernel
theorem dX8_receive_181 : decode cX8_receive 181 = .ok (.aload_n 1, 1) := by decide +kernel
theorem dX8_receive_182 : decode cX8_receive 182 = .ok (.invokevirtual 69, 3) := by decide +kernel
theorem dX8_receive_185 : decode cX8_receive 185 = .ok (.goto 10, 3) := by decide +kernel
theorem dX8_receive_188 : decode cX8_receive 188 = .ok (.aload_n 1, 1) := by decide +kernel
theorem dX8_receive_189 : decode cX8_receive 189 = .ok (.iload_n 3, 1) := by decide +kernel
theorem dX8_receive_190 : decode cX8_receive 190 = .ok (.iload 4, 2) := by decide +kernel
theorem dX8_receive_192 : decode cX8_receive 192 = .ok (.invokevirtual 72, 3) := by decide +kernel
theorem dX8_receive_195 : decode cX8_receive 195 = .ok (.return_, 1) := by decide +kernel
theorem dX8_scoreOf_0 : decode cX8_scoreOf 0 = .ok (.aload_n 1, 1) := by decide +kernel
theorem dX8_scoreOf_1 : decode cX8_scoreOf 1 = .ok (.getfield 61, 3) := by decide +kernel
theorem dX8_scoreOf_4 : decode cX8_scoreOf 4 = .ok (.tableswitch 72 1 3 #[28, 37, 59], 28) := by decide +kernel
theorem dX8_scoreOf_32 : decode cX8_scoreOf 32 = .ok (.aload_n 0, 1) := by decide +kernel
theorem dX8_scoreOf_33 : decode cX8_scoreOf 33 = .ok (.getfield 15, 3) := by decide +kernel
theorem dX8_scoreOf_36 : decode cX8_scoreOf 36 = .ok (.iload_n 3, 1) := by decide +kernel
theorem dX8_scoreOf_37 : decode cX8_scoreOf 37 = .ok (.invokevirtual 76, 3) := by decide +kernel
theorem dX8_scoreOf_40 : decode cX8_scoreOf 40 = .ok (.ireturn, 1) := by decide +kernel
theorem dX8_scoreOf_41 : decode cX8_scoreOf 41 = .ok (.aload_n 0, 1) := by decide +kernel
theorem dX8_scoreOf_42 : decode cX8_scoreOf 42 = .ok (.getfield 9, 3) := by decide +kernel
theorem dX8_scoreOf_45 : decode cX8_scoreOf 45 = .ok (.iload_n 3, 1) := by decide +kernel
theorem dX8_scoreOf_46 : decode cX8_scoreOf 46 = .ok (.invokevirtual 79, 3) := by decide +kernel
theorem dX8_scoreOf_49 : decode cX8_scoreOf 49 = .ok (.aload_n 0, 1) := by decide +kernel
theorem dX8_scoreOf_50 : decode cX8_scoreOf 50 = .ok (.getfield 9, 3) := by decide +kernel
theorem dX8_scoreOf_53 : decode cX8_scoreOf 53 = .ok (.aload_n 1, 1) := by decide +kernel
theorem dX8_scoreOf_54 : decode cX8_scoreOf 54 = .ok (.iload_n 2, 1) := by decide +kernel
theorem dX8_scoreOf_55 : decode cX8_scoreOf 55 = .ok (.invokevirtual 42, 3) := by decide +kernel
theorem dX8_scoreOf_58 : decode cX8_scoreOf 58 = .ok (.invokevirtual 79, 3) := by decide +kernel
theorem dX8_scoreOf_61 : decode cX8_scoreOf 61 = .ok (.isub, 1) := by decide +kernel
theorem dX8_scoreOf_62 : decode cX8_scoreOf 62 = .ok (.ireturn, 1) := by decide +kernel
theorem dX8_scoreOf_63 : decode cX8_scoreOf 63 = .ok (.iconst 1, 1) := by decide +kernel
theorem dX8_scoreOf_64 : decode cX8_scoreOf 64 = .ok (.aload_n 0, 1) := by decide +kernel
theorem dX8_scoreOf_65 : decode cX8_scoreOf 65 = .ok (.getfield 19, 3) := by decide +kernel
theorem dX8_scoreOf_68 : decode cX8_scoreOf 68 = .ok (.aload_n 1, 1) := by decide +kernel
theorem dX8_scoreOf_69 : decode cX8_scoreOf 69 = .ok (.iload_n 2, 1) := by decide +kernel
theorem dX8_scoreOf_70 : decode cX8_scoreOf 70 = .ok (.iload_n 3, 1) := by decide +kernel
theorem dX8_scoreOf_71 : decode cX8_scoreOf 71 = .ok (.invokevirtual 64, 3) := by decide +kernel
theorem dX8_scoreOf_74 : decode cX8_scoreOf 74 = .ok (.iadd, 1) := by decide +kernel
theorem dX8_scoreOf_75 : decode cX8_scoreOf 75 = .ok (.ireturn, 1) := by decide +kernel
theorem dX8_scoreOf_76 : decode cX8_scoreOf 76 = .ok (.iconst 0, 1) := by decide +kernel
theorem dX8_scoreOf_77 : decode cX8_scoreOf 77 = .ok (.ireturn, 1) := by decide +kernel
theorem dX9_init_0 : decode cX9_init 0 = .ok (.aload_n 0, 1) := by decide +kernel
theorem dX9_init_1 : decode cX9_init 1 = .ok (.invokespecial 3, 3) := by decide +kernel
theorem dX9_init_4 : decode cX9_init 4 = .ok (.aload_n 0, 1) := by decide +kernel
theorem dX9_init_5 : decode cX9_init 5 = .ok (.bipush 26, 2) := by decide +kernel
theorem dX9_init_7 : decode cX9_init 7 = .ok (.newarray .int, 2) := by decide +kernel
theorem dX9_init_9 : decode cX9_init 9 = .ok (.putfield 9, 3) := by decide +kernel
theorem dX9_init_12 : decode cX9_init 12 = .ok (.aload_n 0, 1) := by decide +kernel
theorem dX9_init_13 : decode cX9_init 13 = .ok (.bipush 24, 2) := by decide +kernel
theorem dX9_init_15 : decode cX9_init 15 = .ok (.newarray .int, 2) := by decide +kernel
theorem dX9_init_17 : decode cX9_init 17 = .ok (.putfield 15, 3) := by decide +kernel
theorem dX9_init_20 : decode cX9_init 20 = .ok (.aload_n 0, 1) := by decide +kernel
theorem dX9_init_21 : decode cX9_init 21 = .ok (.iconst 3, 1) := by decide +kernel
theorem dX9_init_22 : decode cX9_init 22 = .ok (.newarray .int, 2) := by decide +kernel
theorem dX9_init_24 : decode cX9_init 24 = .ok (.putfield 18, 3) := by decide +kernel
theorem dX9_init_27 : decode cX9_init 27 = .ok (.aload_n 0, 1) := by decide +kernel
theorem dX9_init_28 : decode cX9_init 28 = .ok (.iconst 3, 1) := by decide +kernel
theorem dX9_init_29 : decode cX9_init 29 = .ok (.newarray .int, 2) := by decide +kernel
theorem dX9_init_31 : decode cX9_init 31 = .ok (.putfield 21, 3) := by decide +kernel
theorem dX9_init_34 : decode cX9_init 34 = .ok (.aload_n 0, 1) := by decide +kernel
theorem dX9_init_35 : decode cX9_init 35 = .ok (.aload_n 1, 1) := by decide +kernel
theorem dX9_init_36 : decode cX9_init 36 = .ok (.putfield 24, 3) := by decide +kernel
theorem dX9_init_39 : decode cX9_init 39 = .ok (.return_, 1) := by decide +kernel
theorem dX9_gather_0 : decode cX9_gather 0 = .ok (.aload_n 0, 1) := by decide +kernel
theorem dX9_gather_1 : decode cX9_gather 1 = .ok (.getfield 9, 3) := by decide +kernel
theorem dX9_gather_4 : decode cX9_gather 4 = .ok (.iconst 0, 1) := by decide +kernel
theorem dX9_gather_5 : decode cX9_gather 5 = .ok (.invokestatic 28, 3) := by decide +kernel
theorem dX9_gather_8 : decode cX9_gather 8 = .ok (.aload_n 0, 1) := by decide +kernel
theorem dX9_gather_9 : decode cX9_gather 9 = .ok (.iconst 0, 1) := by decide +kernel
theorem dX9_gather_10 : decode cX9_gather 10 = .ok (.putfield 34, 3) := by decide +kernel
theorem dX9_gather_13 : decode cX9_gather 13 = .ok (.iconst 0, 1) := by decide +kernel
theorem dX9_gather_14 : decode cX9_gather 14 = .ok (.istore_n 2, 1) := by decide +kernel
theorem dX9_gather_15 : decode cX9_gather 15 = .ok (.iload_n 2, 1) := by decide +kernel
theorem dX9_gather_16 : decode cX9_gather 16 = .ok (.aload_n 0, 1) := by decide +kernel
theorem dX9_gather_17 : decode cX9_gather 17 = .ok (.getfield 24, 3) := by decide +kernel
theorem dX9_gather_20 : decode cX9_gather 20 = .ok (.getfield 38, 3) := by decide +kernel
theorem dX9_gather_23 : decode cX9_gather 23 = .ok (.if_icmp .ge 21, 3) := by decide +kernel
theorem dX9_gather_26 : decode cX9_gather 26 = .ok (.aload_n 0, 1) := by decide +kernel
theorem dX9_gather_27 : decode cX9_gather 27 = .ok (.aload_n 0, 1) := by decide +kernel
theorem dX9_gather_28 : decode cX9_gather 28 = .ok (.getfield 24, 3) := by decide +kernel
theorem dX9_gather_31 : decode cX9_gather 31 = .ok (.iload_n 2, 1) := by decide +kernel
theorem dX9_gather_32 : decode cX9_gather 32 = .ok (.invokevirtual 43, 3) := by decide +kernel
theorem dX9_gather_35 : decode cX9_gather 35 = .ok (.invokevirtual 47, 3) := by decide +kernel
theorem dX9_gather_38 : decode cX9_gather 38 = .ok (.iinc 2 1, 3) := by decide +kernel
theorem dX9_gather_41 : decode cX9_gather 41 = .ok (.goto (-26), 3) := by decide +kernel
theorem dX9_gather_44 : decode cX9_gather 44 = .ok (.aload_n 0, 1) := by decide +kernel
theorem dX9_gather_45 : decode cX9_gather 45 = .ok (.iload_n 1, 1) := by decide +kernel
theorem dX9_gather_46 : decode cX9_gather 46 = .ok (.invokevirtual 47, 3) := by decide +kernel
theorem dX9_gather_49 : decode cX9_gather 49 = .ok (.aload_n 0, 1) := by decide +kernel
theorem dX9_gather_50 : decode cX9_gather 50 = .ok (.iconst 0, 1) := by decide +kernel
theorem dX9_gather_51 : decode cX9_gather 51 = .ok (.putfield 51, 3) := by decide +kernel
theorem dX9_gather_54 : decode cX9_gather 54 = .ok (.aload_n 0, 1) := by decide +kernel
theorem dX9_gather_55 : decode cX9_gather 55 = .ok (.iconst 0, 1) := by decide +kernel
theorem dX9_gather_56 : decode cX9_gather 56 = .ok (.putfield 54, 3) := by decide +kernel
theorem dX9_gather_59 : decode cX9_gather 59 = .ok (.aload_n 0, 1) := by decide +kernel
theorem dX9_gather_60 : decode cX9_gather 60 = .ok (.iconst 0, 1) := by decide +kernel
theorem dX9_gather_61 : decode cX9_gather 61 = .ok (.putfield 57, 3) := by decide +kernel
theorem dX9_gather_64 : decode cX9_gather 64 = .ok (.aload_n 0, 1) := by decide +kernel
theorem dX9_gather_65 : decode cX9_gather 65 = .ok (.iconst 0, 1) := by decide +kernel
theorem dX9_gather_66 : decode cX9_gather 66 = .ok (.putfield 60, 3) := by decide +kernel
theorem dX9_gather_69 : decode cX9_gather 69 = .ok (.aload_n 0, 1) := by decide +kernel
theorem dX9_gather_70 : decode cX9_gather 70 = .ok (.getfield 21, 3) := by decide +kernel
theorem dX9_gather_73 : decode cX9_gather 73 = .ok (.bipush 24, 2) := by decide +kernel
theorem dX9_gather_75 : decode cX9_gather 75 = .ok (.invokestatic 28, 3) := by decide +kernel
theorem dX9_gather_78 : decode cX9_gather 78 = .ok (.return_, 1) := by decide +kernel
theorem dX9_addLetter_0 : decode cX9_addLetter 0 = .ok (.iload_n 1, 1) := by decide +kernel
theorem dX9_addLetter_1 : decode cX9_addLetter 1 = .ok (.ifCond .lt 29, 3) := by decide +kernel
theorem dX9_addLetter_4 : decode cX9_addLetter 4 = .ok (.iload_n 1, 1) := by decide +kernel
theorem dX9_addLetter_5 : decode cX9_addLetter 5 = .ok (.bipush 26, 2) := by decide +kernel
theorem dX9_addLetter_7 : decode cX9_addLetter 7 = .ok (.if_icmp .ge 23, 3) := by decide +kernel
theorem dX9_addLetter_10 : decode cX9_addLetter 10 = .ok (.aload_n 0, 1) := by decide +kernel
theorem dX9_addLetter_11 : decode cX9_addLetter 11 = .ok (.getfield 9, 3) := by decide +kernel
theorem dX9_addLetter_14 : decode cX9_addLetter 14 = .ok (.iload_n 1, 1) := by decide +kernel
theorem dX9_addLetter_15 : decode cX9_addLetter 15 = .ok (.dup2, 1) := by decide +kernel
theorem dX9_addLetter_16 : decode cX9_addLetter 16 = .ok (.iaload, 1) := by decide +kernel
theorem dX9_addLetter_17 : decode cX9_addLetter 17 = .ok (.iconst 1, 1) := by decide +kernel
theorem dX9_addLetter_18 : decode cX9_addLetter 18 = .ok (.iadd, 1) := by decide +kernel
theorem dX9_addLetter_19 : decode cX9_addLetter 19 = .ok (.iastore, 1) := by decide +kernel
theorem dX9_addLetter_20 : decode cX9_addLetter 20 = .ok (.aload_n 0, 1) := by decide +kernel
theorem dX9_addLetter_21 : decode cX9_addLetter 21 = .ok (.dup, 1) := by decide +kernel
theorem dX9_addLetter_22 : decode cX9_addLetter 22 = .ok (.getfield 34, 3) := by decide +kernel
theorem dX9_addLetter_25 : decode cX9_addLetter 25 = .ok (.iconst 1, 1) := by decide +kernel
theorem dX9_addLetter_26 : decode cX9_addLetter 26 = .ok (.iadd, 1) := by decide +kernel
theorem dX9_addLetter_27 : decode cX9_addLetter 27 = .ok (.putfield 34, 3) := by decide +kernel
theorem dX9_addLetter_30 : decode cX9_addLetter 30 = .ok (.return_, 1) := by decide +kernel
theorem dX9_offer_0 : decode cX9_offer 0 = .ok (.aload_n 0, 1) := by decide +kernel
theorem dX9_offer_1 : decode cX9_offer 1 = .ok (.getfield 51, 3) := by decide +kernel
theorem dX9_offer_4 : decode cX9_offer 4 = .ok (.bipush 24, 2) := by decide +kernel
theorem dX9_offer_6 : decode cX9_offer 6 = .ok (.if_icmp .ge 23, 3) := by decide +kernel
theorem dX9_offer_9 : decode cX9_offer 9 = .ok (.aload_n 0, 1) := by decide +kernel
theorem dX9_offer_10 : decode cX9_offer 10 = .ok (.getfield 15, 3) := by decide +kernel
theorem dX9_offer_13 : decode cX9_offer 13 = .ok (.aload_n 0, 1) := by decide +kernel
theorem dX9_offer_14 : decode cX9_offer 14 = .ok (.getfield 51, 3) := by decide +kernel
theorem dX9_offer_17 : decode cX9_offer 17 = .ok (.iload_n 1, 1) := by decide +kernel
theorem dX9_offer_18 : decode cX9_offer 18 = .ok (.iastore, 1) := by decide +kernel
theorem dX9_offer_19 : decode cX9_offer 19 = .ok (.aload_n 0, 1) := by decide +kernel
theorem dX9_offer_20 : decode cX9_offer 20 = .ok (.dup, 1) := by decide +kernel
theorem dX9_offer_21 : decode cX9_offer 21 = .ok (.getfield 51, 3) := by decide +kernel
theorem dX9_offer_24 : decode cX9_offer 24 = .ok (.iconst 1, 1) := by decide +kernel
theorem dX9_offer_25 : decode cX9_offer 25 = .ok (.iadd, 1) := by decide +kernel
theorem dX9_offer_26 : decode cX9_offer 26 = .ok (.putfield 51, 3) := by decide +kernel
theorem dX9_offer_29 : decode cX9_offer 29 = .ok (.return_, 1) := by decide +kernel
theorem dX9_findPlans_0 : decode cX9_findPlans 0 = .ok (.aload_n 0, 1) := by decide +kernel
theorem dX9_findPlans_1 : decode cX9_findPlans 1 = .ok (.iconst 0, 1) := by decide +kernel
theorem dX9_findPlans_2 : decode cX9_findPlans 2 = .ok (.putfield 63, 3) := by decide +kernel
theorem dX9_findPlans_5 : decode cX9_findPlans 5 = .ok (.aload_n 0, 1) := by decide +kernel
theorem dX9_findPlans_6 : decode cX9_findPlans 6 = .ok (.iconst 0, 1) := by decide +kernel
theorem dX9_findPlans_7 : decode cX9_findPlans 7 = .ok (.putfield 67, 3) := by decide +kernel
theorem dX9_findPlans_10 : decode cX9_findPlans 10 = .ok (.aload_n 0, 1) := by decide +kernel
theorem dX9_findPlans_11 : decode cX9_findPlans 11 = .ok (.iconst (-1), 1) := by decide +kernel
theorem dX9_findPlans_12 : decode cX9_findPlans 12 = .ok (.putfield 70, 3) := by decide +kernel
theorem dX9_findPlans_15 : decode cX9_findPlans 15 = .ok (.aload_n 0, 1) := by decide +kernel
theorem dX9_findPlans_16 : decode cX9_findPlans 16 = .ok (.iconst (-1), 1) := by decide +kernel
theorem dX9_findPlans_17 : decode cX9_findPlans 17 = .ok (.putfield 73, 3) := by decide +kernel
theorem dX9_findPlans_20 : decode cX9_findPlans 20 = .ok (.aload_n 0, 1) := by decide +kernel
theorem dX9_findPlans_21 : decode cX9_findPlans 21 = .ok (.iconst 0, 1) := by decide +kernel
theorem dX9_findPlans_22 : decode cX9_findPlans 22 = .ok (.putfield 76, 3) := by decide +kernel
theorem dX9_findPlans_25 : decode cX9_findPlans 25 = .ok (.aload_n 0, 1) := by decide +kernel
theorem dX9_findPlans_26 : decode cX9_findPlans 26 = .ok (.iconst 4, 1) := by decide +kernel
theorem dX9_findPlans_27 : decode cX9_findPlans 27 = .ok (.putfield 79, 3) := by decide +kernel
theorem dX9_findPlans_30 : decode cX9_findPlans 30 = .ok (.aload_n 0, 1) := by decide +kernel
theorem dX9_findPlans_31 : decode cX9_findPlans 31 = .ok (.iconst 0, 1) := by decide +kernel
theorem dX9_findPlans_32 : decode cX9_findPlans 32 = .ok (.iconst 0, 1) := by decide +kernel
theorem dX9_findPlans_33 : decode cX9_findPlans 33 = .ok (.invokevirtual 82, 3) := by decide +kernel
theorem dX9_findPlans_36 : decode cX9_findPlans 36 = .ok (.aload_n 0, 1) := by decide +kernel
theorem dX9_findPlans_37 : decode cX9_findPlans 37 = .ok (.iconst 1, 1) := by decide +kernel
theorem dX9_findPlans_38 : decode cX9_findPlans 38 = .ok (.putfield 86, 3) := by decide +kernel
theorem dX9_findPlans_41 : decode cX9_findPlans 41 = .ok (.return_, 1) := by decide +kernel
theorem dX9_findLack_0 : decode cX9_findLack 0 = .ok (.aload_n 0, 1) := by decide +kernel
theorem dX9_findLack_1 : decode cX9_findLack 1 = .ok (.iconst 1, 1) := by decide +kernel
theorem dX9_findLack_2 : decode cX9_findLack 2 = .ok (.putfield 63, 3) := by decide +kernel
theorem dX9_findLack_5 : decode cX9_findLack 5 = .ok (.aload_n 0, 1) := by decide +kernel
theorem dX9_findLack_6 : decode cX9_findLack 6 = .ok (.bipush 18, 2) := by decide +kernel
theorem dX9_findLack_8 : decode cX9_findLack 8 = .ok (.putfield 67, 3) := by decide +kernel
theorem dX9_findLack_11 : decode cX9_findLack 11 = .ok (.aload_n 0, 1) := by decide +kernel
theorem dX9_findLack_12 : decode cX9_findLack 12 = .ok (.iconst (-1), 1) := by decide +kernel
theorem dX9_findLack_13 : decode cX9_findLack 13 = .ok (.putfield 89, 3) := by decide +kernel
theorem dX9_findLack_16 : decode cX9_findLack 16 = .ok (.aload_n 0, 1) := by decide +kernel
theorem dX9_findLack_17 : decode cX9_findLack 17 = .ok (.iconst 0, 1) := by decide +kernel
theorem dX9_findLack_18 : decode cX9_findLack 18 = .ok (.iconst 0, 1) := by decide +kernel
theorem dX9_findLack_19 : decode cX9_findLack 19 = .ok (.invokevirtual 82, 3) := by decide +kernel
theorem dX9_findLack_22 : decode cX9_findLack 22 = .ok (.iconst 0, 1) := by decide +kernel
theorem dX9_findLack_23 : decode cX9_findLack 23 = .ok (.istore_n 1, 1) := by decide +kernel
theorem dX9_findLack_24 : decode cX9_findLack 24 = .ok (.iload_n 1, 1) := by decide +kernel
theorem dX9_findLack_25 : decode cX9_findLack 25 = .ok (.iconst 3, 1) := by decide +kernel
theorem dX9_findLack_26 : decode cX9_findLack 26 = .ok (.if_icmp .ge 19, 3) := by decide +kernel
theorem dX9_findLack_29 : decode cX9_findLack 29 = .ok (.aload_n 0, 1) := by decide +kernel
theorem dX9_findLack_30 : decode cX9_findLack 30 = .ok (.aload_n 0, 1) := by decide +kernel
theorem dX9_findLack_31 : decode cX9_findLack 31 = .ok (.getfield 21, 3) := by decide +kernel
theorem dX9_findLack_34 : decode cX9_findLack 34 = .ok (.iload_n 1, 1) := by decide +kernel
theorem dX9_findLack_35 : decode cX9_findLack 35 = .ok (.iaload, 1) := by decide +kernel
theorem dX9_findLack_36 : decode cX9_findLack 36 = .ok (.invokevirtual 92, 3) := by decide +kernel
theorem dX9_findLack_39 : decode cX9_findLack 39 = .ok (.iinc 1 1, 3) := by decide +kernel
theorem dX9_findLack_42 : decode cX9_findLack 42 = .ok (.goto (-18), 3) := by decide +kernel
theorem dX9_findLack_45 : decode cX9_findLack 45 = .ok (.aload_n 0, 1) := by decide +kernel
theorem dX9_findLack_46 : decode cX9_findLack 46 = .ok (.iconst 1, 1) := by decide +kernel
theorem dX9_findLack_47 : decode cX9_findLack 47 = .ok (.putfield 86, 3) := by decide +kernel
theorem dX9_findLack_50 : decode cX9_findLack 50 = .ok (.return_, 1) := by decide +kernel
theorem dX9_spread_0 : decode cX9_spread 0 = .ok (.iload_n 1, 1) := by decide +kernel
theorem dX9_spread_1 : decode cX9_spread 1 = .ok (.ifCond .lt 96, 3) := by decide +kernel
theorem dX9_spread_4 : decode cX9_spread 4 = .ok (.iload_n 1, 1) := by decide +kernel
theorem dX9_spread_5 : decode cX9_spread 5 = .ok (.aload_n 0, 1) := by decide +kernel
theorem dX9_spread_6 : decode cX9_spread 6 = .ok (.getfield 24, 3) := by decide +kernel
theorem dX9_spread_9 : decode cX9_spread 9 = .ok (.getfield 95, 3) := by decide +kernel
theorem dX9_spread_12 : decode cX9_spread 12 = .ok (.if_icmp .ge 85, 3) := by decide +kernel
theorem dX9_spread_15 : decode cX9_spread 15 = .ok (.iload_n 1, 1) := by decide +kernel
theorem dX9_spread_16 : decode cX9_spread 16 = .ok (.iconst 3, 1) := by decide +kernel
theorem dX9_spread_17 : decode cX9_spread 17 = .ok (.if_icmp .ge 80, 3) := by decide +kernel
theorem dX9_spread_20 : decode cX9_spread 20 = .ok (.iload_n 2, 1) := by decide +kernel
theorem dX9_spread_21 : decode cX9_spread 21 = .ok (.iconst 0, 1) := by decide +kernel
theorem dX9_spread_22 : decode cX9_spread 22 = .ok (.invokestatic 98, 3) := by decide +kernel
theorem dX9_spread_25 : decode cX9_spread 25 = .ok (.istore_n 3, 1) := by decide +kernel
theorem dX9_spread_26 : decode cX9_spread 26 = .ok (.iload_n 3, 1) := by decide +kernel
theorem dX9_spread_27 : decode cX9_spread 27 = .ok (.aload_n 0, 1) := by decide +kernel
theorem dX9_spread_28 : decode cX9_spread 28 = .ok (.getfield 51, 3) := by decide +kernel
theorem dX9_spread_31 : decode cX9_spread 31 = .ok (.if_icmp .ge 66, 3) := by decide +kernel
theorem dX9_spread_34 : decode cX9_spread 34 = .ok (.iload_n 3, 1) := by decide +kernel
theorem dX9_spread_35 : decode cX9_spread 35 = .ok (.bipush 24, 2) := by decide +kernel
theorem dX9_spread_37 : decode cX9_spread 37 = .ok (.if_icmp .ge 60, 3) := by decide +kernel
theorem dX9_spread_40 : decode cX9_spread 40 = .ok (.aload_n 0, 1) := by decide +kernel
theorem dX9_spread_41 : decode cX9_spread 41 = .ok (.getfield 18, 3) := by decide +kernel
theorem dX9_spread_44 : decode cX9_spread 44 = .ok (.iload_n 1, 1) := by decide +kernel
theorem dX9_spread_45 : decode cX9_spread 45 = .ok (.aload_n 0, 1) := by decide +kernel
theorem dX9_spread_46 : decode cX9_spread 46 = .ok (.getfield 15, 3) := by decide +kernel
theorem dX9_spread_49 : decode cX9_spread 49 = .ok (.iload_n 3, 1) := by decide +kernel
theorem dX9_spread_50 : decode cX9_spread 50 = .ok (.iaload, 1) := by decide +kernel
theorem dX9_spread_51 : decode cX9_spread 51 = .ok (.iastore, 1) := by decide +kernel
theorem dX9_spread_52 : decode cX9_spread 52 = .ok (.aload_n 0, 1) := by decide +kernel
theorem dX9_spread_53 : decode cX9_spread 53 = .ok (.aload_n 0, 1) := by decide +kernel
theorem dX9_spread_54 : decode cX9_spread 54 = .ok (.getfield 15, 3) := by decide +kernel
theorem dX9_spread_57 : decode cX9_spread 57 = .ok (.iload_n 3, 1) := by decide +kernel
theorem dX9_spread_58 : decode cX9_spread 58 = .ok (.iaload, 1) := by decide +kernel
theorem dX9_spread_59 : decode cX9_spread 59 = .ok (.invokevirtual 92, 3) := by decide +kernel
theorem dX9_spread_62 : decode cX9_spread 62 = .ok (.aload_n 0, 1) := by decide +kernel
theorem dX9_spread_63 : decode cX9_spread 63 = .ok (.getfield 57, 3) := by decide +kernel
theorem dX9_spread_66 : decode cX9_spread 66 = .ok (.aload_n 0, 1) := by decide +kernel
theorem dX9_spread_67 : decode cX9_spread 67 = .ok (.getfield 67, 3) := by decide +kernel
theorem dX9_spread_70 : decode cX9_spread 70 = .ok (.if_icmp .gt 11, 3) := by decide +kernel
theorem dX9_spread_73 : decode cX9_spread 73 = .ok (.aload_n 0, 1) := by decide +kernel
theorem dX9_spread_74 : decode cX9_spread 74 = .ok (.iload_n 1, 1) := by decide +kernel
theorem dX9_spread_75 : decode cX9_spread 75 = .ok (.iconst 1, 1) := by decide +kernel
theorem dX9_spread_76 : decode cX9_spread 76 = .ok (.iadd, 1) := by decide +kernel
theorem dX9_spread_77 : decode cX9_spread 77 = .ok (.iload_n 3, 1) := by decide +kernel
theorem dX9_spread_78 : decode cX9_spread 78 = .ok (.invokevirtual 82, 3) := by decide +kernel
theorem dX9_spread_81 : decode cX9_spread 81 = .ok (.aload_n 0, 1) := by decide +kernel
theorem dX9_spread_82 : decode cX9_spread 82 = .ok (.aload_n 0, 1) := by decide +kernel
theorem dX9_spread_83 : decode cX9_spread 83 = .ok (.getfield 15, 3) := by decide +kernel
theorem dX9_spread_86 : decode cX9_spread 86 = .ok (.iload_n 3, 1) := by decide +kernel
theorem dX9_spread_87 : decode cX9_spread 87 = .ok (.iaload, 1) := by decide +kernel
theorem dX9_spread_88 : decode cX9_spread 88 = .ok (.invokevirtual 104, 3) := by decide +kernel
theorem dX9_spread_91 : decode cX9_spread 91 = .ok (.iinc 3 1, 3) := by decide +kernel
theorem dX9_spread_94 : decode cX9_spread 94 = .ok (.goto (-68), 3) := by decide +kernel
theorem dX9_spread_97 : decode cX9_spread 97 = .ok (.aload_n 0, 1) := by decide +kernel
theorem dX9_spread_98 : decode cX9_spread 98 = .ok (.getfield 63, 3) := by decide +kernel
theorem dX9_spread_101 : decode cX9_spread 101 = .ok (.ifCond .eq 11, 3) := by decide +kernel
theorem dX9_spread_104 : decode cX9_spread 104 = .ok (.aload_n 0, 1) := by decide +kernel
theorem dX9_spread_105 : decode cX9_spread 105 = .ok (.iload_n 1, 1) := by decide +kernel
theorem dX9_spread_106 : decode cX9_spread 106 = .ok (.invokevirtual 107, 3) := by decide +kernel
theorem dX9_spread_109 : decode cX9_spread 109 = .ok (.goto 8, 3) := by decide +kernel
theorem dX9_spread_112 : decode cX9_spread 112 = .ok (.aload_n 0, 1) := by decide +kernel
theorem dX9_spread_113 : decode cX9_spread 113 = .ok (.iload_n 1, 1) := by decide +kernel
theorem dX9_spread_114 : decode cX9_spread 114 = .ok (.invokevirtual 110, 3) := by decide +kernel
theorem dX9_spread_117 : decode cX9_spread 117 = .ok (.return_, 1) := by decide +kernel
theorem dX9_judgePlan_0 : decode cX9_judgePlan 0 = .ok (.aload_n 0, 1) := by decide +kernel
theorem dX9_judgePlan_1 : decode cX9_judgePlan 1 = .ok (.aload_n 0, 1) := by decide +kernel
theorem dX9_judgePlan_2 : decode cX9_judgePlan 2 = .ok (.getfield 76, 3) := by decide +kernel
theorem dX9_judgePlan_5 : decode cX9_judgePlan 5 = .ok (.aload_n 0, 1) := by decide +kernel
theorem dX9_judgePlan_6 : decode cX9_judgePlan 6 = .ok (.getfield 60, 3) := by decide +kernel
theorem dX9_judgePlan_9 : decode cX9_judgePlan 9 = .ok (.invokestatic 98, 3) := by decide +kernel
theorem dX9_judgePlan_12 : decode cX9_judgePlan 12 = .ok (.putfield 76, 3) := by decide +kernel
theorem dX9_judgePlan_15 : decode cX9_judgePlan 15 = .ok (.aload_n 0, 1) := by decide +kernel
theorem dX9_judgePlan_16 : decode cX9_judgePlan 16 = .ok (.getfield 54, 3) := by decide +kernel
theorem dX9_judgePlan_19 : decode cX9_judgePlan 19 = .ok (.aload_n 0, 1) := by decide +kernel
theorem dX9_judgePlan_20 : decode cX9_judgePlan 20 = .ok (.getfield 34, 3) := by decide +kernel
theorem dX9_judgePlan_23 : decode cX9_judgePlan 23 = .ok (.if_icmp .ne 15, 3) := by decide +kernel
theorem dX9_judgePlan_26 : decode cX9_judgePlan 26 = .ok (.aload_n 0, 1) := by decide +kernel
theorem dX9_judgePlan_27 : decode cX9_judgePlan 27 = .ok (.aload_n 0, 1) := by decide +kernel
theorem dX9_judgePlan_28 : decode cX9_judgePlan 28 = .ok (.getfield 79, 3) := by decide +kernel
theorem dX9_judgePlan_31 : decode cX9_judgePlan 31 = .ok (.iload_n 1, 1) := by decide +kernel
theorem dX9_judgePlan_32 : decode cX9_judgePlan 32 = .ok (.invokestatic 113, 3) := by decide +kernel
theorem dX9_judgePlan_35 : decode cX9_judgePlan 35 = .ok (.putfield 79, 3) := by decide +kernel
theorem dX9_judgePlan_38 : decode cX9_judgePlan 38 = .ok (.aload_n 0, 1) := by decide +kernel
theorem dX9_judgePlan_39 : decode cX9_judgePlan 39 = .ok (.getfield 54, 3) := by decide +kernel
theorem dX9_judgePlan_42 : decode cX9_judgePlan 42 = .ok (.aload_n 0, 1) := by decide +kernel
theorem dX9_judgePlan_43 : decode cX9_judgePlan 43 = .ok (.getfield 70, 3) := by decide +kernel
theorem dX9_judgePlan_46 : decode cX9_judgePlan 46 = .ok (.if_icmp .gt 25, 3) := by decide +kernel
theorem dX9_judgePlan_49 : decode cX9_judgePlan 49 = .ok (.aload_n 0, 1) := by decide +kernel
theorem dX9_judgePlan_50 : decode cX9_judgePlan 50 = .ok (.getfield 54, 3) := by decide +kernel
theorem dX9_judgePlan_53 : decode cX9_judgePlan 53 = .ok (.aload_n 0, 1) := by decide +kernel
theorem dX9_judgePlan_54 : decode cX9_judgePlan 54 = .ok (.getfield 70, 3) := by decide +kernel
theorem dX9_judgePlan_57 : decode cX9_judgePlan 57 = .ok (.if_icmp .ne 35, 3) := by decide +kernel
theorem dX9_judgePlan_60 : decode cX9_judgePlan 60 = .ok (.aload_n 0, 1) := by decide +kernel
theorem dX9_judgePlan_61 : decode cX9_judgePlan 61 = .ok (.getfield 60, 3) := by decide +kernel
theorem dX9_judgePlan_64 : decode cX9_judgePlan 64 = .ok (.aload_n 0, 1) := by decide +kernel
theorem dX9_judgePlan_65 : decode cX9_judgePlan 65 = .ok (.getfield 73, 3) := by decide +kernel
theorem dX9_judgePlan_68 : decode cX9_judgePlan 68 = .ok (.if_icmp .le 24, 3) := by decide +kernel
theorem dX9_judgePlan_71 : decode cX9_judgePlan 71 = .ok (.aload_n 0, 1) := by decide +kernel
theorem dX9_judgePlan_72 : decode cX9_judgePlan 72 = .ok (.aload_n 0, 1) := by decide +kernel
theorem dX9_judgePlan_73 : decode cX9_judgePlan 73 = .ok (.getfield 54, 3) := by decide +kernel
theorem dX9_judgePlan_76 : decode cX9_judgePlan 76 = .ok (.putfield 70, 3) := by decide +kernel
theorem dX9_judgePlan_79 : decode cX9_judgePlan 79 = .ok (.aload_n 0, 1) := by decide +kernel
theorem dX9_judgePlan_80 : decode cX9_judgePlan 80 = .ok (.aload_n 0, 1) := by decide +kernel
theorem dX9_judgePlan_81 : decode cX9_judgePlan 81 = .ok (.getfield 60, 3) := by decide +kernel
theorem dX9_judgePlan_84 : decode cX9_judgePlan 84 = .ok (.putfield 73, 3) := by decide +kernel
theorem dX9_judgePlan_87 : decode cX9_judgePlan 87 = .ok (.aload_n 0, 1) := by decide +kernel
theorem dX9_judgePlan_88 : decode cX9_judgePlan 88 = .ok (.iload_n 1, 1) := by decide +kernel
theorem dX9_judgePlan_89 : decode cX9_judgePlan 89 = .ok (.invokevirtual 116, 3) := by decide +kernel
theorem dX9_judgePlan_92 : decode cX9_judgePlan 92 = .ok (.return_, 1) := by decide +kernel
theorem dX9_judgeLack_0 : decode cX9_judgeLack 0 = .ok (.aload_n 0, 1) := by decide +kernel
theorem dX9_judgeLack_1 : decode cX9_judgeLack 1 = .ok (.getfield 54, 3) := by decide +kernel
theorem dX9_judgeLack_4 : decode cX9_judgeLack 4 = .ok (.aload_n 0, 1) := by decide +kernel
theorem dX9_judgeLack_5 : decode cX9_judgeLack 5 = .ok (.getfield 57, 3) := by decide +kernel
theorem dX9_judgeLack_8 : decode cX9_judgeLack 8 = .ok (.isub, 1) := by decide +kernel
theorem dX9_judgeLack_9 : decode cX9_judgeLack 9 = .ok (.aload_n 0, 1) := by decide +kernel
theorem dX9_judgeLack_10 : decode cX9_judgeLack 10 = .ok (.getfield 34, 3) := by decide +kernel
theorem dX9_judgeLack_13 : decode cX9_judgeLack 13 = .ok (.if_icmp .ne 37, 3) := by decide +kernel
theorem dX9_judgeLack_16 : decode cX9_judgeLack 16 = .ok (.aload_n 0, 1) := by decide +kernel
theorem dX9_judgeLack_17 : decode cX9_judgeLack 17 = .ok (.getfield 57, 3) := by decide +kernel
theorem dX9_judgeLack_20 : decode cX9_judgeLack 20 = .ok (.aload_n 0, 1) := by decide +kernel
theorem dX9_judgeLack_21 : decode cX9_judgeLack 21 = .ok (.getfield 67, 3) := by decide +kernel
theorem dX9_judgeLack_24 : decode cX9_judgeLack 24 = .ok (.if_icmp .gt 26, 3) := by decide +kernel
theorem dX9_judgeLack_27 : decode cX9_judgeLack 27 = .ok (.aload_n 0, 1) := by decide +kernel
theorem dX9_judgeLack_28 : decode cX9_judgeLack 28 = .ok (.aload_n 0, 1) := by decide +kernel
theorem dX9_judgeLack_29 : decode cX9_judgeLack 29 = .ok (.getfield 57, 3) := by decide +kernel
theorem dX9_judgeLack_32 : decode cX9_judgeLack 32 = .ok (.putfield 89, 3) := by decide +kernel
theorem dX9_judgeLack_35 : decode cX9_judgeLack 35 = .ok (.aload_n 0, 1) := by decide +kernel
theorem dX9_judgeLack_36 : decode cX9_judgeLack 36 = .ok (.aload_n 0, 1) := by decide +kernel
theorem dX9_judgeLack_37 : decode cX9_judgeLack 37 = .ok (.getfield 57, 3) := by decide +kernel
theorem dX9_judgeLack_40 : decode cX9_judgeLack 40 = .ok (.iconst 1, 1) := by decide +kernel
theorem dX9_judgeLack_41 : decode cX9_judgeLack 41 = .ok (.isub, 1) := by decide +kernel
theorem dX9_judgeLack_42 : decode cX9_judgeLack 42 = .ok (.putfield 67, 3) := by decide +kernel
theorem dX9_judgeLack_45 : decode cX9_judgeLack 45 = .ok (.aload_n 0, 1) := by decide +kernel
theorem dX9_judgeLack_46 : decode cX9_judgeLack 46 = .ok (.iload_n 1, 1) := by decide +kernel
theorem dX9_judgeLack_47 : decode cX9_judgeLack 47 = .ok (.invokevirtual 116, 3) := by decide +kernel
theorem dX9_judgeLack_50 : decode cX9_judgeLack 50 = .ok (.return_, 1) := by decide +kernel
theorem dX9_keep_0 : decode cX9_keep 0 = .ok (.iconst 0, 1) := by decide +kernel
theorem dX9_keep_1 : decode cX9_keep 1 = .ok (.istore_n 2, 1) := by decide +kernel
theorem dX9_keep_2 : decode cX9_keep 2 = .ok (.iload_n 2, 1) := by decide +kernel
theorem dX9_keep_3 : decode cX9_keep 3 = .ok (.iconst 3, 1) := by decide +kernel
theorem dX9_keep_4 : decode cX9_keep 4 = .ok (.if_icmp .ge 31, 3) := by decide +kernel
theorem dX9_keep_7 : decode cX9_keep 7 = .ok (.aload_n 0, 1) := by decide +kernel
theorem dX9_keep_8 : decode cX9_keep 8 = .ok (.getfield 21, 3) := by decide +kernel
theorem dX9_keep_11 : decode cX9_keep 11 = .ok (.iload_n 2, 1) := by decide +kernel
theorem dX9_keep_12 : decode cX9_keep 12 = .ok (.iload_n 2, 1) := by decide +kernel
theorem dX9_keep_13 : decode cX9_keep 13 = .ok (.iload_n 1, 1) := by decide +kernel
theorem dX9_keep_14 : decode cX9_keep 14 = .ok (.if_icmp .ge 12, 3) := by decide +kernel
theorem dX9_keep_17 : decode cX9_keep 17 = .ok (.aload_n 0, 1) := by decide +kernel
theorem dX9_keep_18 : decode cX9_keep 18 = .ok (.getfield 18, 3) := by decide +kernel
theorem dX9_keep_21 : decode cX9_keep 21 = .ok (.iload_n 2, 1) := by decide +kernel
theorem dX9_keep_22 : decode cX9_keep 22 = .ok (.iaload, 1) := by decide +kernel
theorem dX9_keep_23 : decode cX9_keep 23 = .ok (.goto 5, 3) := by decide +kernel
theorem dX9_keep_26 : decode cX9_keep 26 = .ok (.bipush 24, 2) := by decide +kernel
theorem dX9_keep_28 : decode cX9_keep 28 = .ok (.iastore, 1) := by decide +kernel
theorem dX9_keep_29 : decode cX9_keep 29 = .ok (.iinc 2 1, 3) := by decide +kernel
theorem dX9_keep_32 : decode cX9_keep 32 = .ok (.goto (-30), 3) := by decide +kernel
theorem dX9_keep_35 : decode cX9_keep 35 = .ok (.return_, 1) := by decide +kernel
theorem dX9_take_0 : decode cX9_take 0 = .ok (.aload_n 0, 1) := by decide +kernel
theorem dX9_take_1 : decode cX9_take 1 = .ok (.getfield 24, 3) := by decide +kernel
theorem dX9_take_4 : decode cX9_take 4 = .ok (.iload_n 1, 1) := by decide +kernel
theorem dX9_take_5 : decode cX9_take 5 = .ok (.invokevirtual 119, 3) := by decide +kernel
theorem dX9_take_8 : decode cX9_take 8 = .ok (.astore_n 2, 1) := by decide +kernel
theorem dX9_take_9 : decode cX9_take 9 = .ok (.iconst 0, 1) := by decide +kernel
theorem dX9_take_10 : decode cX9_take 10 = .ok (.istore_n 3, 1) := by decide +kernel
theorem dX9_take_11 : decode cX9_take 11 = .ok (.iload_n 3, 1) := by decide +kernel
theorem dX9_take_12 : decode cX9_take 12 = .ok (.aload_n 2, 1) := by decide +kernel
theorem dX9_take_13 : decode cX9_take 13 = .ok (.arraylength, 1) := by decide +kernel
theorem dX9_take_14 : decode cX9_take 14 = .ok (.if_icmp .ge 70, 3) := by decide +kernel
theorem dX9_take_17 : decode cX9_take 17 = .ok (.aload_n 2, 1) := by decide +kernel
theorem dX9_take_18 : decode cX9_take 18 = .ok (.iload_n 3, 1) := by decide +kernel
theorem dX9_take_19 : decode cX9_take 19 = .ok (.iaload, 1) := by decide +kernel
theorem dX9_take_20 : decode cX9_take 20 = .ok (.ifCond .lt 64, 3) := by decide +kernel
theorem dX9_take_23 : decode cX9_take 23 = .ok (.aload_n 2, 1) := by decide +kernel
theorem dX9_take_24 : decode cX9_take 24 = .ok (.iload_n 3, 1) := by decide +kernel
theorem dX9_take_25 : decode cX9_take 25 = .ok (.iaload, 1) := by decide +kernel
theorem dX9_take_26 : decode cX9_take 26 = .ok (.bipush 26, 2) := by decide +kernel
theorem dX9_take_28 : decode cX9_take 28 = .ok (.if_icmp .ge 56, 3) := by decide +kernel
theorem dX9_take_31 : decode cX9_take 31 = .ok (.aload_n 0, 1) := by decide +kernel
theorem dX9_take_32 : decode cX9_take 32 = .ok (.dup, 1) := by decide +kernel
theorem dX9_take_33 : decode cX9_take 33 = .ok (.getfield 57, 3) := by decide +kernel
theorem dX9_take_36 : decode cX9_take 36 = .ok (.aload_n 0, 1) := by decide +kernel
theorem dX9_take_37 : decode cX9_take 37 = .ok (.getfield 9, 3) := by decide +kernel
theorem dX9_take_40 : decode cX9_take 40 = .ok (.aload_n 2, 1) := by decide +kernel
theorem dX9_take_41 : decode cX9_take 41 = .ok (.iload_n 3, 1) := by decide +kernel
theorem dX9_take_42 : decode cX9_take 42 = .ok (.iaload, 1) := by decide +kernel
theorem dX9_take_43 : decode cX9_take 43 = .ok (.iaload, 1) := by decide +kernel
theorem dX9_take_44 : decode cX9_take 44 = .ok (.ifCond .le 7, 3) := by decide +kernel
theorem dX9_take_47 : decode cX9_take 47 = .ok (.iconst 0, 1) := by decide +kernel
theorem dX9_take_48 : decode cX9_take 48 = .ok (.goto 4, 3) := by decide +kernel
theorem dX9_take_51 : decode cX9_take 51 = .ok (.iconst 1, 1) := by decide +kernel
theorem dX9_take_52 : decode cX9_take 52 = .ok (.iadd, 1) := by decide +kernel
theorem dX9_take_53 : decode cX9_take 53 = .ok (.putfield 57, 3) := by decide +kernel
theorem dX9_take_56 : decode cX9_take 56 = .ok (.aload_n 0, 1) := by decide +kernel
theorem dX9_take_57 : decode cX9_take 57 = .ok (.getfield 9, 3) := by decide +kernel
theorem dX9_take_60 : decode cX9_take 60 = .ok (.aload_n 2, 1) := by decide +kernel
theorem dX9_take_61 : decode cX9_take 61 = .ok (.iload_n 3, 1) := by decide +kernel
theorem dX9_take_62 : decode cX9_take 62 = .ok (.iaload, 1) := by decide +kernel
theorem dX9_take_63 : decode cX9_take 63 = .ok (.dup2, 1) := by decide +kernel
theorem dX9_take_64 : decode cX9_take 64 = .ok (.iaload, 1) := by decide +kernel
theorem dX9_take_65 : decode cX9_take 65 = .ok (.iconst 1, 1) := by decide +kernel
theorem dX9_take_66 : decode cX9_take 66 = .ok (.isub, 1) := by decide +kernel
theorem dX9_take_67 : decode cX9_take 67 = .ok (.iastore, 1) := by decide +kernel
theorem dX9_take_68 : decode cX9_take 68 = .ok (.aload_n 0, 1) := by decide +kernel
theorem dX9_take_69 : decode cX9_take 69 = .ok (.dup, 1) := by decide +kernel
theorem dX9_take_70 : decode cX9_take 70 = .ok (.getfield 54, 3) := by decide +kernel
theorem dX9_take_73 : decode cX9_take 73 = .ok (.iconst 1, 1) := by decide +kernel
theorem dX9_take_74 : decode cX9_take 74 = .ok (.iadd, 1) := by decide +kernel
theorem dX9_take_75 : decode cX9_take 75 = .ok (.putfield 54, 3) := by decide +kernel
theorem dX9_take_78 : decode cX9_take 78 = .ok (.iinc 3 1, 3) := by decide +kernel
theorem dX9_take_81 : decode cX9_take 81 = .ok (.goto (-70), 3) := by decide +kernel
theorem dX9_take_84 : decode cX9_take 84 = .ok (.aload_n 0, 1) := by decide +kernel
theorem dX9_take_85 : decode cX9_take 85 = .ok (.dup, 1) := by decide +kernel
theorem dX9_take_86 : decode cX9_take 86 = .ok (.getfield 60, 3) := by decide +kernel
theorem dX9_take_89 : decode cX9_take 89 = .ok (.aload_n 0, 1) := by decide +kernel
theorem dX9_take_90 : decode cX9_take 90 = .ok (.getfield 24, 3) := by decide +kernel
theorem dX9_take_93 : decode cX9_take 93 = .ok (.iload_n 1, 1) := by decide +kernel
theorem dX9_take_94 : decode cX9_take 94 = .ok (.invokevirtual 123, 3) := by decide +kernel
theorem dX9_take_97 : decode cX9_take 97 = .ok (.iadd, 1) := by decide +kernel
theorem dX9_take_98 : decode cX9_take 98 = .ok (.putfield 60, 3) := by decide +kernel
theorem dX9_take_101 : decode cX9_take 101 = .ok (.return_, 1) := by decide +kernel
theorem dX9_giveBack_0 : decode cX9_giveBack 0 = .ok (.aload_n 0, 1) := by decide +kernel
theorem dX9_giveBack_1 : decode cX9_giveBack 1 = .ok (.getfield 24, 3) := by decide +kernel
theorem dX9_giveBack_4 : decode cX9_giveBack 4 = .ok (.iload_n 1, 1) := by decide +kernel
theorem dX9_giveBack_5 : decode cX9_giveBack 5 = .ok (.invokevirtual 119, 3) := by decide +kernel
theorem dX9_giveBack_8 : decode cX9_giveBack 8 = .ok (.astore_n 2, 1) := by decide +kernel
theorem dX9_giveBack_9 : decode cX9_giveBack 9 = .ok (.iconst 0, 1) := by decide +kernel
theorem dX9_giveBack_10 : decode cX9_giveBack 10 = .ok (.istore_n 3, 1) := by decide +kernel
theorem dX9_giveBack_11 : decode cX9_giveBack 11 = .ok (.iload_n 3, 1) := by decide +kernel
theorem dX9_giveBack_12 : decode cX9_giveBack 12 = .ok (.aload_n 2, 1) := by decide +kernel
theorem dX9_giveBack_13 : decode cX9_giveBack 13 = .ok (.arraylength, 1) := by decide +kernel
theorem dX9_giveBack_14 : decode cX9_giveBack 14 = .ok (.if_icmp .ge 70, 3) := by decide +kernel
theorem dX9_giveBack_17 : decode cX9_giveBack 17 = .ok (.aload_n 2, 1) := by decide +kernel
theorem dX9_giveBack_18 : decode cX9_giveBack 18 = .ok (.iload_n 3, 1) := by decide +kernel
theorem dX9_giveBack_19 : decode cX9_giveBack 19 = .ok (.iaload, 1) := by decide +kernel
theorem dX9_giveBack_20 : decode cX9_giveBack 20 = .ok (.ifCond .lt 64, 3) := by decide +kernel
theorem dX9_giveBack_23 : decode cX9_giveBack 23 = .ok (.aload_n 2, 1) := by decide +kernel
theorem dX9_giveBack_24 : decode cX9_giveBack 24 = .ok (.iload_n 3, 1) := by decide +kernel
theorem dX9_giveBack_25 : decode cX9_giveBack 25 = .ok (.iaload, 1) := by decide +kernel
theorem dX9_giveBack_26 : decode cX9_giveBack 26 = .ok (.bipush 26, 2) := by decide +kernel
theorem dX9_giveBack_28 : decode cX9_giveBack 28 = .ok (.if_icmp .ge 56, 3) := by decide +kernel
theorem dX9_giveBack_31 : decode cX9_giveBack 31 = .ok (.aload_n 0, 1) := by decide +kernel
theorem dX9_giveBack_32 : decode cX9_giveBack 32 = .ok (.getfield 9, 3) := by decide +kernel
theorem dX9_giveBack_35 : decode cX9_giveBack 35 = .ok (.aload_n 2, 1) := by decide +kernel
theorem dX9_giveBack_36 : decode cX9_giveBack 36 = .ok (.iload_n 3, 1) := by decide +kernel
theorem dX9_giveBack_37 : decode cX9_giveBack 37 = .ok (.iaload, 1) := by decide +kernel
theorem dX9_giveBack_38 : decode cX9_giveBack 38 = .ok (.dup2, 1) := by decide +kernel
theorem dX9_giveBack_39 : decode cX9_giveBack 39 = .ok (.iaload, 1) := by decide +kernel
theorem dX9_giveBack_40 : decode cX9_giveBack 40 = .ok (.iconst 1, 1) := by decide +kernel
theorem dX9_giveBack_41 : decode cX9_giveBack 41 = .ok (.iadd, 1) := by decide +kernel
theorem dX9_giveBack_42 : decode cX9_giveBack 42 = .ok (.iastore, 1) := by decide +kernel
theorem dX9_giveBack_43 : decode cX9_giveBack 43 = .ok (.aload_n 0, 1) := by decide +kernel
theorem dX9_giveBack_44 : decode cX9_giveBack 44 = .ok (.dup, 1) := by decide +kernel
theorem dX9_giveBack_45 : decode cX9_giveBack 45 = .ok (.getfield 57, 3) := by decide +kernel
theorem dX9_giveBack_48 : decode cX9_giveBack 48 = .ok (.aload_n 0, 1) := by decide +kernel
theorem dX9_giveBack_49 : decode cX9_giveBack 49 = .ok (.getfield 9, 3) := by decide +kernel
theorem dX9_giveBack_52 : decode cX9_giveBack 52 = .ok (.aload_n 2, 1) := by decide +kernel
theorem dX9_giveBack_53 : decode cX9_giveBack 53 = .ok (.iload_n 3, 1) := by decide +kernel
theorem dX9_giveBack_54 : decode cX9_giveBack 54 = .ok (.iaload, 1) := by decide +kernel
theorem dX9_giveBack_55 : decode cX9_giveBack 55 = .ok (.iaload, 1) := by decide +kernel
theorem dX9_giveBack_56 : decode cX9_giveBack 56 = .ok (.ifCond .le 7, 3) := by decide +kernel
theorem dX9_giveBack_59 : decode cX9_giveBack 59 = .ok (.iconst 0, 1) := by decide +kernel
theorem dX9_giveBack_60 : decode cX9_giveBack 60 = .ok (.goto 4, 3) := by decide +kernel
theorem dX9_giveBack_63 : decode cX9_giveBack 63 = .ok (.iconst 1, 1) := by decide +kernel
theorem dX9_giveBack_64 : decode cX9_giveBack 64 = .ok (.isub, 1) := by decide +kernel
theorem dX9_giveBack_65 : decode cX9_giveBack 65 = .ok (.putfield 57, 3) := by decide +kernel
theorem dX9_giveBack_68 : decode cX9_giveBack 68 = .ok (.aload_n 0, 1) := by decide +kernel
theorem dX9_giveBack_69 : decode cX9_giveBack 69 = .ok (.dup, 1) := by decide +kernel
theorem dX9_giveBack_70 : decode cX9_giveBack 70 = .ok (.getfield 54, 3) := by decide +kernel
theorem dX9_giveBack_73 : decode cX9_giveBack 73 = .ok (.iconst 1, 1) := by decide +kernel
theorem dX9_giveBack_74 : decode cX9_giveBack 74 = .ok (.isub, 1) := by decide +kernel
theorem dX9_giveBack_75 : decode cX9_giveBack 75 = .ok (.putfield 54, 3) := by decide +kernel
theorem dX9_giveBack_78 : decode cX9_giveBack 78 = .ok (.iinc 3 1, 3) := by decide +kernel
theorem dX9_giveBack_81 : decode cX9_giveBack 81 = .ok (.goto (-70), 3) := by decide +kernel
theorem dX9_giveBack_84 : decode cX9_giveBack 84 = .ok (.aload_n 0, 1) := by decide +kernel
theorem dX9_giveBack_85 : decode cX9_giveBack 85 = .ok (.dup, 1) := by decide +kernel
theorem dX9_giveBack_86 : decode cX9_giveBack 86 = .ok (.getfield 60, 3) := by decide +kernel
theorem dX9_giveBack_89 : decode cX9_giveBack 89 = .ok (.aload_n 0, 1) := by decide +kernel
theorem dX9_giveBack_90 : decode cX9_giveBack 90 = .ok (.getfield 24, 3) := by decide +kernel
theorem dX9_giveBack_93 : decode cX9_giveBack 93 = .ok (.iload_n 1, 1) := by decide +kernel
theorem dX9_giveBack_94 : decode cX9_giveBack 94 = .ok (.invokevirtual 123, 3) := by decide +kernel
theorem dX9_giveBack_97 : decode cX9_giveBack 97 = .ok (.isub, 1) := by decide +kernel
theorem dX9_giveBack_98 : decode cX9_giveBack 98 = .ok (.putfield 60, 3) := by decide +kernel
theorem dX9_giveBack_101 : decode cX9_giveBack 101 = .ok (.return_, 1) := by decide +kernel
theorem dX9_foundAt_0 : decode cX9_foundAt 0 = .ok (.iload_n 1, 1) := by decide +kernel
theorem dX9_foundAt_1 : decode cX9_foundAt 1 = .ok (.ifCond .lt 17, 3) := by decide +kernel
theorem dX9_foundAt_4 : decode cX9_foundAt 4 = .ok (.iload_n 1, 1) := by decide +kernel
theorem dX9_foundAt_5 : decode cX9_foundAt 5 = .ok (.iconst 3, 1) := by decide +kernel
theorem dX9_foundAt_6 : decode cX9_foundAt 6 = .ok (.if_icmp .ge 12, 3) := by decide +kernel
theorem dX9_foundAt_9 : decode cX9_foundAt 9 = .ok (.aload_n 0, 1) := by decide +kernel
theorem dX9_foundAt_10 : decode cX9_foundAt 10 = .ok (.getfield 21, 3) := by decide +kernel
theorem dX9_foundAt_13 : decode cX9_foundAt 13 = .ok (.iload_n 1, 1) := by decide +kernel
theorem dX9_foundAt_14 : decode cX9_foundAt 14 = .ok (.iaload, 1) := by decide +kernel
theorem dX9_foundAt_15 : decode cX9_foundAt 15 = .ok (.goto 5, 3) := by decide +kernel
theorem dX9_foundAt_18 : decode cX9_foundAt 18 = .ok (.bipush 24, 2) := by decide +kernel
theorem dX9_foundAt_20 : decode cX9_foundAt 20 = .ok (.ireturn, 1) := by decide +kernel
theorem dX9_lackingAt_0 : decode cX9_lackingAt 0 = .ok (.iconst 0, 1) := by decide +kernel
theorem dX9_lackingAt_1 : decode cX9_lackingAt 1 = .ok (.istore_n 2, 1) := by decide +kernel
theorem dX9_lackingAt_2 : decode cX9_lackingAt 2 = .ok (.iconst 0, 1) := by decide +kernel
theorem dX9_lackingAt_3 : decode cX9_lackingAt 3 = .ok (.istore_n 3, 1) := by decide +kernel
theorem dX9_lackingAt_4 : decode cX9_lackingAt 4 = .ok (.iload_n 3, 1) := by decide +kernel
theorem dX9_lackingAt_5 : decode cX9_lackingAt 5 = .ok (.bipush 26, 2) := by decide +kernel
theorem dX9_lackingAt_7 : decode cX9_lackingAt 7 = .ok (.if_icmp .ge 30, 3) := by decide +kernel
theorem dX9_lackingAt_10 : decode cX9_lackingAt 10 = .ok (.iload_n 2, 1) := by decide +kernel
theorem dX9_lackingAt_11 : decode cX9_lackingAt 11 = .ok (.iconst 0, 1) := by decide +kernel
theorem dX9_lackingAt_12 : decode cX9_lackingAt 12 = .ok (.aload_n 0, 1) := by decide +kernel
theorem dX9_lackingAt_13 : decode cX9_lackingAt 13 = .ok (.getfield 9, 3) := by decide +kernel
theorem dX9_lackingAt_16 : decode cX9_lackingAt 16 = .ok (.iload_n 3, 1) := by decide +kernel
theorem dX9_lackingAt_17 : decode cX9_lackingAt 17 = .ok (.iaload, 1) := by decide +kernel
theorem dX9_lackingAt_18 : decode cX9_lackingAt 18 = .ok (.ineg, 1) := by decide +kernel
theorem dX9_lackingAt_19 : decode cX9_lackingAt 19 = .ok (.invokestatic 98, 3) := by decide +kernel
theorem dX9_lackingAt_22 : decode cX9_lackingAt 22 = .ok (.iadd, 1) := by decide +kernel
theorem dX9_lackingAt_23 : decode cX9_lackingAt 23 = .ok (.istore_n 2, 1) := by decide +kernel
theorem dX9_lackingAt_24 : decode cX9_lackingAt 24 = .ok (.iload_n 1, 1) := by decide +kernel
theorem dX9_lackingAt_25 : decode cX9_lackingAt 25 = .ok (.iload_n 2, 1) := by decide +kernel
theorem dX9_lackingAt_26 : decode cX9_lackingAt 26 = .ok (.if_icmp .ge 5, 3) := by decide +kernel
theorem dX9_lackingAt_29 : decode cX9_lackingAt 29 = .ok (.iload_n 3, 1) := by decide +kernel
theorem dX9_lackingAt_30 : decode cX9_lackingAt 30 = .ok (.ireturn, 1) := by decide +kernel
theorem dX9_lackingAt_31 : decode cX9_lackingAt 31 = .ok (.iinc 3 1, 3) := by decide +kernel
theorem dX9_lackingAt_34 : decode cX9_lackingAt 34 = .ok (.goto (-30), 3) := by decide +kernel
theorem dX9_lackingAt_37 : decode cX9_lackingAt 37 = .ok (.iconst (-1), 1) := by decide +kernel
theorem dX9_lackingAt_38 : decode cX9_lackingAt 38 = .ok (.ireturn, 1) := by decide +kernel
theorem dX10_init_0 : decode cX10_init 0 = .ok (.aload_n 0, 1) := by decide +kernel
theorem dX10_init_1 : decode cX10_init 1 = .ok (.invokespecial 3, 3) := by decide +kernel
theorem dX10_init_4 : decode cX10_init 4 = .ok (.aload_n 0, 1) := by decide +kernel
theorem dX10_init_5 : decode cX10_init 5 = .ok (.new 9, 3) := by decide +kernel
theorem dX10_init_8 : decode cX10_init 8 = .ok (.dup, 1) := by decide +kernel
theorem dX10_init_9 : decode cX10_init 9 = .ok (.invokespecial 11, 3) := by decide +kernel
theorem dX10_init_12 : decode cX10_init 12 = .ok (.putfield 12, 3) := by decide +kernel
theorem dX10_init_15 : decode cX10_init 15 = .ok (.aload_n 0, 1) := by decide +kernel
theorem dX10_init_16 : decode cX10_init 16 = .ok (.new 16, 3) := by decide +kernel
theorem dX10_init_19 : decode cX10_init 19 = .ok (.dup, 1) := by decide +kernel
theorem dX10_init_20 : decode cX10_init 20 = .ok (.aload_n 0, 1) := by decide +kernel
theorem dX10_init_21 : decode cX10_init 21 = .ok (.getfield 12, 3) := by decide +kernel
theorem dX10_init_24 : decode cX10_init 24 = .ok (.invokespecial 18, 3) := by decide +kernel
theorem dX10_init_27 : decode cX10_init 27 = .ok (.putfield 21, 3) := by decide +kernel
theorem dX10_init_30 : decode cX10_init 30 = .ok (.aload_n 0, 1) := by decide +kernel
theorem dX10_init_31 : decode cX10_init 31 = .ok (.new 9, 3) := by decide +kernel
theorem dX10_init_34 : decode cX10_init 34 = .ok (.dup, 1) := by decide +kernel
theorem dX10_init_35 : decode cX10_init 35 = .ok (.invokespecial 11, 3) := by decide +kernel
theorem dX10_init_38 : decode cX10_init 38 = .ok (.putfield 25, 3) := by decide +kernel
theorem dX10_init_41 : decode cX10_init 41 = .ok (.aload_n 0, 1) := by decide +kernel
theorem dX10_init_42 : decode cX10_init 42 = .ok (.new 28, 3) := by decide +kernel
theorem dX10_init_45 : decode cX10_init 45 = .ok (.dup, 1) := by decide +kernel
theorem dX10_init_46 : decode cX10_init 46 = .ok (.aload_n 0, 1) := by decide +kernel
theorem dX10_init_47 : decode cX10_init 47 = .ok (.getfield 25, 3) := by decide +kernel
theorem dX10_init_50 : decode cX10_init 50 = .ok (.invokespecial 30, 3) := by decide +kernel
theorem dX10_init_53 : decode cX10_init 53 = .ok (.putfield 31, 3) := by decide +kernel
theorem dX10_init_56 : decode cX10_init 56 = .ok (.aload_n 0, 1) := by decide +kernel
theorem dX10_init_57 : decode cX10_init 57 = .ok (.new 35, 3) := by decide +kernel
theorem dX10_init_60 : decode cX10_init 60 = .ok (.dup, 1) := by decide +kernel
theorem dX10_init_61 : decode cX10_init 61 = .ok (.aload_n 0, 1) := by decide +kernel
theorem dX10_init_62 : decode cX10_init 62 = .ok (.getfield 25, 3) := by decide +kernel
theorem dX10_init_65 : decode cX10_init 65 = .ok (.aload_n 0, 1) := by decide +kernel
theorem dX10_init_66 : decode cX10_init 66 = .ok (.getfield 31, 3) := by decide +kernel
theorem dX10_init_69 : decode cX10_init 69 = .ok (.invokespecial 37, 3) := by decide +kernel
theorem dX10_init_72 : decode cX10_init 72 = .ok (.putfield 40, 3) := by decide +kernel
theorem dX10_init_75 : decode cX10_init 75 = .ok (.aload_n 0, 1) := by decide +kernel
theorem dX10_init_76 : decode cX10_init 76 = .ok (.new 44, 3) := by decide +kernel
theorem dX10_init_79 : decode cX10_init 79 = .ok (.dup, 1) := by decide +kernel
theorem dX10_init_80 : decode cX10_init 80 = .ok (.aload_n 0, 1) := by decide +kernel
theorem dX10_init_81 : decode cX10_init 81 = .ok (.getfield 25, 3) := by decide +kernel
theorem dX10_init_84 : decode cX10_init 84 = .ok (.invokespecial 46, 3) := by decide +kernel
theorem dX10_init_87 : decode cX10_init 87 = .ok (.putfield 47, 3) := by decide +kernel
theorem dX10_init_90 : decode cX10_init 90 = .ok (.aload_n 0, 1) := by decide +kernel
theorem dX10_init_91 : decode cX10_init 91 = .ok (.new 44, 3) := by decide +kernel
theorem dX10_init_94 : decode cX10_init 94 = .ok (.dup, 1) := by decide +kernel
theorem dX10_init_95 : decode cX10_init 95 = .ok (.aload_n 0, 1) := by decide +kernel
theorem dX10_init_96 : decode cX10_init 96 = .ok (.getfield 25, 3) := by decide +kernel
theorem dX10_init_99 : decode cX10_init 99 = .ok (.invokespecial 46, 3) := by decide +kernel
theorem dX10_init_102 : decode cX10_init 102 = .ok (.putfield 51, 3) := by decide +kernel
theorem dX10_init_105 : decode cX10_init 105 = .ok (.aload_n 0, 1) := by decide +kernel
theorem dX10_init_106 : decode cX10_init 106 = .ok (.new 44, 3) := by decide +kernel
theorem dX10_init_109 : decode cX10_init 109 = .ok (.dup, 1) := by decide +kernel
theorem dX10_init_110 : decode cX10_init 110 = .ok (.aload_n 0, 1) := by decide +kernel
theorem dX10_init_111 : decode cX10_init 111 = .ok (.getfield 25, 3) := by decide +kernel
theorem dX10_init_114 : decode cX10_init 114 = .ok (.invokespecial 46, 3) := by decide +kernel
theorem dX10_init_117 : decode cX10_init 117 = .ok (.putfield 54, 3) := by decide +kernel
theorem dX10_init_120 : decode cX10_init 120 = .ok (.aload_n 0, 1) := by decide +kernel
theorem dX10_init_121 : decode cX10_init 121 = .ok (.new 44, 3) := by decide +kernel
theorem dX10_init_124 : decode cX10_init 124 = .ok (.dup, 1) := by decide +kernel
theorem dX10_init_125 : decode cX10_init 125 = .ok (.aload_n 0, 1) := by decide +kernel
theorem dX10_init_126 : decode cX10_init 126 = .ok (.getfield 25, 3) := by decide +kernel
theorem dX10_init_129 : decode cX10_init 129 = .ok (.invokespecial 46, 3) := by decide +kernel
theorem dX10_init_132 : decode cX10_init 132 = .ok (.putfield 57, 3) := by decide +kernel
theorem dX10_init_135 : decode cX10_init 135 = .ok (.aload_n 0, 1) := by decide +kernel
theorem dX10_init_136 : decode cX10_init 136 = .ok (.bipush 26, 2) := by decide +kernel
theorem dX10_init_138 : decode cX10_init 138 = .ok (.newarray .int, 2) := by decide +kernel
theorem dX10_init_140 : decode cX10_init 140 = .ok (.putfield 60, 3) := by decide +kernel
theorem dX10_init_143 : decode cX10_init 143 = .ok (.aload_n 0, 1) := by decide +kernel
theorem dX10_init_144 : decode cX10_init 144 = .ok (.new 64, 3) := by decide +kernel
theorem dX10_init_147 : decode cX10_init 147 = .ok (.dup, 1) := by decide +kernel
theorem dX10_init_148 : decode cX10_init 148 = .ok (.aload_n 0, 1) := by decide +kernel
theorem dX10_init_149 : decode cX10_init 149 = .ok (.getfield 25, 3) := by decide +kernel
theorem dX10_init_152 : decode cX10_init 152 = .ok (.aload_n 0, 1) := by decide +kernel
theorem dX10_init_153 : decode cX10_init 153 = .ok (.getfield 31, 3) := by decide +kernel
theorem dX10_init_156 : decode cX10_init 156 = .ok (.invokespecial 66, 3) := by decide +kernel
theorem dX10_init_159 : decode cX10_init 159 = .ok (.putfield 67, 3) := by decide +kernel
theorem dX10_init_162 : decode cX10_init 162 = .ok (.aload_n 0, 1) := by decide +kernel
theorem dX10_init_163 : decode cX10_init 163 = .ok (.new 71, 3) := by decide +kernel
theorem dX10_init_166 : decode cX10_init 166 = .ok (.dup, 1) := by decide +kernel
theorem dX10_init_167 : decode cX10_init 167 = .ok (.aload_n 0, 1) := by decide +kernel
theorem dX10_init_168 : decode cX10_init 168 = .ok (.getfield 25, 3) := by decide +kernel
theorem dX10_init_171 : decode cX10_init 171 = .ok (.aload_n 0, 1) := by decide +kernel
theorem dX10_init_172 : decode cX10_init 172 = .ok (.getfield 31, 3) := by decide +kernel
theorem dX10_init_175 : decode cX10_init 175 = .ok (.aload_n 0, 1) := by decide +kernel
theorem dX10_init_176 : decode cX10_init 176 = .ok (.getfield 67, 3) := by decide +kernel
theorem dX10_init_179 : decode cX10_init 179 = .ok (.invokespecial 73, 3) := by decide +kernel
theorem dX10_init_182 : decode cX10_init 182 = .ok (.putfield 76, 3) := by decide +kernel
theorem dX10_init_185 : decode cX10_init 185 = .ok (.aload_n 0, 1) := by decide +kernel
theorem dX10_init_186 : decode cX10_init 186 = .ok (.new 80, 3) := by decide +kernel
theorem dX10_init_189 : decode cX10_init 189 = .ok (.dup, 1) := by decide +kernel
theorem dX10_init_190 : decode cX10_init 190 = .ok (.aload_n 0, 1) := by decide +kernel
theorem dX10_init_191 : decode cX10_init 191 = .ok (.getfield 25, 3) := by decide +kernel
theorem dX10_init_194 : decode cX10_init 194 = .ok (.aload_n 0, 1) := by decide +kernel
theorem dX10_init_195 : decode cX10_init 195 = .ok (.getfield 31, 3) := by decide +kernel
theorem dX10_init_198 : decode cX10_init 198 = .ok (.invokespecial 82, 3) := by decide +kernel
theorem dX10_init_201 : decode cX10_init 201 = .ok (.putfield 83, 3) := by decide +kernel
theorem dX10_init_204 : decode cX10_init 204 = .ok (.aload_n 0, 1) := by decide +kernel
theorem dX10_init_205 : decode cX10_init 205 = .ok (.new 87, 3) := by decide +kernel
theorem dX10_init_208 : decode cX10_init 208 = .ok (.dup, 1) := by decide +kernel
theorem dX10_init_209 : decode cX10_init 209 = .ok (.aload_n 0, 1) := by decide +kernel
theorem dX10_init_210 : decode cX10_init 210 = .ok (.getfield 25, 3) := by decide +kernel
theorem dX10_init_213 : decode cX10_init 213 = .ok (.aload_n 0, 1) := by decide +kernel
theorem dX10_init_214 : decode cX10_init 214 = .ok (.getfield 31, 3) := by decide +kernel
theorem dX10_init_217 : decode cX10_init 217 = .ok (.invokespecial 89, 3) := by decide +kernel
theorem dX10_init_220 : decode cX10_init 220 = .ok (.putfield 90, 3) := by decide +kernel
theorem dX10_init_223 : decode cX10_init 223 = .ok (.aload_n 0, 1) := by decide +kernel
theorem dX10_init_224 : decode cX10_init 224 = .ok (.new 94, 3) := by decide +kernel
theorem dX10_init_227 : decode cX10_init 227 = .ok (.dup, 1) := by decide +kernel
theorem dX10_init_228 : decode cX10_init 228 = .ok (.invokespecial 96, 3) := by decide +kernel
theorem dX10_init_231 : decode cX10_init 231 = .ok (.putfield 97, 3) := by decide +kernel
theorem dX10_init_234 : decode cX10_init 234 = .ok (.aload_n 0, 1) := by decide +kernel
theorem dX10_init_235 : decode cX10_init 235 = .ok (.new 94, 3) := by decide +kernel
theorem dX10_init_238 : decode cX10_init 238 = .ok (.dup, 1) := by decide +kernel
theorem dX10_init_239 : decode cX10_init 239 = .ok (.invokespecial 96, 3) := by decide +kernel
theorem dX10_init_242 : decode cX10_init 242 = .ok (.putfield 101, 3) := by decide +kernel
theorem dX10_init_245 : decode cX10_init 245 = .ok (.aload_n 0, 1) := by decide +kernel
theorem dX10_init_246 : decode cX10_init 246 = .ok (.iconst 3, 1) := by decide +kernel
theorem dX10_init_247 : decode cX10_init 247 = .ok (.anewarray 94, 3) := by decide +kernel
theorem dX10_init_250 : decode cX10_init 250 = .ok (.putfield 104, 3) := by decide +kernel
theorem dX10_init_253 : decode cX10_init 253 = .ok (.iconst 0, 1) := by decide +kernel
theorem dX10_init_254 : decode cX10_init 254 = .ok (.istore_n 1, 1) := by decide +kernel
theorem dX10_init_255 : decode cX10_init 255 = .ok (.iload_n 1, 1) := by decide +kernel
theorem dX10_init_256 : decode cX10_init 256 = .ok (.iconst 3, 1) := by decide +kernel
theorem dX10_init_257 : decode cX10_init 257 = .ok (.if_icmp .ge 22, 3) := by decide +kernel
theorem dX10_init_260 : decode cX10_init 260 = .ok (.aload_n 0, 1) := by decide +kernel
theorem dX10_init_261 : decode cX10_init 261 = .ok (.getfield 104, 3) := by decide +kernel
theorem dX10_init_264 : decode cX10_init 264 = .ok (.iload_n 1, 1) := by decide +kernel
theorem dX10_init_265 : decode cX10_init 265 = .ok (.new 94, 3) := by decide +kernel
theorem dX10_init_268 : decode cX10_init 268 = .ok (.dup, 1) := by decide +kernel
theorem dX10_init_269 : decode cX10_init 269 = .ok (.invokespecial 96, 3) := by decide +kernel
theorem dX10_init_272 : decode cX10_init 272 = .ok (.aastore, 1) := by decide +kernel
theorem dX10_init_273 : decode cX10_init 273 = .ok (.iinc 1 1, 3) := by decide +kernel
theorem dX10_init_276 : decode cX10_init 276 = .ok (.goto (-21), 3) := by decide +kernel
theorem dX10_init_279 : decode cX10_init 279 = .ok (.return_, 1) := by decide +kernel
theorem dX10_feed_0 : decode cX10_feed 0 = .ok (.aload_n 0, 1) := by decide +kernel
theorem dX10_feed_1 : decode cX10_feed 1 = .ok (.getfield 21, 3) := by decide +kernel
theorem dX10_feed_4 : decode cX10_feed 4 = .ok (.iload_n 1, 1) := by decide +kernel
theorem dX10_feed_5 : decode cX10_feed 5 = .ok (.iload_n 2, 1) := by decide +kernel
theorem dX10_feed_6 : decode cX10_feed 6 = .ok (.iload_n 3, 1) := by decide +kernel
theorem dX10_feed_7 : decode cX10_feed 7 = .ok (.iload 4, 2) := by decide +kernel
theorem dX10_feed_9 : decode cX10_feed 9 = .ok (.iload 5, 2) := by decide +kernel
theorem dX10_feed_11 : decode cX10_feed 11 = .ok (.invokevirtual 108, 3) := by decide +kernel
theorem dX10_feed_14 : decode cX10_feed 14 = .ok (.ireturn, 1) := by decide +kernel
theorem dX10_inn_0 : decode cX10_inn 0 = .ok (.iload_n 1, 1) := by decide +kernel
theorem dX10_inn_1 : decode cX10_inn 1 = .ok (.ifCond .lt 14, 3) := by decide +kernel
theorem dX10_inn_4 : decode cX10_inn 4 = .ok (.iload_n 1, 1) := by decide +kernel
theorem dX10_inn_5 : decode cX10_inn 5 = .ok (.aload_n 0, 1) := by decide +kernel
theorem dX10_inn_6 : decode cX10_inn 6 = .ok (.getfield 21, 3) := by decide +kernel
theorem dX10_inn_9 : decode cX10_inn 9 = .ok (.getfield 112, 3) := by decide +kernel
theorem dX10_inn_12 : decode cX10_inn 12 = .ok (.if_icmp .le 9, 3) := by decide +kernel
theorem dX10_inn_15 : decode cX10_inn 15 = .ok (.aload_n 0, 1) := by decide +kernel
theorem dX10_inn_16 : decode cX10_inn 16 = .ok (.iconst 2, 1) := by decide +kernel
theorem dX10_inn_17 : decode cX10_inn 17 = .ok (.invokevirtual 116, 3) := by decide +kernel
theorem dX10_inn_20 : decode cX10_inn 20 = .ok (.ireturn, 1) := by decide +kernel
theorem dX10_inn_21 : decode cX10_inn 21 = .ok (.aload_n 0, 1) := by decide +kernel
theorem dX10_inn_22 : decode cX10_inn 22 = .ok (.getfield 21, 3) := by decide +kernel
theorem dX10_inn_25 : decode cX10_inn 25 = .ok (.iload_n 1, 1) := by decide +kernel
theorem dX10_inn_26 : decode cX10_inn 26 = .ok (.invokevirtual 120, 3) := by decide +kernel
theorem dX10_inn_29 : decode cX10_inn 29 = .ok (.ifCond .ne 9, 3) := by decide +kernel
theorem dX10_inn_32 : decode cX10_inn 32 = .ok (.aload_n 0, 1) := by decide +kernel
theorem dX10_inn_33 : decode cX10_inn 33 = .ok (.iconst 4, 1) := by decide +kernel
theorem dX10_inn_34 : decode cX10_inn 34 = .ok (.invokevirtual 116, 3) := by decide +kernel
theorem dX10_inn_37 : decode cX10_inn 37 = .ok (.ireturn, 1) := by decide +kernel
theorem dX10_inn_38 : decode cX10_inn 38 = .ok (.aload_n 0, 1) := by decide +kernel
theorem dX10_inn_39 : decode cX10_inn 39 = .ok (.getfield 25, 3) := by decide +kernel
theorem dX10_inn_42 : decode cX10_inn 42 = .ok (.aload_n 0, 1) := by decide +kernel
theorem dX10_inn_43 : decode cX10_inn 43 = .ok (.getfield 12, 3) := by decide +kernel
theorem dX10_inn_46 : decode cX10_inn 46 = .ok (.invokevirtual 124, 3) := by decide +kernel
theorem dX10_inn_49 : decode cX10_inn 49 = .ok (.aload_n 0, 1) := by decide +kernel
theorem dX10_inn_50 : decode cX10_inn 50 = .ok (.getfield 31, 3) := by decide +kernel
theorem dX10_inn_53 : decode cX10_inn 53 = .ok (.invokevirtual 127, 3) := by decide +kernel
theorem dX10_inn_56 : decode cX10_inn 56 = .ok (.aload_n 0, 1) := by decide +kernel
theorem dX10_inn_57 : decode cX10_inn 57 = .ok (.getfield 97, 3) := by decide +kernel
theorem dX10_inn_60 : decode cX10_inn 60 = .ok (.iconst 0, 1) := by decide +kernel
theorem dX10_inn_61 : decode cX10_inn 61 = .ok (.invokevirtual 130, 3) := by decide +kernel
theorem dX10_inn_64 : decode cX10_inn 64 = .ok (.aload_n 0, 1) := by decide +kernel
theorem dX10_inn_65 : decode cX10_inn 65 = .ok (.invokevirtual 134, 3) := by decide +kernel
theorem dX10_inn_68 : decode cX10_inn 68 = .ok (.aload_n 0, 1) := by decide +kernel
theorem dX10_inn_69 : decode cX10_inn 69 = .ok (.aload_n 0, 1) := by decide +kernel
theorem dX10_inn_70 : decode cX10_inn 70 = .ok (.getfield 25, 3) := by decide +kernel
theorem dX10_inn_73 : decode cX10_inn 73 = .ok (.getfield 137, 3) := by decide +kernel
theorem dX10_inn_76 : decode cX10_inn 76 = .ok (.invokevirtual 140, 3) := by decide +kernel
theorem dX10_inn_79 : decode cX10_inn 79 = .ok (.ireturn, 1) := by decide +kernel
theorem dX10_fault_0 : decode cX10_fault 0 = .ok (.aload_n 0, 1) := by decide +kernel
theorem dX10_fault_1 : decode cX10_fault 1 = .ok (.getfield 21, 3) := by decide +kernel
theorem dX10_fault_4 : decode cX10_fault 4 = .ok (.getfield 143, 3) := by decide +kernel
theorem dX10_fault_7 : decode cX10_fault 7 = .ok (.ireturn, 1) := by decide +kernel
theorem dX10_where_0 : decode cX10_where 0 = .ok (.aload_n 0, 1) := by decide +kernel
theorem dX10_where_1 : decode cX10_where 1 = .ok (.getfield 146, 3) := by decide +kernel
theorem dX10_where_4 : decode cX10_where 4 = .ok (.iconst 4, 1) := by decide +kernel
theorem dX10_where_5 : decode cX10_where 5 = .ok (.if_icmp .ne 13, 3) := by decide +kernel
theorem dX10_where_8 : decode cX10_where 8 = .ok (.aload_n 0, 1) := by decide +kernel
theorem dX10_where_9 : decode cX10_where 9 = .ok (.getfield 21, 3) := by decide +kernel
theorem dX10_where_12 : decode cX10_where 12 = .ok (.getfield 149, 3) := by decide +kernel
theorem dX10_where_15 : decode cX10_where 15 = .ok (.goto 4, 3) := by decide +kernel
theorem dX10_where_18 : decode cX10_where 18 = .ok (.iconst (-1), 1) := by decide +kernel
theorem dX10_where_19 : decode cX10_where 19 = .ok (.ireturn, 1) := by decide +kernel
theorem dX10_word_0 : decode cX10_word 0 = .ok (.aload_n 0, 1) := by decide +kernel
theorem dX10_word_1 : decode cX10_word 1 = .ok (.getfield 25, 3) := by decide +kernel
theorem dX10_word_4 : decode cX10_word 4 = .ok (.iload_n 1, 1) := by decide +kernel
theorem dX10_word_5 : decode cX10_word 5 = .ok (.invokevirtual 152, 3) := by decide +kernel
theorem dX10_word_8 : decode cX10_word 8 = .ok (.ifCond .ne 9, 3) := by decide +kernel
theorem dX10_word_11 : decode cX10_word 11 = .ok (.aload_n 0, 1) := by decide +kernel
theorem dX10_word_12 : decode cX10_word 12 = .ok (.iconst 1, 1) := by decide +kernel
theorem dX10_word_13 : decode cX10_word 13 = .ok (.invokevirtual 116, 3) := by decide +kernel
theorem dX10_word_16 : decode cX10_word 16 = .ok (.ireturn, 1) := by decide +kernel
theorem dX10_word_17 : decode cX10_word 17 = .ok (.iload_n 2, 1) := by decide +kernel
theorem dX10_word_18 : decode cX10_word 18 = .ok (.tableswitch 98 0 3 #[30, 43, 56, 77], 30) := by decide +kernel
theorem dX10_word_48 : decode cX10_word 48 = .ok (.aload_n 0, 1) := by decide +kernel
theorem dX10_word_49 : decode cX10_word 49 = .ok (.aload_n 0, 1) := by decide +kernel
theorem dX10_word_50 : decode cX10_word 50 = .ok (.getfield 25, 3) := by decide +kernel
theorem dX10_word_53 : decode cX10_word 53 = .ok (.iload_n 1, 1) := by decide +kernel
theorem dX10_word_54 : decode cX10_word 54 = .ok (.invokevirtual 155, 3) := by decide +kernel
theorem dX10_word_57 : decode cX10_word 57 = .ok (.invokevirtual 140, 3) := by decide +kernel
theorem dX10_word_60 : decode cX10_word 60 = .ok (.ireturn, 1) := by decide +kernel
theorem dX10_word_61 : decode cX10_word 61 = .ok (.aload_n 0, 1) := by decide +kernel
theorem dX10_word_62 : decode cX10_word 62 = .ok (.aload_n 0, 1) := by decide +kernel
theorem dX10_word_63 : decode cX10_word 63 = .ok (.getfield 25, 3) := by decide +kernel
theorem dX10_word_66 : decode cX10_word 66 = .ok (.iload_n 1, 1) := by decide +kernel
theorem dX10_word_67 : decode cX10_word 67 = .ok (.invokevirtual 158, 3) := by decide +kernel
theorem dX10_word_70 : decode cX10_word 70 = .ok (.invokevirtual 140, 3) := by decide +kernel
theorem dX10_word_73 : decode cX10_word 73 = .ok (.ireturn, 1) := by decide +kernel
theorem dX10_word_74 : decode cX10_word 74 = .ok (.aload_n 0, 1) := by decide +kernel
theorem dX10_word_75 : decode cX10_word 75 = .ok (.aload_n 0, 1) := by decide +kernel
theorem dX10_word_76 : decode cX10_word 76 = .ok (.getfield 25, 3) := by decide +kernel
theorem dX10_word_79 : decode cX10_word 79 = .ok (.iload_n 1, 1) := by decide +kernel
theorem dX10_word_80 : decode cX10_word 80 = .ok (.invokevirtual 161, 3) := by decide +kernel
theorem dX10_word_83 : decode cX10_word 83 = .ok (.ifCond .eq 7, 3) := by decide +kernel
theorem dX10_word_86 : decode cX10_word 86 = .ok (.iconst 1, 1) := by decide +kernel
theorem dX10_word_87 : decode cX10_word 87 = .ok (.goto 4, 3) := by decide +kernel
theorem dX10_word_90 : decode cX10_word 90 = .ok (.iconst 0, 1) := by decide +kernel
theorem dX10_word_91 : decode cX10_word 91 = .ok (.invokevirtual 140, 3) := by decide +kernel
theorem dX10_word_94 : decode cX10_word 94 = .ok (.ireturn, 1) := by decide +kernel
theorem dX10_word_95 : decode cX10_word 95 = .ok (.aload_n 0, 1) := by decide +kernel
theorem dX10_word_96 : decode cX10_word 96 = .ok (.aload_n 0, 1) := by decide +kernel
theorem dX10_word_97 : decode cX10_word 97 = .ok (.getfield 25, 3) := by decide +kernel
theorem dX10_word_100 : decode cX10_word 100 = .ok (.iload_n 1, 1) := by decide +kernel
theorem dX10_word_101 : decode cX10_word 101 = .ok (.invokevirtual 164, 3) := by decide +kernel
theorem dX10_word_104 : decode cX10_word 104 = .ok (.ifCond .eq 7, 3) := by decide +kernel
theorem dX10_word_107 : decode cX10_word 107 = .ok (.iconst 1, 1) := by decide +kernel
theorem dX10_word_108 : decode cX10_word 108 = .ok (.goto 4, 3) := by decide +kernel
theorem dX10_word_111 : decode cX10_word 111 = .ok (.iconst 0, 1) := by decide +kernel
theorem dX10_word_112 : decode cX10_word 112 = .ok (.invokevirtual 140, 3) := by decide +kernel
theorem dX10_word_115 : decode cX10_word 115 = .ok (.ireturn, 1) := by decide +kernel
theorem dX10_word_116 : decode cX10_word 116 = .ok (.aload_n 0, 1) := by decide +kernel
theorem dX10_word_117 : decode cX10_word 117 = .ok (.iconst 1, 1) := by decide +kernel
theorem dX10_word_118 : decode cX10_word 118 = .ok (.invokevirtual 116, 3) := by decide +kernel
theorem dX10_word_121 : decode cX10_word 121 = .ok (.ireturn, 1) := by decide +kernel
theorem dX10_letter_0 : decode cX10_letter 0 = .ok (.aload_n 0, 1) := by decide +kernel
theorem dX10_letter_1 : decode cX10_letter 1 = .ok (.getfield 25, 3) := by decide +kernel
theorem dX10_letter_4 : decode cX10_letter 4 = .ok (.iload_n 1, 1) := by decide +kernel
theorem dX10_letter_5 : decode cX10_letter 5 = .ok (.invokevirtual 152, 3) := by decide +kernel
theorem dX10_letter_8 : decode cX10_letter 8 = .ok (.ifCond .eq 19, 3) := by decide +kernel
theorem dX10_letter_11 : decode cX10_letter 11 = .ok (.iload_n 2, 1) := by decide +kernel
theorem dX10_letter_12 : decode cX10_letter 12 = .ok (.ifCond .lt 15, 3) := by decide +kernel
theorem dX10_letter_15 : decode cX10_letter 15 = .ok (.iload_n 2, 1) := by decide +kernel
theorem dX10_letter_16 : decode cX10_letter 16 = .ok (.aload_n 0, 1) := by decide +kernel
theorem dX10_letter_17 : decode cX10_letter 17 = .ok (.getfield 25, 3) := by decide +kernel
theorem dX10_letter_20 : decode cX10_letter 20 = .ok (.iload_n 1, 1) := by decide +kernel
theorem dX10_letter_21 : decode cX10_letter 21 = .ok (.invokevirtual 155, 3) := by decide +kernel
theorem dX10_letter_24 : decode cX10_letter 24 = .ok (.if_icmp .lt 9, 3) := by decide +kernel
theorem dX10_letter_27 : decode cX10_letter 27 = .ok (.aload_n 0, 1) := by decide +kernel
theorem dX10_letter_28 : decode cX10_letter 28 = .ok (.iconst 1, 1) := by decide +kernel
theorem dX10_letter_29 : decode cX10_letter 29 = .ok (.invokevirtual 116, 3) := by decide +kernel
theorem dX10_letter_32 : decode cX10_letter 32 = .ok (.ireturn, 1) := by decide +kernel
theorem dX10_letter_33 : decode cX10_letter 33 = .ok (.aload_n 0, 1) := by decide +kernel
theorem dX10_letter_34 : decode cX10_letter 34 = .ok (.aload_n 0, 1) := by decide +kernel
theorem dX10_letter_35 : decode cX10_letter 35 = .ok (.getfield 25, 3) := by decide +kernel
theorem dX10_letter_38 : decode cX10_letter 38 = .ok (.iload_n 1, 1) := by decide +kernel
theorem dX10_letter_39 : decode cX10_letter 39 = .ok (.iload_n 2, 1) := by decide +kernel
theorem dX10_letter_40 : decode cX10_letter 40 = .ok (.invokevirtual 167, 3) := by decide +kernel
theorem dX10_letter_43 : decode cX10_letter 43 = .ok (.invokevirtual 140, 3) := by decide +kernel
theorem dX10_letter_46 : decode cX10_letter 46 = .ok (.ireturn, 1) := by decide +kernel
theorem dX10_grows_0 : decode cX10_grows 0 = .ok (.aload_n 0, 1) := by decide +kernel
theorem dX10_grows_1 : decode cX10_grows 1 = .ok (.getfield 25, 3) := by decide +kernel
theorem dX10_grows_4 : decode cX10_grows 4 = .ok (.iload_n 1, 1) := by decide +kernel
theorem dX10_grows_5 : decode cX10_grows 5 = .ok (.invokevirtual 152, 3) := by decide +kernel
theorem dX10_grows_8 : decode cX10_grows 8 = .ok (.ifCond .eq 14, 3) := by decide +kernel
theorem dX10_grows_11 : decode cX10_grows 11 = .ok (.aload_n 0, 1) := by decide +kernel
theorem dX10_grows_12 : decode cX10_grows 12 = .ok (.getfield 25, 3) := by decide +kernel
theorem dX10_grows_15 : decode cX10_grows 15 = .ok (.iload_n 2, 1) := by decide +kernel
theorem dX10_grows_16 : decode cX10_grows 16 = .ok (.invokevirtual 152, 3) := by decide +kernel
theorem dX10_grows_19 : decode cX10_grows 19 = .ok (.ifCond .ne 9, 3) := by decide +kernel
theorem dX10_grows_22 : decode cX10_grows 22 = .ok (.aload_n 0, 1) := by decide +kernel
theorem dX10_grows_23 : decode cX10_grows 23 = .ok (.iconst 1, 1) := by decide +kernel
theorem dX10_grows_24 : decode cX10_grows 24 = .ok (.invokevirtual 116, 3) := by decide +kernel
theorem dX10_grows_27 : decode cX10_grows 27 = .ok (.ireturn, 1) := by decide +kernel
theorem dX10_grows_28 : decode cX10_grows 28 = .ok (.aload_n 0, 1) := by decide +kernel
theorem dX10_grows_29 : decode cX10_grows 29 = .ok (.getfield 25, 3) := by decide +kernel
theorem dX10_grows_32 : decode cX10_grows 32 = .ok (.iload_n 1, 1) := by decide +kernel
theorem dX10_grows_33 : decode cX10_grows 33 = .ok (.invokevirtual 164, 3) := by decide +kernel
theorem dX10_grows_36 : decode cX10_grows 36 = .ok (.ifCond .eq 14, 3) := by decide +kernel
theorem dX10_grows_39 : decode cX10_grows 39 = .ok (.aload_n 0, 1) := by decide +kernel
theorem dX10_grows_40 : decode cX10_grows 40 = .ok (.getfield 25, 3) := by decide +kernel
theorem dX10_grows_43 : decode cX10_grows 43 = .ok (.iload_n 2, 1) := by decide +kernel
theorem dX10_grows_44 : decode cX10_grows 44 = .ok (.invokevirtual 164, 3) := by decide +kernel
theorem dX10_grows_47 : decode cX10_grows 47 = .ok (.ifCond .ne 9, 3) := by decide +kernel
theorem dX10_grows_50 : decode cX10_grows 50 = .ok (.aload_n 0, 1) := by decide +kernel
theorem dX10_grows_51 : decode cX10_grows 51 = .ok (.iconst 5, 1) := by decide +kernel
theorem dX10_grows_52 : decode cX10_grows 52 = .ok (.invokevirtual 116, 3) := by decide +kernel
theorem dX10_grows_55 : decode cX10_grows 55 = .ok (.ireturn, 1) := by decide +kernel
theorem dX10_grows_56 : decode cX10_grows 56 = .ok (.aload_n 0, 1) := by decide +kernel
theorem dX10_grows_57 : decode cX10_grows 57 = .ok (.getfield 31, 3) := by decide +kernel
theorem dX10_grows_60 : decode cX10_grows 60 = .ok (.iload_n 1, 1) := by decide +kernel
theorem dX10_grows_61 : decode cX10_grows 61 = .ok (.iload_n 2, 1) := by decide +kernel
theorem dX10_grows_62 : decode cX10_grows 62 = .ok (.invokevirtual 171, 3) := by decide +kernel
theorem dX10_grows_65 : decode cX10_grows 65 = .ok (.istore_n 3, 1) := by decide +kernel
theorem dX10_grows_66 : decode cX10_grows 66 = .ok (.aload_n 0, 1) := by decide +kernel
theorem dX10_grows_67 : decode cX10_grows 67 = .ok (.iload_n 3, 1) := by decide +kernel
theorem dX10_grows_68 : decode cX10_grows 68 = .ok (.ifCond .ge 8, 3) := by decide +kernel
theorem dX10_grows_71 : decode cX10_grows 71 = .ok (.bipush (-2), 2) := by decide +kernel
theorem dX10_grows_73 : decode cX10_grows 73 = .ok (.goto 4, 3) := by decide +kernel
theorem dX10_grows_76 : decode cX10_grows 76 = .ok (.iload_n 3, 1) := by decide +kernel
theorem dX10_grows_77 : decode cX10_grows 77 = .ok (.invokevirtual 140, 3) := by decide +kernel
theorem dX10_grows_80 : decode cX10_grows 80 = .ok (.ireturn, 1) := by decide +kernel
theorem dX10_chain_0 : decode cX10_chain 0 = .ok (.aload_n 0, 1) := by decide +kernel
theorem dX10_chain_1 : decode cX10_chain 1 = .ok (.getfield 25, 3) := by decide +kernel
theorem dX10_chain_4 : decode cX10_chain 4 = .ok (.iload_n 1, 1) := by decide +kernel
theorem dX10_chain_5 : decode cX10_chain 5 = .ok (.invokevirtual 152, 3) := by decide +kernel
theorem dX10_chain_8 : decode cX10_chain 8 = .ok (.ifCond .ne 9, 3) := by decide +kernel
theorem dX10_chain_11 : decode cX10_chain 11 = .ok (.aload_n 0, 1) := by decide +kernel
theorem dX10_chain_12 : decode cX10_chain 12 = .ok (.iconst 1, 1) := by decide +kernel
theorem dX10_chain_13 : decode cX10_chain 13 = .ok (.invokevirtual 116, 3) := by decide +kernel
theorem dX10_chain_16 : decode cX10_chain 16 = .ok (.ireturn, 1) := by decide +kernel
theorem dX10_chain_17 : decode cX10_chain 17 = .ok (.aload_n 0, 1) := by decide +kernel
theorem dX10_chain_18 : decode cX10_chain 18 = .ok (.getfield 25, 3) := by decide +kernel
theorem dX10_chain_21 : decode cX10_chain 21 = .ok (.iload_n 1, 1) := by decide +kernel
theorem dX10_chain_22 : decode cX10_chain 22 = .ok (.invokevirtual 164, 3) := by decide +kernel
theorem dX10_chain_25 : decode cX10_chain 25 = .ok (.ifCond .ne 9, 3) := by decide +kernel
theorem dX10_chain_28 : decode cX10_chain 28 = .ok (.aload_n 0, 1) := by decide +kernel
theorem dX10_chain_29 : decode cX10_chain 29 = .ok (.iconst 5, 1) := by decide +kernel
theorem dX10_chain_30 : decode cX10_chain 30 = .ok (.invokevirtual 116, 3) := by decide +kernel
theorem dX10_chain_33 : decode cX10_chain 33 = .ok (.ireturn, 1) := by decide +kernel
theorem dX10_chain_34 : decode cX10_chain 34 = .ok (.aload_n 0, 1) := by decide +kernel
theorem dX10_chain_35 : decode cX10_chain 35 = .ok (.aload_n 0, 1) := by decide +kernel
theorem dX10_chain_36 : decode cX10_chain 36 = .ok (.getfield 31, 3) := by decide +kernel
theorem dX10_chain_39 : decode cX10_chain 39 = .ok (.iload_n 1, 1) := by decide +kernel
theorem dX10_chain_40 : decode cX10_chain 40 = .ok (.invokevirtual 174, 3) := by decide +kernel
theorem dX10_chain_43 : decode cX10_chain 43 = .ok (.invokevirtual 140, 3) := by decide +kernel
theorem dX10_chain_46 : decode cX10_chain 46 = .ok (.ireturn, 1) := by decide +kernel
theorem dX10_ladder_0 : decode cX10_ladder 0 = .ok (.aload_n 0, 1) := by decide +kernel
theorem dX10_ladder_1 : decode cX10_ladder 1 = .ok (.getfield 25, 3) := by decide +kernel
theorem dX10_ladder_4 : decode cX10_ladder 4 = .ok (.iload_n 1, 1) := by decide +kernel
theorem dX10_ladder_5 : decode cX10_ladder 5 = .ok (.invokevirtual 152, 3) := by decide +kernel
theorem dX10_ladder_8 : decode cX10_ladder 8 = .ok (.ifCond .eq 14, 3) := by decide +kernel
theorem dX10_ladder_11 : decode cX10_ladder 11 = .ok (.aload_n 0, 1) := by decide +kernel
theorem dX10_ladder_12 : decode cX10_ladder 12 = .ok (.getfield 25, 3) := by decide +kernel
theorem dX10_ladder_15 : decode cX10_ladder 15 = .ok (.iload_n 2, 1) := by decide +kernel
theorem dX10_ladder_16 : decode cX10_ladder 16 = .ok (.invokevirtual 152, 3) := by decide +kernel
theorem dX10_ladder_19 : decode cX10_ladder 19 = .ok (.ifCond .ne 9, 3) := by decide +kernel
theorem dX10_ladder_22 : decode cX10_ladder 22 = .ok (.aload_n 0, 1) := by decide +kernel
theorem dX10_ladder_23 : decode cX10_ladder 23 = .ok (.iconst 1, 1) := by decide +kernel
theorem dX10_ladder_24 : decode cX10_ladder 24 = .ok (.invokevirtual 116, 3) := by decide +kernel
theorem dX10_ladder_27 : decode cX10_ladder 27 = .ok (.ireturn, 1) := by decide +kernel
theorem dX10_ladder_28 : decode cX10_ladder 28 = .ok (.aload_n 0, 1) := by decide +kernel
theorem dX10_ladder_29 : decode cX10_ladder 29 = .ok (.getfield 25, 3) := by decide +kernel
theorem dX10_ladder_32 : decode cX10_ladder 32 = .ok (.iload_n 1, 1) := by decide +kernel
theorem dX10_ladder_33 : decode cX10_ladder 33 = .ok (.invokevirtual 164, 3) := by decide +kernel
theorem dX10_ladder_36 : decode cX10_ladder 36 = .ok (.ifCond .eq 14, 3) := by decide +kernel
theorem dX10_ladder_39 : decode cX10_ladder 39 = .ok (.aload_n 0, 1) := by decide +kernel
theorem dX10_ladder_40 : decode cX10_ladder 40 = .ok (.getfield 25, 3) := by decide +kernel
theorem dX10_ladder_43 : decode cX10_ladder 43 = .ok (.iload_n 2, 1) := by decide +kernel
theorem dX10_ladder_44 : decode cX10_ladder 44 = .ok (.invokevirtual 164, 3) := by decide +kernel
theorem dX10_ladder_47 : decode cX10_ladder 47 = .ok (.ifCond .ne 9, 3) := by decide +kernel
theorem dX10_ladder_50 : decode cX10_ladder 50 = .ok (.aload_n 0, 1) := by decide +kernel
theorem dX10_ladder_51 : decode cX10_ladder 51 = .ok (.iconst 5, 1) := by decide +kernel
theorem dX10_ladder_52 : decode cX10_ladder 52 = .ok (.invokevirtual 116, 3) := by decide +kernel
theorem dX10_ladder_55 : decode cX10_ladder 55 = .ok (.ireturn, 1) := by decide +kernel
theorem dX10_ladder_56 : decode cX10_ladder 56 = .ok (.aload_n 0, 1) := by decide +kernel
theorem dX10_ladder_57 : decode cX10_ladder 57 = .ok (.getfield 40, 3) := by decide +kernel
theorem dX10_ladder_60 : decode cX10_ladder 60 = .ok (.iload_n 2, 1) := by decide +kernel
theorem dX10_ladder_61 : decode cX10_ladder 61 = .ok (.invokevirtual 177, 3) := by decide +kernel
theorem dX10_ladder_64 : decode cX10_ladder 64 = .ok (.aload_n 0, 1) := by decide +kernel
theorem dX10_ladder_65 : decode cX10_ladder 65 = .ok (.getfield 40, 3) := by decide +kernel
theorem dX10_ladder_68 : decode cX10_ladder 68 = .ok (.iload_n 1, 1) := by decide +kernel
theorem dX10_ladder_69 : decode cX10_ladder 69 = .ok (.invokevirtual 180, 3) := by decide +kernel
theorem dX10_ladder_72 : decode cX10_ladder 72 = .ok (.istore_n 3, 1) := by decide +kernel
theorem dX10_ladder_73 : decode cX10_ladder 73 = .ok (.aload_n 0, 1) := by decide +kernel
theorem dX10_ladder_74 : decode cX10_ladder 74 = .ok (.iload_n 3, 1) := by decide +kernel
theorem dX10_ladder_75 : decode cX10_ladder 75 = .ok (.ifCond .ge 8, 3) := by decide +kernel
theorem dX10_ladder_78 : decode cX10_ladder 78 = .ok (.bipush (-2), 2) := by decide +kernel
theorem dX10_ladder_80 : decode cX10_ladder 80 = .ok (.goto 4, 3) := by decide +kernel
theorem dX10_ladder_83 : decode cX10_ladder 83 = .ok (.iload_n 3, 1) := by decide +kernel
theorem dX10_ladder_84 : decode cX10_ladder 84 = .ok (.invokevirtual 140, 3) := by decide +kernel
theorem dX10_ladder_87 : decode cX10_ladder 87 = .ok (.ireturn, 1) := by decide +kernel
theorem dX10_rung_0 : decode cX10_rung 0 = .ok (.aload_n 0, 1) := by decide +kernel
theorem dX10_rung_1 : decode cX10_rung 1 = .ok (.getfield 25, 3) := by decide +kernel
theorem dX10_rung_4 : decode cX10_rung 4 = .ok (.iload_n 1, 1) := by decide +kernel
theorem dX10_rung_5 : decode cX10_rung 5 = .ok (.invokevirtual 152, 3) := by decide +kernel
theorem dX10_rung_8 : decode cX10_rung 8 = .ok (.ifCond .eq 18, 3) := by decide +kernel
theorem dX10_rung_11 : decode cX10_rung 11 = .ok (.aload_n 0, 1) := by decide +kernel
theorem dX10_rung_12 : decode cX10_rung 12 = .ok (.getfield 25, 3) := by decide +kernel
theorem dX10_rung_15 : decode cX10_rung 15 = .ok (.iload_n 2, 1) := by decide +kernel
theorem dX10_rung_16 : decode cX10_rung 16 = .ok (.invokevirtual 152, 3) := by decide +kernel
theorem dX10_rung_19 : decode cX10_rung 19 = .ok (.ifCond .eq 7, 3) := by decide +kernel
theorem dX10_rung_22 : decode cX10_rung 22 = .ok (.iload_n 3, 1) := by decide +kernel
theorem dX10_rung_23 : decode cX10_rung 23 = .ok (.ifCond .ge 9, 3) := by decide +kernel
theorem dX10_rung_26 : decode cX10_rung 26 = .ok (.aload_n 0, 1) := by decide +kernel
theorem dX10_rung_27 : decode cX10_rung 27 = .ok (.iconst 1, 1) := by decide +kernel
theorem dX10_rung_28 : decode cX10_rung 28 = .ok (.invokevirtual 116, 3) := by decide +kernel
theorem dX10_rung_31 : decode cX10_rung 31 = .ok (.ireturn, 1) := by decide +kernel
theorem dX10_rung_32 : decode cX10_rung 32 = .ok (.aload_n 0, 1) := by decide +kernel
theorem dX10_rung_33 : decode cX10_rung 33 = .ok (.getfield 25, 3) := by decide +kernel
theorem dX10_rung_36 : decode cX10_rung 36 = .ok (.iload_n 1, 1) := by decide +kernel
theorem dX10_rung_37 : decode cX10_rung 37 = .ok (.invokevirtual 164, 3) := by decide +kernel
theorem dX10_rung_40 : decode cX10_rung 40 = .ok (.ifCond .eq 14, 3) := by decide +kernel
theorem dX10_rung_43 : decode cX10_rung 43 = .ok (.aload_n 0, 1) := by decide +kernel
theorem dX10_rung_44 : decode cX10_rung 44 = .ok (.getfield 25, 3) := by decide +kernel
theorem dX10_rung_47 : decode cX10_rung 47 = .ok (.iload_n 2, 1) := by decide +kernel
theorem dX10_rung_48 : decode cX10_rung 48 = .ok (.invokevirtual 164, 3) := by decide +kernel
theorem dX10_rung_51 : decode cX10_rung 51 = .ok (.ifCond .ne 9, 3) := by decide +kernel
theorem dX10_rung_54 : decode cX10_rung 54 = .ok (.aload_n 0, 1) := by decide +kernel
theorem dX10_rung_55 : decode cX10_rung 55 = .ok (.iconst 5, 1) := by decide +kernel
theorem dX10_rung_56 : decode cX10_rung 56 = .ok (.invokevirtual 116, 3) := by decide +kernel
theorem dX10_rung_59 : decode cX10_rung 59 = .ok (.ireturn, 1) := by decide +kernel
theorem dX10_rung_60 : decode cX10_rung 60 = .ok (.aload_n 0, 1) := by decide +kernel
theorem dX10_rung_61 : decode cX10_rung 61 = .ok (.getfield 40, 3) := by decide +kernel
theorem dX10_rung_64 : decode cX10_rung 64 = .ok (.iload_n 2, 1) := by decide +kernel
theorem dX10_rung_65 : decode cX10_rung 65 = .ok (.invokevirtual 177, 3) := by decide +kernel
theorem dX10_rung_68 : decode cX10_rung 68 = .ok (.aload_n 0, 1) := by decide +kernel
theorem dX10_rung_69 : decode cX10_rung 69 = .ok (.getfield 40, 3) := by decide +kernel
theorem dX10_rung_72 : decode cX10_rung 72 = .ok (.iload_n 1, 1) := by decide +kernel
theorem dX10_rung_73 : decode cX10_rung 73 = .ok (.invokevirtual 180, 3) := by decide +kernel
theorem dX10_rung_76 : decode cX10_rung 76 = .ok (.istore 4, 2) := by decide +kernel
theorem dX10_rung_78 : decode cX10_rung 78 = .ok (.iload 4, 2) := by decide +kernel
theorem dX10_rung_80 : decode cX10_rung 80 = .ok (.ifCond .ge 10, 3) := by decide +kernel
theorem dX10_rung_83 : decode cX10_rung 83 = .ok (.aload_n 0, 1) := by decide +kernel
theorem dX10_rung_84 : decode cX10_rung 84 = .ok (.bipush 6, 2) := by decide +kernel
theorem dX10_rung_86 : decode cX10_rung 86 = .ok (.invokevirtual 116, 3) := by decide +kernel
theorem dX10_rung_89 : decode cX10_rung 89 = .ok (.ireturn, 1) := by decide +kernel
theorem dX10_rung_90 : decode cX10_rung 90 = .ok (.iload_n 3, 1) := by decide +kernel
theorem dX10_rung_91 : decode cX10_rung 91 = .ok (.iload 4, 2) := by decide +kernel
theorem dX10_rung_93 : decode cX10_rung 93 = .ok (.if_icmp .le 9, 3) := by decide +kernel
theorem dX10_rung_96 : decode cX10_rung 96 = .ok (.aload_n 0, 1) := by decide +kernel
theorem dX10_rung_97 : decode cX10_rung 97 = .ok (.iconst 1, 1) := by decide +kernel
theorem dX10_rung_98 : decode cX10_rung 98 = .ok (.invokevirtual 116, 3) := by decide +kernel
theorem dX10_rung_101 : decode cX10_rung 101 = .ok (.ireturn, 1) := by decide +kernel
theorem dX10_rung_102 : decode cX10_rung 102 = .ok (.aload_n 0, 1) := by decide +kernel
theorem dX10_rung_103 : decode cX10_rung 103 = .ok (.aload_n 0, 1) := by decide +kernel
theorem dX10_rung_104 : decode cX10_rung 104 = .ok (.getfield 40, 3) := by decide +kernel
theorem dX10_rung_107 : decode cX10_rung 107 = .ok (.iload_n 1, 1) := by decide +kernel
theorem dX10_rung_108 : decode cX10_rung 108 = .ok (.iload_n 3, 1) := by decide +kernel
theorem dX10_rung_109 : decode cX10_rung 109 = .ok (.invokevirtual 183, 3) := by decide +kernel
theorem dX10_rung_112 : decode cX10_rung 112 = .ok (.invokevirtual 140, 3) := by decide +kernel
theorem dX10_rung_115 : decode cX10_rung 115 = .ok (.ireturn, 1) := by decide +kernel
theorem dX10_grundy_0 : decode cX10_grundy 0 = .ok (.aload_n 0, 1) := by decide +kernel
theorem dX10_grundy_1 : decode cX10_grundy 1 = .ok (.getfield 25, 3) := by decide +kernel
theorem dX10_grundy_4 : decode cX10_grundy 4 = .ok (.invokevirtual 186, 3) := by decide +kernel
theorem dX10_grundy_7 : decode cX10_grundy 7 = .ok (.ifCond .eq 19, 3) := by decide +kernel
theorem dX10_grundy_10 : decode cX10_grundy 10 = .ok (.iload_n 1, 1) := by decide +kernel
theorem dX10_grundy_11 : decode cX10_grundy 11 = .ok (.iconst (-1), 1) := by decide +kernel
theorem dX10_grundy_12 : decode cX10_grundy 12 = .ok (.if_icmp .eq 20, 3) := by decide +kernel
theorem dX10_grundy_15 : decode cX10_grundy 15 = .ok (.aload_n 0, 1) := by decide +kernel
theorem dX10_grundy_16 : decode cX10_grundy 16 = .ok (.getfield 25, 3) := by decide +kernel
theorem dX10_grundy_19 : decode cX10_grundy 19 = .ok (.iload_n 1, 1) := by decide +kernel
theorem dX10_grundy_20 : decode cX10_grundy 20 = .ok (.invokevirtual 152, 3) := by decide +kernel
theorem dX10_grundy_23 : decode cX10_grundy 23 = .ok (.ifCond .ne 9, 3) := by decide +kernel
theorem dX10_grundy_26 : decode cX10_grundy 26 = .ok (.aload_n 0, 1) := by decide +kernel
theorem dX10_grundy_27 : decode cX10_grundy 27 = .ok (.iconst 1, 1) := by decide +kernel
theorem dX10_grundy_28 : decode cX10_grundy 28 = .ok (.invokevirtual 116, 3) := by decide +kernel
theorem dX10_grundy_31 : decode cX10_grundy 31 = .ok (.ireturn, 1) := by decide +kernel
theorem dX10_grundy_32 : decode cX10_grundy 32 = .ok (.iload_n 1, 1) := by decide +kernel
theorem dX10_grundy_33 : decode cX10_grundy 33 = .ok (.iconst (-1), 1) := by decide +kernel
theorem dX10_grundy_34 : decode cX10_grundy 34 = .ok (.if_icmp .eq 20, 3) := by decide +kernel
theorem dX10_grundy_37 : decode cX10_grundy 37 = .ok (.aload_n 0, 1) := by decide +kernel
theorem dX10_grundy_38 : decode cX10_grundy 38 = .ok (.getfield 25, 3) := by decide +kernel
theorem dX10_grundy_41 : decode cX10_grundy 41 = .ok (.iload_n 1, 1) := by decide +kernel
theorem dX10_grundy_42 : decode cX10_grundy 42 = .ok (.invokevirtual 164, 3) := by decide +kernel
theorem dX10_grundy_45 : decode cX10_grundy 45 = .ok (.ifCond .ne 9, 3) := by decide +kernel
theorem dX10_grundy_48 : decode cX10_grundy 48 = .ok (.aload_n 0, 1) := by decide +kernel
theorem dX10_grundy_49 : decode cX10_grundy 49 = .ok (.iconst 5, 1) := by decide +kernel
theorem dX10_grundy_50 : decode cX10_grundy 50 = .ok (.invokevirtual 116, 3) := by decide +kernel
theorem dX10_grundy_53 : decode cX10_grundy 53 = .ok (.ireturn, 1) := by decide +kernel
theorem dX10_grundy_54 : decode cX10_grundy 54 = .ok (.aload_n 0, 1) := by decide +kernel
theorem dX10_grundy_55 : decode cX10_grundy 55 = .ok (.aload_n 0, 1) := by decide +kernel
theorem dX10_grundy_56 : decode cX10_grundy 56 = .ok (.getfield 31, 3) := by decide +kernel
theorem dX10_grundy_59 : decode cX10_grundy 59 = .ok (.iload_n 1, 1) := by decide +kernel
theorem dX10_grundy_60 : decode cX10_grundy 60 = .ok (.iconst (-1), 1) := by decide +kernel
theorem dX10_grundy_61 : decode cX10_grundy 61 = .ok (.if_icmp .ne 8, 3) := by decide +kernel
theorem dX10_grundy_64 : decode cX10_grundy 64 = .ok (.bipush 24, 2) := by decide +kernel
theorem dX10_grundy_66 : decode cX10_grundy 66 = .ok (.goto 4, 3) := by decide +kernel
theorem dX10_grundy_69 : decode cX10_grundy 69 = .ok (.iload_n 1, 1) := by decide +kernel
theorem dX10_grundy_70 : decode cX10_grundy 70 = .ok (.invokevirtual 190, 3) := by decide +kernel
theorem dX10_grundy_73 : decode cX10_grundy 73 = .ok (.invokevirtual 140, 3) := by decide +kernel
theorem dX10_grundy_76 : decode cX10_grundy 76 = .ok (.ireturn, 1) := by decide +kernel
theorem dX10_most_0 : decode cX10_most 0 = .ok (.aload_n 0, 1) := by decide +kernel
theorem dX10_most_1 : decode cX10_most 1 = .ok (.getfield 25, 3) := by decide +kernel
theorem dX10_most_4 : decode cX10_most 4 = .ok (.invokevirtual 186, 3) := by decide +kernel
theorem dX10_most_7 : decode cX10_most 7 = .ok (.ifCond .eq 17, 3) := by decide +kernel
theorem dX10_most_10 : decode cX10_most 10 = .ok (.aload_n 0, 1) := by decide +kernel
theorem dX10_most_11 : decode cX10_most 11 = .ok (.aload_n 0, 1) := by decide +kernel
theorem dX10_most_12 : decode cX10_most 12 = .ok (.invokevirtual 193, 3) := by decide +kernel
theorem dX10_most_15 : decode cX10_most 15 = .ok (.getfield 197, 3) := by decide +kernel
theorem dX10_most_18 : decode cX10_most 18 = .ok (.invokevirtual 140, 3) := by decide +kernel
theorem dX10_most_21 : decode cX10_most 21 = .ok (.goto 8, 3) := by decide +kernel
theorem dX10_most_24 : decode cX10_most 24 = .ok (.aload_n 0, 1) := by decide +kernel
theorem dX10_most_25 : decode cX10_most 25 = .ok (.iconst 1, 1) := by decide +kernel
theorem dX10_most_26 : decode cX10_most 26 = .ok (.invokevirtual 116, 3) := by decide +kernel
theorem dX10_most_29 : decode cX10_most 29 = .ok (.ireturn, 1) := by decide +kernel
theorem dX10_worth_0 : decode cX10_worth 0 = .ok (.aload_n 0, 1) := by decide +kernel
theorem dX10_worth_1 : decode cX10_worth 1 = .ok (.getfield 25, 3) := by decide +kernel
theorem dX10_worth_4 : decode cX10_worth 4 = .ok (.invokevirtual 186, 3) := by decide +kernel
theorem dX10_worth_7 : decode cX10_worth 7 = .ok (.ifCond .eq 17, 3) := by decide +kernel
theorem dX10_worth_10 : decode cX10_worth 10 = .ok (.aload_n 0, 1) := by decide +kernel
theorem dX10_worth_11 : decode cX10_worth 11 = .ok (.aload_n 0, 1) := by decide +kernel
theorem dX10_worth_12 : decode cX10_worth 12 = .ok (.invokevirtual 193, 3) := by decide +kernel
theorem dX10_worth_15 : decode cX10_worth 15 = .ok (.getfield 200, 3) := by decide +kernel
theorem dX10_worth_18 : decode cX10_worth 18 = .ok (.invokevirtual 140, 3) := by decide +kernel
theorem dX10_worth_21 : decode cX10_worth 21 = .ok (.goto 8, 3) := by decide +kernel
theorem dX10_worth_24 : decode cX10_worth 24 = .ok (.aload_n 0, 1) := by decide +kernel
theorem dX10_worth_25 : decode cX10_worth 25 = .ok (.iconst 1, 1) := by decide +kernel
theorem dX10_worth_26 : decode cX10_worth 26 = .ok (.invokevirtual 116, 3) := by decide +kernel
theorem dX10_worth_29 : decode cX10_worth 29 = .ok (.ireturn, 1) := by decide +kernel
theorem dX10_plan_0 : decode cX10_plan 0 = .ok (.iload_n 1, 1) := by decide +kernel
theorem dX10_plan_1 : decode cX10_plan 1 = .ok (.ifCond .lt 14, 3) := by decide +kernel
theorem dX10_plan_4 : decode cX10_plan 4 = .ok (.iload_n 1, 1) := by decide +kernel
theorem dX10_plan_5 : decode cX10_plan 5 = .ok (.aload_n 0, 1) := by decide +kernel
theorem dX10_plan_6 : decode cX10_plan 6 = .ok (.getfield 25, 3) := by decide +kernel
theorem dX10_plan_9 : decode cX10_plan 9 = .ok (.getfield 203, 3) := by decide +kernel
theorem dX10_plan_12 : decode cX10_plan 12 = .ok (.if_icmp .lt 9, 3) := by decide +kernel
theorem dX10_plan_15 : decode cX10_plan 15 = .ok (.aload_n 0, 1) := by decide +kernel
theorem dX10_plan_16 : decode cX10_plan 16 = .ok (.iconst 1, 1) := by decide +kernel
theorem dX10_plan_17 : decode cX10_plan 17 = .ok (.invokevirtual 116, 3) := by decide +kernel
theorem dX10_plan_20 : decode cX10_plan 20 = .ok (.ireturn, 1) := by decide +kernel
theorem dX10_plan_21 : decode cX10_plan 21 = .ok (.aload_n 0, 1) := by decide +kernel
theorem dX10_plan_22 : decode cX10_plan 22 = .ok (.invokevirtual 193, 3) := by decide +kernel
theorem dX10_plan_25 : decode cX10_plan 25 = .ok (.iload_n 1, 1) := by decide +kernel
theorem dX10_plan_26 : decode cX10_plan 26 = .ok (.invokevirtual 206, 3) := by decide +kernel
theorem dX10_plan_29 : decode cX10_plan 29 = .ok (.istore_n 2, 1) := by decide +kernel
theorem dX10_plan_30 : decode cX10_plan 30 = .ok (.aload_n 0, 1) := by decide +kernel
theorem dX10_plan_31 : decode cX10_plan 31 = .ok (.iload_n 2, 1) := by decide +kernel
theorem dX10_plan_32 : decode cX10_plan 32 = .ok (.bipush 24, 2) := by decide +kernel
theorem dX10_plan_34 : decode cX10_plan 34 = .ok (.if_icmp .ne 8, 3) := by decide +kernel
theorem dX10_plan_37 : decode cX10_plan 37 = .ok (.bipush (-2), 2) := by decide +kernel
theorem dX10_plan_39 : decode cX10_plan 39 = .ok (.goto 4, 3) := by decide +kernel
theorem dX10_plan_42 : decode cX10_plan 42 = .ok (.iload_n 2, 1) := by decide +kernel
theorem dX10_plan_43 : decode cX10_plan 43 = .ok (.invokevirtual 140, 3) := by decide +kernel
theorem dX10_plan_46 : decode cX10_plan 46 = .ok (.ireturn, 1) := by decide +kernel
theorem dX10_richest_0 : decode cX10_richest 0 = .ok (.aload_n 0, 1) := by decide +kernel
theorem dX10_richest_1 : decode cX10_richest 1 = .ok (.getfield 25, 3) := by decide +kernel
theorem dX10_richest_4 : decode cX10_richest 4 = .ok (.invokevirtual 186, 3) := by decide +kernel
theorem dX10_richest_7 : decode cX10_richest 7 = .ok (.ifCond .eq 17, 3) := by decide +kernel
theorem dX10_richest_10 : decode cX10_richest 10 = .ok (.aload_n 0, 1) := by decide +kernel
theorem dX10_richest_11 : decode cX10_richest 11 = .ok (.aload_n 0, 1) := by decide +kernel
theorem dX10_richest_12 : decode cX10_richest 12 = .ok (.invokevirtual 193, 3) := by decide +kernel
theorem dX10_richest_15 : decode cX10_richest 15 = .ok (.getfield 209, 3) := by decide +kernel
theorem dX10_richest_18 : decode cX10_richest 18 = .ok (.invokevirtual 140, 3) := by decide +kernel
theorem dX10_richest_21 : decode cX10_richest 21 = .ok (.goto 8, 3) := by decide +kernel
theorem dX10_richest_24 : decode cX10_richest 24 = .ok (.aload_n 0, 1) := by decide +kernel
theorem dX10_richest_25 : decode cX10_richest 25 = .ok (.iconst 1, 1) := by decide +kernel
theorem dX10_richest_26 : decode cX10_richest 26 = .ok (.invokevirtual 116, 3) := by decide +kernel
theorem dX10_richest_29 : decode cX10_richest 29 = .ok (.ireturn, 1) := by decide +kernel
theorem dX10_fewest_0 : decode cX10_fewest 0 = .ok (.aload_n 0, 1) := by decide +kernel
theorem dX10_fewest_1 : decode cX10_fewest 1 = .ok (.getfield 25, 3) := by decide +kernel
theorem dX10_fewest_4 : decode cX10_fewest 4 = .ok (.invokevirtual 186, 3) := by decide +kernel
theorem dX10_fewest_7 : decode cX10_fewest 7 = .ok (.ifCond .ne 9, 3) := by decide +kernel
theorem dX10_fewest_10 : decode cX10_fewest 10 = .ok (.aload_n 0, 1) := by decide +kernel
theorem dX10_fewest_11 : decode cX10_fewest 11 = .ok (.iconst 1, 1) := by decide +kernel
theorem dX10_fewest_12 : decode cX10_fewest 12 = .ok (.invokevirtual 116, 3) := by decide +kernel
theorem dX10_fewest_15 : decode cX10_fewest 15 = .ok (.ireturn, 1) := by decide +kernel
theorem dX10_fewest_16 : decode cX10_fewest 16 = .ok (.aload_n 0, 1) := by decide +kernel
theorem dX10_fewest_17 : decode cX10_fewest 17 = .ok (.invokevirtual 193, 3) := by decide +kernel
theorem dX10_fewest_20 : decode cX10_fewest 20 = .ok (.getfield 212, 3) := by decide +kernel
theorem dX10_fewest_23 : decode cX10_fewest 23 = .ok (.istore_n 1, 1) := by decide +kernel
theorem dX10_fewest_24 : decode cX10_fewest 24 = .ok (.aload_n 0, 1) := by decide +kernel
theorem dX10_fewest_25 : decode cX10_fewest 25 = .ok (.iload_n 1, 1) := by decide +kernel
theorem dX10_fewest_26 : decode cX10_fewest 26 = .ok (.iconst 3, 1) := by decide +kernel
theorem dX10_fewest_27 : decode cX10_fewest 27 = .ok (.if_icmp .le 8, 3) := by decide +kernel
theorem dX10_fewest_30 : decode cX10_fewest 30 = .ok (.bipush (-2), 2) := by decide +kernel
theorem dX10_fewest_32 : decode cX10_fewest 32 = .ok (.goto 4, 3) := by decide +kernel
theorem dX10_fewest_35 : decode cX10_fewest 35 = .ok (.iload_n 1, 1) := by decide +kernel
theorem dX10_fewest_36 : decode cX10_fewest 36 = .ok (.invokevirtual 140, 3) := by decide +kernel
theorem dX10_fewest_39 : decode cX10_fewest 39 = .ok (.ireturn, 1) := by decide +kernel
theorem dX10_wanted_0 : decode cX10_wanted 0 = .ok (.aload_n 0, 1) := by decide +kernel
theorem dX10_wanted_1 : decode cX10_wanted 1 = .ok (.getfield 25, 3) := by decide +kernel
theorem dX10_wanted_4 : decode cX10_wanted 4 = .ok (.invokevirtual 186, 3) := by decide +kernel
theorem dX10_wanted_7 : decode cX10_wanted 7 = .ok (.ifCond .ne 9, 3) := by decide +kernel
theorem dX10_wanted_10 : decode cX10_wanted 10 = .ok (.aload_n 0, 1) := by decide +kernel
theorem dX10_wanted_11 : decode cX10_wanted 11 = .ok (.iconst 1, 1) := by decide +kernel
theorem dX10_wanted_12 : decode cX10_wanted 12 = .ok (.invokevirtual 116, 3) := by decide +kernel
theorem dX10_wanted_15 : decode cX10_wanted 15 = .ok (.ireturn, 1) := by decide +kernel
theorem dX10_wanted_16 : decode cX10_wanted 16 = .ok (.aload_n 0, 1) := by decide +kernel
theorem dX10_wanted_17 : decode cX10_wanted 17 = .ok (.invokevirtual 215, 3) := by decide +kernel
theorem dX10_wanted_20 : decode cX10_wanted 20 = .ok (.getfield 218, 3) := by decide +kernel
theorem dX10_wanted_23 : decode cX10_wanted 23 = .ok (.istore_n 1, 1) := by decide +kernel
theorem dX10_wanted_24 : decode cX10_wanted 24 = .ok (.aload_n 0, 1) := by decide +kernel
theorem dX10_wanted_25 : decode cX10_wanted 25 = .ok (.iload_n 1, 1) := by decide +kernel
theorem dX10_wanted_26 : decode cX10_wanted 26 = .ok (.ifCond .ge 8, 3) := by decide +kernel
theorem dX10_wanted_29 : decode cX10_wanted 29 = .ok (.bipush (-2), 2) := by decide +kernel
theorem dX10_wanted_31 : decode cX10_wanted 31 = .ok (.goto 4, 3) := by decide +kernel
theorem dX10_wanted_34 : decode cX10_wanted 34 = .ok (.iload_n 1, 1) := by decide +kernel
theorem dX10_wanted_35 : decode cX10_wanted 35 = .ok (.invokevirtual 140, 3) := by decide +kernel
theorem dX10_wanted_38 : decode cX10_wanted 38 = .ok (.ireturn, 1) := by decide +kernel
theorem dX10_wants_0 : decode cX10_wants 0 = .ok (.aload_n 0, 1) := by decide +kernel
theorem dX10_wants_1 : decode cX10_wants 1 = .ok (.getfield 25, 3) := by decide +kernel
theorem dX10_wants_4 : decode cX10_wants 4 = .ok (.invokevirtual 186, 3) := by decide +kernel
theorem dX10_wants_7 : decode cX10_wants 7 = .ok (.ifCond .eq 7, 3) := by decide +kernel
theorem dX10_wants_10 : decode cX10_wants 10 = .ok (.iload_n 1, 1) := by decide +kernel
theorem dX10_wants_11 : decode cX10_wants 11 = .ok (.ifCond .ge 9, 3) := by decide +kernel
theorem dX10_wants_14 : decode cX10_wants 14 = .ok (.aload_n 0, 1) := by decide +kernel
theorem dX10_wants_15 : decode cX10_wants 15 = .ok (.iconst 1, 1) := by decide +kernel
theorem dX10_wants_16 : decode cX10_wants 16 = .ok (.invokevirtual 116, 3) := by decide +kernel
theorem dX10_wants_19 : decode cX10_wants 19 = .ok (.ireturn, 1) := by decide +kernel
theorem dX10_wants_20 : decode cX10_wants 20 = .ok (.aload_n 0, 1) := by decide +kernel
theorem dX10_wants_21 : decode cX10_wants 21 = .ok (.invokevirtual 215, 3) := by decide +kernel
theorem dX10_wants_24 : decode cX10_wants 24 = .ok (.getfield 218, 3) := by decide +kernel
theorem dX10_wants_27 : decode cX10_wants 27 = .ok (.istore_n 2, 1) := by decide +kernel
theorem dX10_wants_28 : decode cX10_wants 28 = .ok (.iload_n 2, 1) := by decide +kernel
theorem dX10_wants_29 : decode cX10_wants 29 = .ok (.ifCond .ge 10, 3) := by decide +kernel
theorem dX10_wants_32 : decode cX10_wants 32 = .ok (.aload_n 0, 1) := by decide +kernel
theorem dX10_wants_33 : decode cX10_wants 33 = .ok (.bipush 6, 2) := by decide +kernel
theorem dX10_wants_35 : decode cX10_wants 35 = .ok (.invokevirtual 116, 3) := by decide +kernel
theorem dX10_wants_38 : decode cX10_wants 38 = .ok (.ireturn, 1) := by decide +kernel
theorem dX10_wants_39 : decode cX10_wants 39 = .ok (.iload_n 1, 1) := by decide +kernel
theorem dX10_wants_40 : decode cX10_wants 40 = .ok (.iload_n 2, 1) := by decide +kernel
theorem dX10_wants_41 : decode cX10_wants 41 = .ok (.if_icmp .lt 9, 3) := by decide +kernel
theorem dX10_wants_44 : decode cX10_wants 44 = .ok (.aload_n 0, 1) := by decide +kernel
theorem dX10_wants_45 : decode cX10_wants 45 = .ok (.iconst 1, 1) := by decide +kernel
theorem dX10_wants_46 : decode cX10_wants 46 = .ok (.invokevirtual 116, 3) := by decide +kernel
theorem dX10_wants_49 : decode cX10_wants 49 = .ok (.ireturn, 1) := by decide +kernel
theorem dX10_wants_50 : decode cX10_wants 50 = .ok (.aload_n 0, 1) := by decide +kernel
theorem dX10_wants_51 : decode cX10_wants 51 = .ok (.aload_n 0, 1) := by decide +kernel
theorem dX10_wants_52 : decode cX10_wants 52 = .ok (.getfield 54, 3) := by decide +kernel
theorem dX10_wants_55 : decode cX10_wants 55 = .ok (.iload_n 1, 1) := by decide +kernel
theorem dX10_wants_56 : decode cX10_wants 56 = .ok (.invokevirtual 221, 3) := by decide +kernel
theorem dX10_wants_59 : decode cX10_wants 59 = .ok (.invokevirtual 140, 3) := by decide +kernel
theorem dX10_wants_62 : decode cX10_wants 62 = .ok (.ireturn, 1) := by decide +kernel
theorem dX10_gains_0 : decode cX10_gains 0 = .ok (.aload_n 0, 1) := by decide +kernel
theorem dX10_gains_1 : decode cX10_gains 1 = .ok (.getfield 25, 3) := by decide +kernel
theorem dX10_gains_4 : decode cX10_gains 4 = .ok (.invokevirtual 186, 3) := by decide +kernel
theorem dX10_gains_7 : decode cX10_gains 7 = .ok (.ifCond .ne 9, 3) := by decide +kernel
theorem dX10_gains_10 : decode cX10_gains 10 = .ok (.aload_n 0, 1) := by decide +kernel
theorem dX10_gains_11 : decode cX10_gains 11 = .ok (.iconst 1, 1) := by decide +kernel
theorem dX10_gains_12 : decode cX10_gains 12 = .ok (.invokevirtual 116, 3) := by decide +kernel
theorem dX10_gains_15 : decode cX10_gains 15 = .ok (.ireturn, 1) := by decide +kernel
theorem dX10_gains_16 : decode cX10_gains 16 = .ok (.iload_n 1, 1) := by decide +kernel
theorem dX10_gains_17 : decode cX10_gains 17 = .ok (.ifCond .lt 9, 3) := by decide +kernel
theorem dX10_gains_20 : decode cX10_gains 20 = .ok (.iload_n 1, 1) := by decide +kernel
theorem dX10_gains_21 : decode cX10_gains 21 = .ok (.bipush 26, 2) := by decide +kernel
theorem dX10_gains_23 : decode cX10_gains 23 = .ok (.if_icmp .lt 9, 3) := by decide +kernel
theorem dX10_gains_26 : decode cX10_gains 26 = .ok (.aload_n 0, 1) := by decide +kernel
theorem dX10_gains_27 : decode cX10_gains 27 = .ok (.iconst 2, 1) := by decide +kernel
theorem dX10_gains_28 : decode cX10_gains 28 = .ok (.invokevirtual 116, 3) := by decide +kernel
theorem dX10_gains_31 : decode cX10_gains 31 = .ok (.ireturn, 1) := by decide +kernel
theorem dX10_gains_32 : decode cX10_gains 32 = .ok (.aload_n 0, 1) := by decide +kernel
theorem dX10_gains_33 : decode cX10_gains 33 = .ok (.getfield 60, 3) := by decide +kernel
theorem dX10_gains_36 : decode cX10_gains 36 = .ok (.iload_n 1, 1) := by decide +kernel
theorem dX10_gains_37 : decode cX10_gains 37 = .ok (.iaload, 1) := by decide +kernel
theorem dX10_gains_38 : decode cX10_gains 38 = .ok (.ifCond .ge 49, 3) := by decide +kernel
theorem dX10_gains_41 : decode cX10_gains 41 = .ok (.aload_n 0, 1) := by decide +kernel
theorem dX10_gains_42 : decode cX10_gains 42 = .ok (.getfield 57, 3) := by decide +kernel
theorem dX10_gains_45 : decode cX10_gains 45 = .ok (.iload_n 1, 1) := by decide +kernel
theorem dX10_gains_46 : decode cX10_gains 46 = .ok (.invokevirtual 224, 3) := by decide +kernel
theorem dX10_gains_49 : decode cX10_gains 49 = .ok (.aload_n 0, 1) := by decide +kernel
theorem dX10_gains_50 : decode cX10_gains 50 = .ok (.aload_n 0, 1) := by decide +kernel
theorem dX10_gains_51 : decode cX10_gains 51 = .ok (.getfield 57, 3) := by decide +kernel
theorem dX10_gains_54 : decode cX10_gains 54 = .ok (.bipush 6, 2) := by decide +kernel
theorem dX10_gains_56 : decode cX10_gains 56 = .ok (.invokevirtual 227, 3) := by decide +kernel
theorem dX10_gains_59 : decode cX10_gains 59 = .ok (.aload_n 0, 1) := by decide +kernel
theorem dX10_gains_60 : decode cX10_gains 60 = .ok (.getfield 57, 3) := by decide +kernel
theorem dX10_gains_63 : decode cX10_gains 63 = .ok (.invokevirtual 231, 3) := by decide +kernel
theorem dX10_gains_66 : decode cX10_gains 66 = .ok (.aload_n 0, 1) := by decide +kernel
theorem dX10_gains_67 : decode cX10_gains 67 = .ok (.getfield 60, 3) := by decide +kernel
theorem dX10_gains_70 : decode cX10_gains 70 = .ok (.iload_n 1, 1) := by decide +kernel
theorem dX10_gains_71 : decode cX10_gains 71 = .ok (.aload_n 0, 1) := by decide +kernel
theorem dX10_gains_72 : decode cX10_gains 72 = .ok (.getfield 57, 3) := by decide +kernel
theorem dX10_gains_75 : decode cX10_gains 75 = .ok (.getfield 197, 3) := by decide +kernel
theorem dX10_gains_78 : decode cX10_gains 78 = .ok (.aload_n 0, 1) := by decide +kernel
theorem dX10_gains_79 : decode cX10_gains 79 = .ok (.invokevirtual 193, 3) := by decide +kernel
theorem dX10_gains_82 : decode cX10_gains 82 = .ok (.getfield 197, 3) := by decide +kernel
theorem dX10_gains_85 : decode cX10_gains 85 = .ok (.isub, 1) := by decide +kernel
theorem dX10_gains_86 : decode cX10_gains 86 = .ok (.iastore, 1) := by decide +kernel
theorem dX10_gains_87 : decode cX10_gains 87 = .ok (.aload_n 0, 1) := by decide +kernel
theorem dX10_gains_88 : decode cX10_gains 88 = .ok (.aload_n 0, 1) := by decide +kernel
theorem dX10_gains_89 : decode cX10_gains 89 = .ok (.getfield 60, 3) := by decide +kernel
theorem dX10_gains_92 : decode cX10_gains 92 = .ok (.iload_n 1, 1) := by decide +kernel
theorem dX10_gains_93 : decode cX10_gains 93 = .ok (.iaload, 1) := by decide +kernel
theorem dX10_gains_94 : decode cX10_gains 94 = .ok (.invokevirtual 140, 3) := by decide +kernel
theorem dX10_gains_97 : decode cX10_gains 97 = .ok (.ireturn, 1) := by decide +kernel
theorem dX10_night_0 : decode cX10_night 0 = .ok (.aload_n 0, 1) := by decide +kernel
theorem dX10_night_1 : decode cX10_night 1 = .ok (.getfield 25, 3) := by decide +kernel
theorem dX10_night_4 : decode cX10_night 4 = .ok (.invokevirtual 186, 3) := by decide +kernel
theorem dX10_night_7 : decode cX10_night 7 = .ok (.ifCond .eq 11, 3) := by decide +kernel
theorem dX10_night_10 : decode cX10_night 10 = .ok (.aload_n 0, 1) := by decide +kernel
theorem dX10_night_11 : decode cX10_night 11 = .ok (.iload_n 1, 1) := by decide +kernel
theorem dX10_night_12 : decode cX10_night 12 = .ok (.invokevirtual 234, 3) := by decide +kernel
theorem dX10_night_15 : decode cX10_night 15 = .ok (.ifCond .ne 9, 3) := by decide +kernel
theorem dX10_night_18 : decode cX10_night 18 = .ok (.aload_n 0, 1) := by decide +kernel
theorem dX10_night_19 : decode cX10_night 19 = .ok (.iconst 1, 1) := by decide +kernel
theorem dX10_night_20 : decode cX10_night 20 = .ok (.invokevirtual 237, 3) := by decide +kernel
theorem dX10_night_23 : decode cX10_night 23 = .ok (.ireturn, 1) := by decide +kernel
theorem dX10_night_24 : decode cX10_night 24 = .ok (.aload_n 0, 1) := by decide +kernel
theorem dX10_night_25 : decode cX10_night 25 = .ok (.getfield 97, 3) := by decide +kernel
theorem dX10_night_28 : decode cX10_night 28 = .ok (.iload_n 1, 1) := by decide +kernel
theorem dX10_night_29 : decode cX10_night 29 = .ok (.invokevirtual 130, 3) := by decide +kernel
theorem dX10_night_32 : decode cX10_night 32 = .ok (.aload_n 0, 1) := by decide +kernel
theorem dX10_night_33 : decode cX10_night 33 = .ok (.invokevirtual 240, 3) := by decide +kernel
theorem dX10_night_36 : decode cX10_night 36 = .ok (.ireturn, 1) := by decide +kernel
theorem dX10_come_0 : decode cX10_come 0 = .ok (.aload_n 0, 1) := by decide +kernel
theorem dX10_come_1 : decode cX10_come 1 = .ok (.getfield 25, 3) := by decide +kernel
theorem dX10_come_4 : decode cX10_come 4 = .ok (.invokevirtual 186, 3) := by decide +kernel
theorem dX10_come_7 : decode cX10_come 7 = .ok (.ifCond .ne 9, 3) := by decide +kernel
theorem dX10_come_10 : decode cX10_come 10 = .ok (.aload_n 0, 1) := by decide +kernel
theorem dX10_come_11 : decode cX10_come 11 = .ok (.iconst 1, 1) := by decide +kernel
theorem dX10_come_12 : decode cX10_come 12 = .ok (.invokevirtual 116, 3) := by decide +kernel
theorem dX10_come_15 : decode cX10_come 15 = .ok (.ireturn, 1) := by decide +kernel
theorem dX10_come_16 : decode cX10_come 16 = .ok (.iload_n 1, 1) := by decide +kernel
theorem dX10_come_17 : decode cX10_come 17 = .ok (.iconst 1, 1) := by decide +kernel
theorem dX10_come_18 : decode cX10_come 18 = .ok (.if_icmp .lt 9, 3) := by decide +kernel
theorem dX10_come_21 : decode cX10_come 21 = .ok (.iload_n 1, 1) := by decide +kernel
theorem dX10_come_22 : decode cX10_come 22 = .ok (.bipush 8, 2) := by decide +kernel
theorem dX10_come_24 : decode cX10_come 24 = .ok (.if_icmp .le 9, 3) := by decide +kernel
theorem dX10_come_27 : decode cX10_come 27 = .ok (.aload_n 0, 1) := by decide +kernel
theorem dX10_come_28 : decode cX10_come 28 = .ok (.iconst 2, 1) := by decide +kernel
theorem dX10_come_29 : decode cX10_come 29 = .ok (.invokevirtual 116, 3) := by decide +kernel
theorem dX10_come_32 : decode cX10_come 32 = .ok (.ireturn, 1) := by decide +kernel
theorem dX10_come_33 : decode cX10_come 33 = .ok (.aload_n 0, 1) := by decide +kernel
theorem dX10_come_34 : decode cX10_come 34 = .ok (.getfield 97, 3) := by decide +kernel
theorem dX10_come_37 : decode cX10_come 37 = .ok (.getfield 243, 3) := by decide +kernel
theorem dX10_come_40 : decode cX10_come 40 = .ok (.istore_n 2, 1) := by decide +kernel
theorem dX10_come_41 : decode cX10_come 41 = .ok (.iload_n 2, 1) := by decide +kernel
theorem dX10_come_42 : decode cX10_come 42 = .ok (.aload_n 0, 1) := by decide +kernel
theorem dX10_come_43 : decode cX10_come 43 = .ok (.getfield 25, 3) := by decide +kernel
theorem dX10_come_46 : decode cX10_come 46 = .ok (.getfield 137, 3) := by decide +kernel
theorem dX10_come_49 : decode cX10_come 49 = .ok (.if_icmp .lt 10, 3) := by decide +kernel
theorem dX10_come_52 : decode cX10_come 52 = .ok (.aload_n 0, 1) := by decide +kernel
theorem dX10_come_53 : decode cX10_come 53 = .ok (.bipush 6, 2) := by decide +kernel
theorem dX10_come_55 : decode cX10_come 55 = .ok (.invokevirtual 116, 3) := by decide +kernel
theorem dX10_come_58 : decode cX10_come 58 = .ok (.ireturn, 1) := by decide +kernel
theorem dX10_come_59 : decode cX10_come 59 = .ok (.iconst 0, 1) := by decide +kernel
theorem dX10_come_60 : decode cX10_come 60 = .ok (.istore_n 3, 1) := by decide +kernel
theorem dX10_come_61 : decode cX10_come 61 = .ok (.iload_n 3, 1) := by decide +kernel
theorem dX10_come_62 : decode cX10_come 62 = .ok (.iload_n 1, 1) := by decide +kernel
theorem dX10_come_63 : decode cX10_come 63 = .ok (.if_icmp .ge 37, 3) := by decide +kernel
theorem dX10_come_66 : decode cX10_come 66 = .ok (.aload_n 0, 1) := by decide +kernel
theorem dX10_come_67 : decode cX10_come 67 = .ok (.getfield 97, 3) := by decide +kernel
theorem dX10_come_70 : decode cX10_come 70 = .ok (.getfield 243, 3) := by decide +kernel
theorem dX10_come_73 : decode cX10_come 73 = .ok (.aload_n 0, 1) := by decide +kernel
theorem dX10_come_74 : decode cX10_come 74 = .ok (.getfield 25, 3) := by decide +kernel
theorem dX10_come_77 : decode cX10_come 77 = .ok (.getfield 137, 3) := by decide +kernel
theorem dX10_come_80 : decode cX10_come 80 = .ok (.if_icmp .ge 20, 3) := by decide +kernel
theorem dX10_come_83 : decode cX10_come 83 = .ok (.aload_n 0, 1) := by decide +kernel
theorem dX10_come_84 : decode cX10_come 84 = .ok (.getfield 76, 3) := by decide +kernel
theorem dX10_come_87 : decode cX10_come 87 = .ok (.aload_n 0, 1) := by decide +kernel
theorem dX10_come_88 : decode cX10_come 88 = .ok (.getfield 97, 3) := by decide +kernel
theorem dX10_come_91 : decode cX10_come 91 = .ok (.invokevirtual 246, 3) := by decide +kernel
theorem dX10_come_94 : decode cX10_come 94 = .ok (.iinc 3 1, 3) := by decide +kernel
theorem dX10_come_97 : decode cX10_come 97 = .ok (.goto (-36), 3) := by decide +kernel
theorem dX10_come_100 : decode cX10_come 100 = .ok (.aload_n 0, 1) := by decide +kernel
theorem dX10_come_101 : decode cX10_come 101 = .ok (.aload_n 0, 1) := by decide +kernel
theorem dX10_come_102 : decode cX10_come 102 = .ok (.getfield 97, 3) := by decide +kernel
theorem dX10_come_105 : decode cX10_come 105 = .ok (.getfield 243, 3) := by decide +kernel
theorem dX10_come_108 : decode cX10_come 108 = .ok (.iload_n 2, 1) := by decide +kernel
theorem dX10_come_109 : decode cX10_come 109 = .ok (.isub, 1) := by decide +kernel
theorem dX10_come_110 : decode cX10_come 110 = .ok (.invokevirtual 140, 3) := by decide +kernel
theorem dX10_come_113 : decode cX10_come 113 = .ok (.ireturn, 1) := by decide +kernel
theorem dX10_seat_0 : decode cX10_seat 0 = .ok (.iload_n 1, 1) := by decide +kernel
theorem dX10_seat_1 : decode cX10_seat 1 = .ok (.ifCond .lt 25, 3) := by decide +kernel
theorem dX10_seat_4 : decode cX10_seat 4 = .ok (.iload_n 1, 1) := by decide +kernel
theorem dX10_seat_5 : decode cX10_seat 5 = .ok (.aload_n 0, 1) := by decide +kernel
theorem dX10_seat_6 : decode cX10_seat 6 = .ok (.getfield 25, 3) := by decide +kernel
theorem dX10_seat_9 : decode cX10_seat 9 = .ok (.getfield 203, 3) := by decide +kernel
theorem dX10_seat_12 : decode cX10_seat 12 = .ok (.if_icmp .ge 14, 3) := by decide +kernel
theorem dX10_seat_15 : decode cX10_seat 15 = .ok (.aload_n 0, 1) := by decide +kernel
theorem dX10_seat_16 : decode cX10_seat 16 = .ok (.getfield 25, 3) := by decide +kernel
theorem dX10_seat_19 : decode cX10_seat 19 = .ok (.iload_n 2, 1) := by decide +kernel
theorem dX10_seat_20 : decode cX10_seat 20 = .ok (.invokevirtual 152, 3) := by decide +kernel
theorem dX10_seat_23 : decode cX10_seat 23 = .ok (.ifCond .ne 9, 3) := by decide +kernel
theorem dX10_seat_26 : decode cX10_seat 26 = .ok (.aload_n 0, 1) := by decide +kernel
theorem dX10_seat_27 : decode cX10_seat 27 = .ok (.iconst 1, 1) := by decide +kernel
theorem dX10_seat_28 : decode cX10_seat 28 = .ok (.invokevirtual 237, 3) := by decide +kernel
theorem dX10_seat_31 : decode cX10_seat 31 = .ok (.ireturn, 1) := by decide +kernel
theorem dX10_seat_32 : decode cX10_seat 32 = .ok (.aload_n 0, 1) := by decide +kernel
theorem dX10_seat_33 : decode cX10_seat 33 = .ok (.getfield 97, 3) := by decide +kernel
theorem dX10_seat_36 : decode cX10_seat 36 = .ok (.getfield 243, 3) := by decide +kernel
theorem dX10_seat_39 : decode cX10_seat 39 = .ok (.aload_n 0, 1) := by decide +kernel
theorem dX10_seat_40 : decode cX10_seat 40 = .ok (.getfield 25, 3) := by decide +kernel
theorem dX10_seat_43 : decode cX10_seat 43 = .ok (.getfield 137, 3) := by decide +kernel
theorem dX10_seat_46 : decode cX10_seat 46 = .ok (.if_icmp .lt 10, 3) := by decide +kernel
theorem dX10_seat_49 : decode cX10_seat 49 = .ok (.aload_n 0, 1) := by decide +kernel
theorem dX10_seat_50 : decode cX10_seat 50 = .ok (.bipush 6, 2) := by decide +kernel
theorem dX10_seat_52 : decode cX10_seat 52 = .ok (.invokevirtual 237, 3) := by decide +kernel
theorem dX10_seat_55 : decode cX10_seat 55 = .ok (.ireturn, 1) := by decide +kernel
theorem dX10_seat_56 : decode cX10_seat 56 = .ok (.aload_n 0, 1) := by decide +kernel
theorem dX10_seat_57 : decode cX10_seat 57 = .ok (.getfield 31, 3) := by decide +kernel
theorem dX10_seat_60 : decode cX10_seat 60 = .ok (.aload_n 0, 1) := by decide +kernel
theorem dX10_seat_61 : decode cX10_seat 61 = .ok (.getfield 97, 3) := by decide +kernel
theorem dX10_seat_64 : decode cX10_seat 64 = .ok (.iload_n 1, 1) := by decide +kernel
theorem dX10_seat_65 : decode cX10_seat 65 = .ok (.invokevirtual 250, 3) := by decide +kernel
theorem dX10_seat_68 : decode cX10_seat 68 = .ok (.iload_n 2, 1) := by decide +kernel
theorem dX10_seat_69 : decode cX10_seat 69 = .ok (.invokevirtual 171, 3) := by decide +kernel
theorem dX10_seat_72 : decode cX10_seat 72 = .ok (.aload_n 0, 1) := by decide +kernel
theorem dX10_seat_73 : decode cX10_seat 73 = .ok (.getfield 25, 3) := by decide +kernel
theorem dX10_seat_76 : decode cX10_seat 76 = .ok (.aload_n 0, 1) := by decide +kernel
theorem dX10_seat_77 : decode cX10_seat 77 = .ok (.getfield 97, 3) := by decide +kernel
theorem dX10_seat_80 : decode cX10_seat 80 = .ok (.getfield 243, 3) := by decide +kernel
theorem dX10_seat_83 : decode cX10_seat 83 = .ok (.invokevirtual 253, 3) := by decide +kernel
theorem dX10_seat_86 : decode cX10_seat 86 = .ok (.if_icmp .eq 9, 3) := by decide +kernel
theorem dX10_seat_89 : decode cX10_seat 89 = .ok (.aload_n 0, 1) := by decide +kernel
theorem dX10_seat_90 : decode cX10_seat 90 = .ok (.iconst 5, 1) := by decide +kernel
theorem dX10_seat_91 : decode cX10_seat 91 = .ok (.invokevirtual 237, 3) := by decide +kernel
theorem dX10_seat_94 : decode cX10_seat 94 = .ok (.ireturn, 1) := by decide +kernel
theorem dX10_seat_95 : decode cX10_seat 95 = .ok (.aload_n 0, 1) := by decide +kernel
theorem dX10_seat_96 : decode cX10_seat 96 = .ok (.getfield 97, 3) := by decide +kernel
theorem dX10_seat_99 : decode cX10_seat 99 = .ok (.iload_n 1, 1) := by decide +kernel
theorem dX10_seat_100 : decode cX10_seat 100 = .ok (.iload_n 2, 1) := by decide +kernel
theorem dX10_seat_101 : decode cX10_seat 101 = .ok (.invokevirtual 256, 3) := by decide +kernel
theorem dX10_seat_104 : decode cX10_seat 104 = .ok (.aload_n 0, 1) := by decide +kernel
theorem dX10_seat_105 : decode cX10_seat 105 = .ok (.invokevirtual 240, 3) := by decide +kernel
theorem dX10_seat_108 : decode cX10_seat 108 = .ok (.ireturn, 1) := by decide +kernel
theorem dX10_stand_0 : decode cX10_stand 0 = .ok (.aload_n 0, 1) := by decide +kernel
theorem dX10_stand_1 : decode cX10_stand 1 = .ok (.getfield 25, 3) := by decide +kernel
theorem dX10_stand_4 : decode cX10_stand 4 = .ok (.invokevirtual 186, 3) := by decide +kernel
theorem dX10_stand_7 : decode cX10_stand 7 = .ok (.ifCond .ne 9, 3) := by decide +kernel
theorem dX10_stand_10 : decode cX10_stand 10 = .ok (.aload_n 0, 1) := by decide +kernel
theorem dX10_stand_11 : decode cX10_stand 11 = .ok (.iconst 1, 1) := by decide +kernel
theorem dX10_stand_12 : decode cX10_stand 12 = .ok (.invokevirtual 237, 3) := by decide +kernel
theorem dX10_stand_15 : decode cX10_stand 15 = .ok (.ireturn, 1) := by decide +kernel
theorem dX10_stand_16 : decode cX10_stand 16 = .ok (.aload_n 0, 1) := by decide +kernel
theorem dX10_stand_17 : decode cX10_stand 17 = .ok (.getfield 97, 3) := by decide +kernel
theorem dX10_stand_20 : decode cX10_stand 20 = .ok (.getfield 243, 3) := by decide +kernel
theorem dX10_stand_23 : decode cX10_stand 23 = .ok (.aload_n 0, 1) := by decide +kernel
theorem dX10_stand_24 : decode cX10_stand 24 = .ok (.getfield 25, 3) := by decide +kernel
theorem dX10_stand_27 : decode cX10_stand 27 = .ok (.getfield 137, 3) := by decide +kernel
theorem dX10_stand_30 : decode cX10_stand 30 = .ok (.if_icmp .lt 10, 3) := by decide +kernel
theorem dX10_stand_33 : decode cX10_stand 33 = .ok (.aload_n 0, 1) := by decide +kernel
theorem dX10_stand_34 : decode cX10_stand 34 = .ok (.bipush 6, 2) := by decide +kernel
theorem dX10_stand_36 : decode cX10_stand 36 = .ok (.invokevirtual 237, 3) := by decide +kernel
theorem dX10_stand_39 : decode cX10_stand 39 = .ok (.ireturn, 1) := by decide +kernel
theorem dX10_stand_40 : decode cX10_stand 40 = .ok (.aload_n 0, 1) := by decide +kernel
theorem dX10_stand_41 : decode cX10_stand 41 = .ok (.getfield 97, 3) := by decide +kernel
theorem dX10_stand_44 : decode cX10_stand 44 = .ok (.invokevirtual 260, 3) := by decide +kernel
theorem dX10_stand_47 : decode cX10_stand 47 = .ok (.aload_n 0, 1) := by decide +kernel
theorem dX10_stand_48 : decode cX10_stand 48 = .ok (.invokevirtual 240, 3) := by decide +kernel
theorem dX10_stand_51 : decode cX10_stand 51 = .ok (.ireturn, 1) := by decide +kernel
theorem dX10_can_0 : decode cX10_can 0 = .ok (.aload_n 0, 1) := by decide +kernel
theorem dX10_can_1 : decode cX10_can 1 = .ok (.getfield 25, 3) := by decide +kernel
theorem dX10_can_4 : decode cX10_can 4 = .ok (.invokevirtual 186, 3) := by decide +kernel
theorem dX10_can_7 : decode cX10_can 7 = .ok (.ifCond .ne 9, 3) := by decide +kernel
theorem dX10_can_10 : decode cX10_can 10 = .ok (.aload_n 0, 1) := by decide +kernel
theorem dX10_can_11 : decode cX10_can 11 = .ok (.iconst 1, 1) := by decide +kernel
theorem dX10_can_12 : decode cX10_can 12 = .ok (.invokevirtual 116, 3) := by decide +kernel
theorem dX10_can_15 : decode cX10_can 15 = .ok (.ireturn, 1) := by decide +kernel
theorem dX10_can_16 : decode cX10_can 16 = .ok (.aload_n 0, 1) := by decide +kernel
theorem dX10_can_17 : decode cX10_can 17 = .ok (.getfield 97, 3) := by decide +kernel
theorem dX10_can_20 : decode cX10_can 20 = .ok (.getfield 243, 3) := by decide +kernel
theorem dX10_can_23 : decode cX10_can 23 = .ok (.aload_n 0, 1) := by decide +kernel
theorem dX10_can_24 : decode cX10_can 24 = .ok (.getfield 25, 3) := by decide +kernel
theorem dX10_can_27 : decode cX10_can 27 = .ok (.getfield 137, 3) := by decide +kernel
theorem dX10_can_30 : decode cX10_can 30 = .ok (.if_icmp .lt 10, 3) := by decide +kernel
theorem dX10_can_33 : decode cX10_can 33 = .ok (.aload_n 0, 1) := by decide +kernel
theorem dX10_can_34 : decode cX10_can 34 = .ok (.bipush 6, 2) := by decide +kernel
theorem dX10_can_36 : decode cX10_can 36 = .ok (.invokevirtual 116, 3) := by decide +kernel
theorem dX10_can_39 : decode cX10_can 39 = .ok (.ireturn, 1) := by decide +kernel
theorem dX10_can_40 : decode cX10_can 40 = .ok (.aload_n 0, 1) := by decide +kernel
theorem dX10_can_41 : decode cX10_can 41 = .ok (.getfield 25, 3) := by decide +kernel
theorem dX10_can_44 : decode cX10_can 44 = .ok (.aload_n 0, 1) := by decide +kernel
theorem dX10_can_45 : decode cX10_can 45 = .ok (.getfield 97, 3) := by decide +kernel
theorem dX10_can_48 : decode cX10_can 48 = .ok (.getfield 243, 3) := by decide +kernel
theorem dX10_can_51 : decode cX10_can 51 = .ok (.invokevirtual 253, 3) := by decide +kernel
theorem dX10_can_54 : decode cX10_can 54 = .ok (.istore_n 1, 1) := by decide +kernel
theorem dX10_can_55 : decode cX10_can 55 = .ok (.iconst 0, 1) := by decide +kernel
theorem dX10_can_56 : decode cX10_can 56 = .ok (.istore_n 2, 1) := by decide +kernel
theorem dX10_can_57 : decode cX10_can 57 = .ok (.iconst 0, 1) := by decide +kernel
theorem dX10_can_58 : decode cX10_can 58 = .ok (.istore_n 3, 1) := by decide +kernel
theorem dX10_can_59 : decode cX10_can 59 = .ok (.iload_n 3, 1) := by decide +kernel
theorem dX10_can_60 : decode cX10_can 60 = .ok (.aload_n 0, 1) := by decide +kernel
theorem dX10_can_61 : decode cX10_can 61 = .ok (.getfield 25, 3) := by decide +kernel
theorem dX10_can_64 : decode cX10_can 64 = .ok (.getfield 203, 3) := by decide +kernel
theorem dX10_can_67 : decode cX10_can 67 = .ok (.if_icmp .ge 28, 3) := by decide +kernel
theorem dX10_can_70 : decode cX10_can 70 = .ok (.iload_n 2, 1) := by decide +kernel
theorem dX10_can_71 : decode cX10_can 71 = .ok (.aload_n 0, 1) := by decide +kernel
theorem dX10_can_72 : decode cX10_can 72 = .ok (.getfield 31, 3) := by decide +kernel
theorem dX10_can_75 : decode cX10_can 75 = .ok (.aload_n 0, 1) := by decide +kernel
theorem dX10_can_76 : decode cX10_can 76 = .ok (.getfield 97, 3) := by decide +kernel
theorem dX10_can_79 : decode cX10_can 79 = .ok (.iload_n 3, 1) := by decide +kernel
theorem dX10_can_80 : decode cX10_can 80 = .ok (.invokevirtual 250, 3) := by decide +kernel
theorem dX10_can_83 : decode cX10_can 83 = .ok (.iload_n 1, 1) := by decide +kernel
theorem dX10_can_84 : decode cX10_can 84 = .ok (.invokevirtual 263, 3) := by decide +kernel
theorem dX10_can_87 : decode cX10_can 87 = .ok (.iadd, 1) := by decide +kernel
theorem dX10_can_88 : decode cX10_can 88 = .ok (.istore_n 2, 1) := by decide +kernel
theorem dX10_can_89 : decode cX10_can 89 = .ok (.iinc 3 1, 3) := by decide +kernel
theorem dX10_can_92 : decode cX10_can 92 = .ok (.goto (-33), 3) := by decide +kernel
theorem dX10_can_95 : decode cX10_can 95 = .ok (.aload_n 0, 1) := by decide +kernel
theorem dX10_can_96 : decode cX10_can 96 = .ok (.iload_n 2, 1) := by decide +kernel
theorem dX10_can_97 : decode cX10_can 97 = .ok (.invokevirtual 140, 3) := by decide +kernel
theorem dX10_can_100 : decode cX10_can 100 = .ok (.ireturn, 1) := by decide +kernel
theorem dX10_table_0 : decode cX10_table 0 = .ok (.iload_n 1, 1) := by decide +kernel
theorem dX10_table_1 : decode cX10_table 1 = .ok (.ifCond .lt 14, 3) := by decide +kernel
theorem dX10_table_4 : decode cX10_table 4 = .ok (.iload_n 1, 1) := by decide +kernel
theorem dX10_table_5 : decode cX10_table 5 = .ok (.aload_n 0, 1) := by decide +kernel
theorem dX10_table_6 : decode cX10_table 6 = .ok (.getfield 25, 3) := by decide +kernel
theorem dX10_table_9 : decode cX10_table 9 = .ok (.getfield 203, 3) := by decide +kernel
theorem dX10_table_12 : decode cX10_table 12 = .ok (.if_icmp .lt 9, 3) := by decide +kernel
theorem dX10_table_15 : decode cX10_table 15 = .ok (.aload_n 0, 1) := by decide +kernel
theorem dX10_table_16 : decode cX10_table 16 = .ok (.iconst 1, 1) := by decide +kernel
theorem dX10_table_17 : decode cX10_table 17 = .ok (.invokevirtual 116, 3) := by decide +kernel
theorem dX10_table_20 : decode cX10_table 20 = .ok (.ireturn, 1) := by decide +kernel
theorem dX10_table_21 : decode cX10_table 21 = .ok (.aload_n 0, 1) := by decide +kernel
theorem dX10_table_22 : decode cX10_table 22 = .ok (.getfield 97, 3) := by decide +kernel
theorem dX10_table_25 : decode cX10_table 25 = .ok (.iload_n 1, 1) := by decide +kernel
theorem dX10_table_26 : decode cX10_table 26 = .ok (.invokevirtual 250, 3) := by decide +kernel
theorem dX10_table_29 : decode cX10_table 29 = .ok (.istore_n 2, 1) := by decide +kernel
theorem dX10_table_30 : decode cX10_table 30 = .ok (.aload_n 0, 1) := by decide +kernel
theorem dX10_table_31 : decode cX10_table 31 = .ok (.iload_n 2, 1) := by decide +kernel
theorem dX10_table_32 : decode cX10_table 32 = .ok (.bipush 24, 2) := by decide +kernel
theorem dX10_table_34 : decode cX10_table 34 = .ok (.if_icmp .ne 8, 3) := by decide +kernel
theorem dX10_table_37 : decode cX10_table 37 = .ok (.bipush (-2), 2) := by decide +kernel
theorem dX10_table_39 : decode cX10_table 39 = .ok (.goto 4, 3) := by decide +kernel
theorem dX10_table_42 : decode cX10_table 42 = .ok (.iload_n 2, 1) := by decide +kernel
theorem dX10_table_43 : decode cX10_table 43 = .ok (.invokevirtual 140, 3) := by decide +kernel
theorem dX10_table_46 : decode cX10_table 46 = .ok (.ireturn, 1) := by decide +kernel
theorem dX10_standing_0 : decode cX10_standing 0 = .ok (.aload_n 0, 1) := by decide +kernel
theorem dX10_standing_1 : decode cX10_standing 1 = .ok (.getfield 25, 3) := by decide +kernel
theorem dX10_standing_4 : decode cX10_standing 4 = .ok (.invokevirtual 186, 3) := by decide +kernel
theorem dX10_standing_7 : decode cX10_standing 7 = .ok (.ifCond .eq 17, 3) := by decide +kernel
theorem dX10_standing_10 : decode cX10_standing 10 = .ok (.aload_n 0, 1) := by decide +kernel
theorem dX10_standing_11 : decode cX10_standing 11 = .ok (.aload_n 0, 1) := by decide +kernel
theorem dX10_standing_12 : decode cX10_standing 12 = .ok (.getfield 97, 3) := by decide +kernel
theorem dX10_standing_15 : decode cX10_standing 15 = .ok (.invokevirtual 266, 3) := by decide +kernel
theorem dX10_standing_18 : decode cX10_standing 18 = .ok (.invokevirtual 140, 3) := by decide +kernel
theorem dX10_standing_21 : decode cX10_standing 21 = .ok (.goto 8, 3) := by decide +kernel
theorem dX10_standing_24 : decode cX10_standing 24 = .ok (.aload_n 0, 1) := by decide +kernel
theorem dX10_standing_25 : decode cX10_standing 25 = .ok (.iconst 1, 1) := by decide +kernel
theorem dX10_standing_26 : decode cX10_standing 26 = .ok (.invokevirtual 116, 3) := by decide +kernel
theorem dX10_standing_29 : decode cX10_standing 29 = .ok (.ireturn, 1) := by decide +kernel
theorem dX10_ever_0 : decode cX10_ever 0 = .ok (.aload_n 0, 1) := by decide +kernel
theorem dX10_ever_1 : decode cX10_ever 1 = .ok (.getfield 25, 3) := by decide +kernel
theorem dX10_ever_4 : decode cX10_ever 4 = .ok (.invokevirtual 186, 3) := by decide +kernel
theorem dX10_ever_7 : decode cX10_ever 7 = .ok (.ifCond .ne 9, 3) := by decide +kernel
theorem dX10_ever_10 : decode cX10_ever 10 = .ok (.aload_n 0, 1) := by decide +kernel
theorem dX10_ever_11 : decode cX10_ever 11 = .ok (.iconst 1, 1) := by decide +kernel
theorem dX10_ever_12 : decode cX10_ever 12 = .ok (.invokevirtual 116, 3) := by decide +kernel
theorem dX10_ever_15 : decode cX10_ever 15 = .ok (.ireturn, 1) := by decide +kernel
theorem dX10_ever_16 : decode cX10_ever 16 = .ok (.aload_n 0, 1) := by decide +kernel
theorem dX10_ever_17 : decode cX10_ever 17 = .ok (.getfield 51, 3) := by decide +kernel
theorem dX10_ever_20 : decode cX10_ever 20 = .ok (.getfield 270, 3) := by decide +kernel
theorem dX10_ever_23 : decode cX10_ever 23 = .ok (.ifCond .ne 27, 3) := by decide +kernel
theorem dX10_ever_26 : decode cX10_ever 26 = .ok (.aload_n 0, 1) := by decide +kernel
theorem dX10_ever_27 : decode cX10_ever 27 = .ok (.getfield 51, 3) := by decide +kernel
theorem dX10_ever_30 : decode cX10_ever 30 = .ok (.iconst (-1), 1) := by decide +kernel
theorem dX10_ever_31 : decode cX10_ever 31 = .ok (.invokevirtual 224, 3) := by decide +kernel
theorem dX10_ever_34 : decode cX10_ever 34 = .ok (.aload_n 0, 1) := by decide +kernel
theorem dX10_ever_35 : decode cX10_ever 35 = .ok (.aload_n 0, 1) := by decide +kernel
theorem dX10_ever_36 : decode cX10_ever 36 = .ok (.getfield 51, 3) := by decide +kernel
theorem dX10_ever_39 : decode cX10_ever 39 = .ok (.iconst 1, 1) := by decide +kernel
theorem dX10_ever_40 : decode cX10_ever 40 = .ok (.invokevirtual 227, 3) := by decide +kernel
theorem dX10_ever_43 : decode cX10_ever 43 = .ok (.aload_n 0, 1) := by decide +kernel
theorem dX10_ever_44 : decode cX10_ever 44 = .ok (.getfield 51, 3) := by decide +kernel
theorem dX10_ever_47 : decode cX10_ever 47 = .ok (.invokevirtual 231, 3) := by decide +kernel
theorem dX10_ever_50 : decode cX10_ever 50 = .ok (.aload_n 0, 1) := by decide +kernel
theorem dX10_ever_51 : decode cX10_ever 51 = .ok (.aload_n 0, 1) := by decide +kernel
theorem dX10_ever_52 : decode cX10_ever 52 = .ok (.getfield 51, 3) := by decide +kernel
theorem dX10_ever_55 : decode cX10_ever 55 = .ok (.getfield 197, 3) := by decide +kernel
theorem dX10_ever_58 : decode cX10_ever 58 = .ok (.invokevirtual 140, 3) := by decide +kernel
theorem dX10_ever_61 : decode cX10_ever 61 = .ok (.ireturn, 1) := by decide +kernel
theorem dX10_rises_0 : decode cX10_rises 0 = .ok (.aload_n 0, 1) := by decide +kernel
theorem dX10_rises_1 : decode cX10_rises 1 = .ok (.getfield 25, 3) := by decide +kernel
theorem dX10_rises_4 : decode cX10_rises 4 = .ok (.iload_n 1, 1) := by decide +kernel
theorem dX10_rises_5 : decode cX10_rises 5 = .ok (.invokevirtual 152, 3) := by decide +kernel
theorem dX10_rises_8 : decode cX10_rises 8 = .ok (.ifCond .ne 9, 3) := by decide +kernel
theorem dX10_rises_11 : decode cX10_rises 11 = .ok (.aload_n 0, 1) := by decide +kernel
theorem dX10_rises_12 : decode cX10_rises 12 = .ok (.iconst 1, 1) := by decide +kernel
theorem dX10_rises_13 : decode cX10_rises 13 = .ok (.invokevirtual 116, 3) := by decide +kernel
theorem dX10_rises_16 : decode cX10_rises 16 = .ok (.ireturn, 1) := by decide +kernel
theorem dX10_rises_17 : decode cX10_rises 17 = .ok (.aload_n 0, 1) := by decide +kernel
theorem dX10_rises_18 : decode cX10_rises 18 = .ok (.getfield 25, 3) := by decide +kernel
theorem dX10_rises_21 : decode cX10_rises 21 = .ok (.iload_n 1, 1) := by decide +kernel
theorem dX10_rises_22 : decode cX10_rises 22 = .ok (.invokevirtual 164, 3) := by decide +kernel
theorem dX10_rises_25 : decode cX10_rises 25 = .ok (.ifCond .ne 9, 3) := by decide +kernel
theorem dX10_rises_28 : decode cX10_rises 28 = .ok (.aload_n 0, 1) := by decide +kernel
theorem dX10_rises_29 : decode cX10_rises 29 = .ok (.iconst 5, 1) := by decide +kernel
theorem dX10_rises_30 : decode cX10_rises 30 = .ok (.invokevirtual 116, 3) := by decide +kernel
theorem dX10_rises_33 : decode cX10_rises 33 = .ok (.ireturn, 1) := by decide +kernel
theorem dX10_rises_34 : decode cX10_rises 34 = .ok (.aload_n 0, 1) := by decide +kernel
theorem dX10_rises_35 : decode cX10_rises 35 = .ok (.aload_n 0, 1) := by decide +kernel
theorem dX10_rises_36 : decode cX10_rises 36 = .ok (.getfield 31, 3) := by decide +kernel
theorem dX10_rises_39 : decode cX10_rises 39 = .ok (.iload_n 1, 1) := by decide +kernel
theorem dX10_rises_40 : decode cX10_rises 40 = .ok (.invokevirtual 274, 3) := by decide +kernel
theorem dX10_rises_43 : decode cX10_rises 43 = .ok (.invokevirtual 140, 3) := by decide +kernel
theorem dX10_rises_46 : decode cX10_rises 46 = .ok (.ireturn, 1) := by decide +kernel
theorem dX10_steps_0 : decode cX10_steps 0 = .ok (.aload_n 0, 1) := by decide +kernel
theorem dX10_steps_1 : decode cX10_steps 1 = .ok (.getfield 25, 3) := by decide +kernel
theorem dX10_steps_4 : decode cX10_steps 4 = .ok (.invokevirtual 186, 3) := by decide +kernel
theorem dX10_steps_7 : decode cX10_steps 7 = .ok (.ifCond .eq 30, 3) := by decide +kernel
theorem dX10_steps_10 : decode cX10_steps 10 = .ok (.aload_n 0, 1) := by decide +kernel
theorem dX10_steps_11 : decode cX10_steps 11 = .ok (.iconst 0, 1) := by decide +kernel
theorem dX10_steps_12 : decode cX10_steps 12 = .ok (.iload_n 1, 1) := by decide +kernel
theorem dX10_steps_13 : decode cX10_steps 13 = .ok (.invokevirtual 277, 3) := by decide +kernel
theorem dX10_steps_16 : decode cX10_steps 16 = .ok (.ifCond .eq 21, 3) := by decide +kernel
theorem dX10_steps_19 : decode cX10_steps 19 = .ok (.aload_n 0, 1) := by decide +kernel
theorem dX10_steps_20 : decode cX10_steps 20 = .ok (.iconst 1, 1) := by decide +kernel
theorem dX10_steps_21 : decode cX10_steps 21 = .ok (.iload_n 2, 1) := by decide +kernel
theorem dX10_steps_22 : decode cX10_steps 22 = .ok (.invokevirtual 277, 3) := by decide +kernel
theorem dX10_steps_25 : decode cX10_steps 25 = .ok (.ifCond .eq 12, 3) := by decide +kernel
theorem dX10_steps_28 : decode cX10_steps 28 = .ok (.aload_n 0, 1) := by decide +kernel
theorem dX10_steps_29 : decode cX10_steps 29 = .ok (.iconst 2, 1) := by decide +kernel
theorem dX10_steps_30 : decode cX10_steps 30 = .ok (.iload_n 3, 1) := by decide +kernel
theorem dX10_steps_31 : decode cX10_steps 31 = .ok (.invokevirtual 277, 3) := by decide +kernel
theorem dX10_steps_34 : decode cX10_steps 34 = .ok (.ifCond .ne 9, 3) := by decide +kernel
theorem dX10_steps_37 : decode cX10_steps 37 = .ok (.aload_n 0, 1) := by decide +kernel
theorem dX10_steps_38 : decode cX10_steps 38 = .ok (.iconst 1, 1) := by decide +kernel
theorem dX10_steps_39 : decode cX10_steps 39 = .ok (.invokevirtual 116, 3) := by decide +kernel
theorem dX10_steps_42 : decode cX10_steps 42 = .ok (.ireturn, 1) := by decide +kernel
theorem dX10_steps_43 : decode cX10_steps 43 = .ok (.iload 4, 2) := by decide +kernel
theorem dX10_steps_45 : decode cX10_steps 45 = .ok (.ifCond .lt 10, 3) := by decide +kernel
theorem dX10_steps_48 : decode cX10_steps 48 = .ok (.iload 4, 2) := by decide +kernel
theorem dX10_steps_50 : decode cX10_steps 50 = .ok (.bipush 8, 2) := by decide +kernel
theorem dX10_steps_52 : decode cX10_steps 52 = .ok (.if_icmp .le 9, 3) := by decide +kernel
theorem dX10_steps_55 : decode cX10_steps 55 = .ok (.aload_n 0, 1) := by decide +kernel
theorem dX10_steps_56 : decode cX10_steps 56 = .ok (.iconst 2, 1) := by decide +kernel
theorem dX10_steps_57 : decode cX10_steps 57 = .ok (.invokevirtual 116, 3) := by decide +kernel
theorem dX10_steps_60 : decode cX10_steps 60 = .ok (.ireturn, 1) := by decide +kernel
theorem dX10_steps_61 : decode cX10_steps 61 = .ok (.aload_n 0, 1) := by decide +kernel
theorem dX10_steps_62 : decode cX10_steps 62 = .ok (.iload_n 1, 1) := by decide +kernel
theorem dX10_steps_63 : decode cX10_steps 63 = .ok (.invokevirtual 281, 3) := by decide +kernel
theorem dX10_steps_66 : decode cX10_steps 66 = .ok (.ifCond .eq 19, 3) := by decide +kernel
theorem dX10_steps_69 : decode cX10_steps 69 = .ok (.aload_n 0, 1) := by decide +kernel
theorem dX10_steps_70 : decode cX10_steps 70 = .ok (.iload_n 2, 1) := by decide +kernel
theorem dX10_steps_71 : decode cX10_steps 71 = .ok (.invokevirtual 281, 3) := by decide +kernel
theorem dX10_steps_74 : decode cX10_steps 74 = .ok (.ifCond .eq 11, 3) := by decide +kernel
theorem dX10_steps_77 : decode cX10_steps 77 = .ok (.aload_n 0, 1) := by decide +kernel
theorem dX10_steps_78 : decode cX10_steps 78 = .ok (.iload_n 3, 1) := by decide +kernel
theorem dX10_steps_79 : decode cX10_steps 79 = .ok (.invokevirtual 281, 3) := by decide +kernel
theorem dX10_steps_82 : decode cX10_steps 82 = .ok (.ifCond .ne 9, 3) := by decide +kernel
theorem dX10_steps_85 : decode cX10_steps 85 = .ok (.aload_n 0, 1) := by decide +kernel
theorem dX10_steps_86 : decode cX10_steps 86 = .ok (.iconst 5, 1) := by decide +kernel
theorem dX10_steps_87 : decode cX10_steps 87 = .ok (.invokevirtual 116, 3) := by decide +kernel
theorem dX10_steps_90 : decode cX10_steps 90 = .ok (.ireturn, 1) := by decide +kernel
theorem dX10_steps_91 : decode cX10_steps 91 = .ok (.aload_n 0, 1) := by decide +kernel
theorem dX10_steps_92 : decode cX10_steps 92 = .ok (.getfield 83, 3) := by decide +kernel
theorem dX10_steps_95 : decode cX10_steps 95 = .ok (.iload_n 1, 1) := by decide +kernel
theorem dX10_steps_96 : decode cX10_steps 96 = .ok (.iconst (-1), 1) := by decide +kernel
theorem dX10_steps_97 : decode cX10_steps 97 = .ok (.if_icmp .ne 8, 3) := by decide +kernel
theorem dX10_steps_100 : decode cX10_steps 100 = .ok (.bipush 24, 2) := by decide +kernel
theorem dX10_steps_102 : decode cX10_steps 102 = .ok (.goto 4, 3) := by decide +kernel
theorem dX10_steps_105 : decode cX10_steps 105 = .ok (.iload_n 1, 1) := by decide +kernel
theorem dX10_steps_106 : decode cX10_steps 106 = .ok (.iload_n 2, 1) := by decide +kernel
theorem dX10_steps_107 : decode cX10_steps 107 = .ok (.iconst (-1), 1) := by decide +kernel
theorem dX10_steps_108 : decode cX10_steps 108 = .ok (.if_icmp .ne 8, 3) := by decide +kernel
theorem dX10_steps_111 : decode cX10_steps 111 = .ok (.bipush 24, 2) := by decide +kernel
theorem dX10_steps_113 : decode cX10_steps 113 = .ok (.goto 4, 3) := by decide +kernel
theorem dX10_steps_116 : decode cX10_steps 116 = .ok (.iload_n 2, 1) := by decide +kernel
theorem dX10_steps_117 : decode cX10_steps 117 = .ok (.iload_n 3, 1) := by decide +kernel
theorem dX10_steps_118 : decode cX10_steps 118 = .ok (.iconst (-1), 1) := by decide +kernel
theorem dX10_steps_119 : decode cX10_steps 119 = .ok (.if_icmp .ne 8, 3) := by decide +kernel
theorem dX10_steps_122 : decode cX10_steps 122 = .ok (.bipush 24, 2) := by decide +kernel
theorem dX10_steps_124 : decode cX10_steps 124 = .ok (.goto 4, 3) := by decide +kernel
theorem dX10_steps_127 : decode cX10_steps 127 = .ok (.iload_n 3, 1) := by decide +kernel
theorem dX10_steps_128 : decode cX10_steps 128 = .ok (.invokevirtual 284, 3) := by decide +kernel
theorem dX10_steps_131 : decode cX10_steps 131 = .ok (.istore 5, 2) := by decide +kernel
theorem dX10_steps_133 : decode cX10_steps 133 = .ok (.aload_n 0, 1) := by decide +kernel
theorem dX10_steps_134 : decode cX10_steps 134 = .ok (.aload_n 0, 1) := by decide +kernel
theorem dX10_steps_135 : decode cX10_steps 135 = .ok (.getfield 83, 3) := by decide +kernel
theorem dX10_steps_138 : decode cX10_steps 138 = .ok (.aload_n 0, 1) := by decide +kernel
theorem dX10_steps_139 : decode cX10_steps 139 = .ok (.getfield 97, 3) := by decide +kernel
theorem dX10_steps_142 : decode cX10_steps 142 = .ok (.iload 5, 2) := by decide +kernel
theorem dX10_steps_144 : decode cX10_steps 144 = .ok (.iload 4, 2) := by decide +kernel
theorem dX10_steps_146 : decode cX10_steps 146 = .ok (.invokevirtual 288, 3) := by decide +kernel
theorem dX10_steps_149 : decode cX10_steps 149 = .ok (.invokevirtual 140, 3) := by decide +kernel
theorem dX10_steps_152 : decode cX10_steps 152 = .ok (.ireturn, 1) := by decide +kernel
theorem dX10_able_0 : decode cX10_able 0 = .ok (.aload_n 0, 1) := by decide +kernel
theorem dX10_able_1 : decode cX10_able 1 = .ok (.getfield 25, 3) := by decide +kernel
theorem dX10_able_4 : decode cX10_able 4 = .ok (.invokevirtual 186, 3) := by decide +kernel
theorem dX10_able_7 : decode cX10_able 7 = .ok (.ifCond .eq 17, 3) := by decide +kernel
theorem dX10_able_10 : decode cX10_able 10 = .ok (.aload_n 0, 1) := by decide +kernel
theorem dX10_able_11 : decode cX10_able 11 = .ok (.aload_n 0, 1) := by decide +kernel
theorem dX10_able_12 : decode cX10_able 12 = .ok (.getfield 67, 3) := by decide +kernel
theorem dX10_able_15 : decode cX10_able 15 = .ok (.invokevirtual 292, 3) := by decide +kernel
theorem dX10_able_18 : decode cX10_able 18 = .ok (.invokevirtual 140, 3) := by decide +kernel
theorem dX10_able_21 : decode cX10_able 21 = .ok (.goto 8, 3) := by decide +kernel
theorem dX10_able_24 : decode cX10_able 24 = .ok (.aload_n 0, 1) := by decide +kernel
theorem dX10_able_25 : decode cX10_able 25 = .ok (.iconst 1, 1) := by decide +kernel
theorem dX10_able_26 : decode cX10_able 26 = .ok (.invokevirtual 116, 3) := by decide +kernel
theorem dX10_able_29 : decode cX10_able 29 = .ok (.ireturn, 1) := by decide +kernel
theorem dX10_sits_0 : decode cX10_sits 0 = .ok (.aload_n 0, 1) := by decide +kernel
theorem dX10_sits_1 : decode cX10_sits 1 = .ok (.getfield 25, 3) := by decide +kernel
theorem dX10_sits_4 : decode cX10_sits 4 = .ok (.invokevirtual 186, 3) := by decide +kernel
theorem dX10_sits_7 : decode cX10_sits 7 = .ok (.ifCond .eq 11, 3) := by decide +kernel
theorem dX10_sits_10 : decode cX10_sits 10 = .ok (.aload_n 0, 1) := by decide +kernel
theorem dX10_sits_11 : decode cX10_sits 11 = .ok (.iload_n 1, 1) := by decide +kernel
theorem dX10_sits_12 : decode cX10_sits 12 = .ok (.invokevirtual 234, 3) := by decide +kernel
theorem dX10_sits_15 : decode cX10_sits 15 = .ok (.ifCond .ne 9, 3) := by decide +kernel
theorem dX10_sits_18 : decode cX10_sits 18 = .ok (.aload_n 0, 1) := by decide +kernel
theorem dX10_sits_19 : decode cX10_sits 19 = .ok (.iconst 1, 1) := by decide +kernel
theorem dX10_sits_20 : decode cX10_sits 20 = .ok (.invokevirtual 116, 3) := by decide +kernel
theorem dX10_sits_23 : decode cX10_sits 23 = .ok (.ireturn, 1) := by decide +kernel
theorem dX10_sits_24 : decode cX10_sits 24 = .ok (.aload_n 0, 1) := by decide +kernel
theorem dX10_sits_25 : decode cX10_sits 25 = .ok (.getfield 101, 3) := by decide +kernel
theorem dX10_sits_28 : decode cX10_sits 28 = .ok (.iload_n 1, 1) := by decide +kernel
theorem dX10_sits_29 : decode cX10_sits 29 = .ok (.invokevirtual 130, 3) := by decide +kernel
theorem dX10_sits_32 : decode cX10_sits 32 = .ok (.iconst 0, 1) := by decide +kernel
theorem dX10_sits_33 : decode cX10_sits 33 = .ok (.istore_n 2, 1) := by decide +kernel
theorem dX10_sits_34 : decode cX10_sits 34 = .ok (.iload_n 2, 1) := by decide +kernel
theorem dX10_sits_35 : decode cX10_sits 35 = .ok (.aload_n 0, 1) := by decide +kernel
theorem dX10_sits_36 : decode cX10_sits 36 = .ok (.getfield 25, 3) := by decide +kernel
theorem dX10_sits_39 : decode cX10_sits 39 = .ok (.getfield 137, 3) := by decide +kernel
theorem dX10_sits_42 : decode cX10_sits 42 = .ok (.if_icmp .ge 20, 3) := by decide +kernel
theorem dX10_sits_45 : decode cX10_sits 45 = .ok (.aload_n 0, 1) := by decide +kernel
theorem dX10_sits_46 : decode cX10_sits 46 = .ok (.getfield 76, 3) := by decide +kernel
theorem dX10_sits_49 : decode cX10_sits 49 = .ok (.aload_n 0, 1) := by decide +kernel
theorem dX10_sits_50 : decode cX10_sits 50 = .ok (.getfield 101, 3) := by decide +kernel
theorem dX10_sits_53 : decode cX10_sits 53 = .ok (.invokevirtual 246, 3) := by decide +kernel
theorem dX10_sits_56 : decode cX10_sits 56 = .ok (.iinc 2 1, 3) := by decide +kernel
theorem dX10_sits_59 : decode cX10_sits 59 = .ok (.goto (-25), 3) := by decide +kernel
theorem dX10_sits_62 : decode cX10_sits 62 = .ok (.aload_n 0, 1) := by decide +kernel
theorem dX10_sits_63 : decode cX10_sits 63 = .ok (.aload_n 0, 1) := by decide +kernel
theorem dX10_sits_64 : decode cX10_sits 64 = .ok (.getfield 101, 3) := by decide +kernel
theorem dX10_sits_67 : decode cX10_sits 67 = .ok (.getfield 295, 3) := by decide +kernel
theorem dX10_sits_70 : decode cX10_sits 70 = .ok (.invokestatic 298, 3) := by decide +kernel
theorem dX10_sits_73 : decode cX10_sits 73 = .ok (.invokevirtual 140, 3) := by decide +kernel
theorem dX10_sits_76 : decode cX10_sits 76 = .ok (.ireturn, 1) := by decide +kernel
theorem dX10_hope_0 : decode cX10_hope 0 = .ok (.aload_n 0, 1) := by decide +kernel
theorem dX10_hope_1 : decode cX10_hope 1 = .ok (.getfield 25, 3) := by decide +kernel
theorem dX10_hope_4 : decode cX10_hope 4 = .ok (.invokevirtual 186, 3) := by decide +kernel
theorem dX10_hope_7 : decode cX10_hope 7 = .ok (.ifCond .ne 10, 3) := by decide +kernel
theorem dX10_hope_10 : decode cX10_hope 10 = .ok (.aload_n 0, 1) := by decide +kernel
theorem dX10_hope_11 : decode cX10_hope 11 = .ok (.iconst 1, 1) := by decide +kernel
theorem dX10_hope_12 : decode cX10_hope 12 = .ok (.invokevirtual 116, 3) := by decide +kernel
theorem dX10_hope_15 : decode cX10_hope 15 = .ok (.i2l, 1) := by decide +kernel
theorem dX10_hope_16 : decode cX10_hope 16 = .ok (.lreturn, 1) := by decide +kernel
theorem dX10_hope_17 : decode cX10_hope 17 = .ok (.iload_n 1, 1) := by decide +kernel
theorem dX10_hope_18 : decode cX10_hope 18 = .ok (.iconst 1, 1) := by decide +kernel
theorem dX10_hope_19 : decode cX10_hope 19 = .ok (.if_icmp .lt 8, 3) := by decide +kernel
theorem dX10_hope_22 : decode cX10_hope 22 = .ok (.iload_n 1, 1) := by decide +kernel
theorem dX10_hope_23 : decode cX10_hope 23 = .ok (.iconst 4, 1) := by decide +kernel
theorem dX10_hope_24 : decode cX10_hope 24 = .ok (.if_icmp .le 10, 3) := by decide +kernel
theorem dX10_hope_27 : decode cX10_hope 27 = .ok (.aload_n 0, 1) := by decide +kernel
theorem dX10_hope_28 : decode cX10_hope 28 = .ok (.iconst 2, 1) := by decide +kernel
theorem dX10_hope_29 : decode cX10_hope 29 = .ok (.invokevirtual 116, 3) := by decide +kernel
theorem dX10_hope_32 : decode cX10_hope 32 = .ok (.i2l, 1) := by decide +kernel
theorem dX10_hope_33 : decode cX10_hope 33 = .ok (.lreturn, 1) := by decide +kernel
theorem dX10_hope_34 : decode cX10_hope 34 = .ok (.aload_n 0, 1) := by decide +kernel
theorem dX10_hope_35 : decode cX10_hope 35 = .ok (.getfield 25, 3) := by decide +kernel
theorem dX10_hope_38 : decode cX10_hope 38 = .ok (.getfield 303, 3) := by decide +kernel
theorem dX10_hope_41 : decode cX10_hope 41 = .ok (.iconst 1, 1) := by decide +kernel
theorem dX10_hope_42 : decode cX10_hope 42 = .ok (.if_icmp .ge 11, 3) := by decide +kernel
theorem dX10_hope_45 : decode cX10_hope 45 = .ok (.aload_n 0, 1) := by decide +kernel
theorem dX10_hope_46 : decode cX10_hope 46 = .ok (.bipush 6, 2) := by decide +kernel
theorem dX10_hope_48 : decode cX10_hope 48 = .ok (.invokevirtual 116, 3) := by decide +kernel
theorem dX10_hope_51 : decode cX10_hope 51 = .ok (.i2l, 1) := by decide +kernel
theorem dX10_hope_52 : decode cX10_hope 52 = .ok (.lreturn, 1) := by decide +kernel
theorem dX10_hope_53 : decode cX10_hope 53 = .ok (.aload_n 0, 1) := by decide +kernel
theorem dX10_hope_54 : decode cX10_hope 54 = .ok (.getfield 67, 3) := by decide +kernel
theorem dX10_hope_57 : decode cX10_hope 57 = .ok (.aload_n 0, 1) := by decide +kernel
theorem dX10_hope_58 : decode cX10_hope 58 = .ok (.getfield 97, 3) := by decide +kernel
theorem dX10_hope_61 : decode cX10_hope 61 = .ok (.iload_n 1, 1) := by decide +kernel
theorem dX10_hope_62 : decode cX10_hope 62 = .ok (.invokevirtual 306, 3) := by decide +kernel
theorem dX10_hope_65 : decode cX10_hope 65 = .ok (.istore_n 3, 1) := by decide +kernel
theorem dX10_hope_66 : decode cX10_hope 66 = .ok (.aload_n 0, 1) := by decide +kernel
theorem dX10_hope_67 : decode cX10_hope 67 = .ok (.getfield 67, 3) := by decide +kernel
theorem dX10_hope_70 : decode cX10_hope 70 = .ok (.iload_n 1, 1) := by decide +kernel
theorem dX10_hope_71 : decode cX10_hope 71 = .ok (.invokevirtual 310, 3) := by decide +kernel
theorem dX10_hope_74 : decode cX10_hope 74 = .ok (.istore 4, 2) := by decide +kernel
theorem dX10_hope_76 : decode cX10_hope 76 = .ok (.iload_n 3, 1) := by decide +kernel
theorem dX10_hope_77 : decode cX10_hope 77 = .ok (.iload 4, 2) := by decide +kernel
theorem dX10_hope_79 : decode cX10_hope 79 = .ok (.invokestatic 313, 3) := by decide +kernel
theorem dX10_hope_82 : decode cX10_hope 82 = .ok (.istore 5, 2) := by decide +kernel
theorem dX10_hope_84 : decode cX10_hope 84 = .ok (.aload_n 0, 1) := by decide +kernel
theorem dX10_hope_85 : decode cX10_hope 85 = .ok (.iload 5, 2) := by decide +kernel
theorem dX10_hope_87 : decode cX10_hope 87 = .ok (.iconst 1, 1) := by decide +kernel
theorem dX10_hope_88 : decode cX10_hope 88 = .ok (.if_icmp .ge 7, 3) := by decide +kernel
theorem dX10_hope_91 : decode cX10_hope 91 = .ok (.iconst (-1), 1) := by decide +kernel
theorem dX10_hope_92 : decode cX10_hope 92 = .ok (.goto 16, 3) := by decide +kernel
theorem dX10_hope_95 : decode cX10_hope 95 = .ok (.iload_n 2, 1) := by decide +kernel
theorem dX10_hope_96 : decode cX10_hope 96 = .ok (.ifCond .eq 8, 3) := by decide +kernel
theorem dX10_hope_99 : decode cX10_hope 99 = .ok (.iload 4, 2) := by decide +kernel
theorem dX10_hope_101 : decode cX10_hope 101 = .ok (.goto 4, 3) := by decide +kernel
theorem dX10_hope_104 : decode cX10_hope 104 = .ok (.iload_n 3, 1) := by decide +kernel
theorem dX10_hope_105 : decode cX10_hope 105 = .ok (.iload 5, 2) := by decide +kernel
theorem dX10_hope_107 : decode cX10_hope 107 = .ok (.idiv, 1) := by decide +kernel
theorem dX10_hope_108 : decode cX10_hope 108 = .ok (.invokevirtual 140, 3) := by decide +kernel
theorem dX10_hope_111 : decode cX10_hope 111 = .ok (.i2l, 1) := by decide +kernel
theorem dX10_hope_112 : decode cX10_hope 112 = .ok (.lreturn, 1) := by decide +kernel
theorem dX10_game_0 : decode cX10_game 0 = .ok (.aload_n 0, 1) := by decide +kernel
theorem dX10_game_1 : decode cX10_game 1 = .ok (.getfield 25, 3) := by decide +kernel
theorem dX10_game_4 : decode cX10_game 4 = .ok (.invokevirtual 186, 3) := by decide +kernel
theorem dX10_game_7 : decode cX10_game 7 = .ok (.ifCond .eq 14, 3) := by decide +kernel
theorem dX10_game_10 : decode cX10_game 10 = .ok (.aload_n 0, 1) := by decide +kernel
theorem dX10_game_11 : decode cX10_game 11 = .ok (.aload_n 0, 1) := by decide +kernel
theorem dX10_game_12 : decode cX10_game 12 = .ok (.invokevirtual 316, 3) := by decide +kernel
theorem dX10_game_15 : decode cX10_game 15 = .ok (.invokevirtual 140, 3) := by decide +kernel
theorem dX10_game_18 : decode cX10_game 18 = .ok (.goto 8, 3) := by decide +kernel
theorem dX10_game_21 : decode cX10_game 21 = .ok (.aload_n 0, 1) := by decide +kernel
theorem dX10_game_22 : decode cX10_game 22 = .ok (.iconst 1, 1) := by decide +kernel
theorem dX10_game_23 : decode cX10_game 23 = .ok (.invokevirtual 116, 3) := by decide +kernel
theorem dX10_game_26 : decode cX10_game 26 = .ok (.ireturn, 1) := by decide +kernel
theorem dX10_move_0 : decode cX10_move 0 = .ok (.aload_n 0, 1) := by decide +kernel
theorem dX10_move_1 : decode cX10_move 1 = .ok (.getfield 25, 3) := by decide +kernel
theorem dX10_move_4 : decode cX10_move 4 = .ok (.invokevirtual 186, 3) := by decide +kernel
theorem dX10_move_7 : decode cX10_move 7 = .ok (.ifCond .ne 9, 3) := by decide +kernel
theorem dX10_move_10 : decode cX10_move 10 = .ok (.aload_n 0, 1) := by decide +kernel
theorem dX10_move_11 : decode cX10_move 11 = .ok (.iconst 1, 1) := by decide +kernel
theorem dX10_move_12 : decode cX10_move 12 = .ok (.invokevirtual 116, 3) := by decide +kernel
theorem dX10_move_15 : decode cX10_move 15 = .ok (.ireturn, 1) := by decide +kernel
theorem dX10_move_16 : decode cX10_move 16 = .ok (.aload_n 0, 1) := by decide +kernel
theorem dX10_move_17 : decode cX10_move 17 = .ok (.invokevirtual 316, 3) := by decide +kernel
theorem dX10_move_20 : decode cX10_move 20 = .ok (.istore_n 1, 1) := by decide +kernel
theorem dX10_move_21 : decode cX10_move 21 = .ok (.iconst 0, 1) := by decide +kernel
theorem dX10_move_22 : decode cX10_move 22 = .ok (.istore_n 2, 1) := by decide +kernel
theorem dX10_move_23 : decode cX10_move 23 = .ok (.iload_n 2, 1) := by decide +kernel
theorem dX10_move_24 : decode cX10_move 24 = .ok (.aload_n 0, 1) := by decide +kernel
theorem dX10_move_25 : decode cX10_move 25 = .ok (.getfield 25, 3) := by decide +kernel
theorem dX10_move_28 : decode cX10_move 28 = .ok (.getfield 203, 3) := by decide +kernel
theorem dX10_move_31 : decode cX10_move 31 = .ok (.if_icmp .ge 90, 3) := by decide +kernel
theorem dX10_move_34 : decode cX10_move 34 = .ok (.aload_n 0, 1) := by decide +kernel
theorem dX10_move_35 : decode cX10_move 35 = .ok (.getfield 97, 3) := by decide +kernel
theorem dX10_move_38 : decode cX10_move 38 = .ok (.iload_n 2, 1) := by decide +kernel
theorem dX10_move_39 : decode cX10_move 39 = .ok (.invokevirtual 250, 3) := by decide +kernel
theorem dX10_move_42 : decode cX10_move 42 = .ok (.istore_n 3, 1) := by decide +kernel
theorem dX10_move_43 : decode cX10_move 43 = .ok (.iload_n 1, 1) := by decide +kernel
theorem dX10_move_44 : decode cX10_move 44 = .ok (.aload_n 0, 1) := by decide +kernel
theorem dX10_move_45 : decode cX10_move 45 = .ok (.getfield 31, 3) := by decide +kernel
theorem dX10_move_48 : decode cX10_move 48 = .ok (.iload_n 3, 1) := by decide +kernel
theorem dX10_move_49 : decode cX10_move 49 = .ok (.invokevirtual 190, 3) := by decide +kernel
theorem dX10_move_52 : decode cX10_move 52 = .ok (.ixor, 1) := by decide +kernel
theorem dX10_move_53 : decode cX10_move 53 = .ok (.istore 4, 2) := by decide +kernel
theorem dX10_move_55 : decode cX10_move 55 = .ok (.iconst 0, 1) := by decide +kernel
theorem dX10_move_56 : decode cX10_move 56 = .ok (.istore 5, 2) := by decide +kernel
theorem dX10_move_58 : decode cX10_move 58 = .ok (.iload 5, 2) := by decide +kernel
theorem dX10_move_60 : decode cX10_move 60 = .ok (.aload_n 0, 1) := by decide +kernel
theorem dX10_move_61 : decode cX10_move 61 = .ok (.getfield 31, 3) := by decide +kernel
theorem dX10_move_64 : decode cX10_move 64 = .ok (.iload_n 3, 1) := by decide +kernel
theorem dX10_move_65 : decode cX10_move 65 = .ok (.invokevirtual 319, 3) := by decide +kernel
theorem dX10_move_68 : decode cX10_move 68 = .ok (.if_icmp .ge 47, 3) := by decide +kernel
theorem dX10_move_71 : decode cX10_move 71 = .ok (.aload_n 0, 1) := by decide +kernel
theorem dX10_move_72 : decode cX10_move 72 = .ok (.getfield 31, 3) := by decide +kernel
theorem dX10_move_75 : decode cX10_move 75 = .ok (.iload_n 3, 1) := by decide +kernel
theorem dX10_move_76 : decode cX10_move 76 = .ok (.iload 5, 2) := by decide +kernel
theorem dX10_move_78 : decode cX10_move 78 = .ok (.invokevirtual 322, 3) := by decide +kernel
theorem dX10_move_81 : decode cX10_move 81 = .ok (.istore 6, 2) := by decide +kernel
theorem dX10_move_83 : decode cX10_move 83 = .ok (.aload_n 0, 1) := by decide +kernel
theorem dX10_move_84 : decode cX10_move 84 = .ok (.getfield 31, 3) := by decide +kernel
theorem dX10_move_87 : decode cX10_move 87 = .ok (.iload 6, 2) := by decide +kernel
theorem dX10_move_89 : decode cX10_move 89 = .ok (.invokevirtual 190, 3) := by decide +kernel
theorem dX10_move_92 : decode cX10_move 92 = .ok (.iload 4, 2) := by decide +kernel
theorem dX10_move_94 : decode cX10_move 94 = .ok (.if_icmp .ne 15, 3) := by decide +kernel
theorem dX10_move_97 : decode cX10_move 97 = .ok (.aload_n 0, 1) := by decide +kernel
theorem dX10_move_98 : decode cX10_move 98 = .ok (.bipush 24, 2) := by decide +kernel
theorem dX10_move_100 : decode cX10_move 100 = .ok (.iload_n 2, 1) := by decide +kernel
theorem dX10_move_101 : decode cX10_move 101 = .ok (.imul, 1) := by decide +kernel
theorem dX10_move_102 : decode cX10_move 102 = .ok (.iload 6, 2) := by decide +kernel
theorem dX10_move_104 : decode cX10_move 104 = .ok (.iadd, 1) := by decide +kernel
theorem dX10_move_105 : decode cX10_move 105 = .ok (.invokevirtual 140, 3) := by decide +kernel
theorem dX10_move_108 : decode cX10_move 108 = .ok (.ireturn, 1) := by decide +kernel
theorem dX10_move_109 : decode cX10_move 109 = .ok (.iinc 5 1, 3) := by decide +kernel
theorem dX10_move_112 : decode cX10_move 112 = .ok (.goto (-54), 3) := by decide +kernel
theorem dX10_move_115 : decode cX10_move 115 = .ok (.iinc 2 1, 3) := by decide +kernel
theorem dX10_move_118 : decode cX10_move 118 = .ok (.goto (-95), 3) := by decide +kernel
theorem dX10_move_121 : decode cX10_move 121 = .ok (.aload_n 0, 1) := by decide +kernel
theorem dX10_move_122 : decode cX10_move 122 = .ok (.bipush (-2), 2) := by decide +kernel
theorem dX10_move_124 : decode cX10_move 124 = .ok (.invokevirtual 140, 3) := by decide +kernel
theorem dX10_move_127 : decode cX10_move 127 = .ok (.ireturn, 1) := by decide +kernel
theorem dX10_mark_0 : decode cX10_mark 0 = .ok (.aload_n 0, 1) := by decide +kernel
theorem dX10_mark_1 : decode cX10_mark 1 = .ok (.getfield 25, 3) := by decide +kernel
theorem dX10_mark_4 : decode cX10_mark 4 = .ok (.invokevirtual 186, 3) := by decide +kernel
theorem dX10_mark_7 : decode cX10_mark 7 = .ok (.ifCond .ne 9, 3) := by decide +kernel
theorem dX10_mark_10 : decode cX10_mark 10 = .ok (.aload_n 0, 1) := by decide +kernel
theorem dX10_mark_11 : decode cX10_mark 11 = .ok (.iconst 1, 1) := by decide +kernel
theorem dX10_mark_12 : decode cX10_mark 12 = .ok (.invokevirtual 116, 3) := by decide +kernel
theorem dX10_mark_15 : decode cX10_mark 15 = .ok (.ireturn, 1) := by decide +kernel
theorem dX10_mark_16 : decode cX10_mark 16 = .ok (.aload_n 0, 1) := by decide +kernel
theorem dX10_mark_17 : decode cX10_mark 17 = .ok (.getfield 325, 3) := by decide +kernel
theorem dX10_mark_20 : decode cX10_mark 20 = .ok (.ifCond .lt 11, 3) := by decide +kernel
theorem dX10_mark_23 : decode cX10_mark 23 = .ok (.aload_n 0, 1) := by decide +kernel
theorem dX10_mark_24 : decode cX10_mark 24 = .ok (.getfield 325, 3) := by decide +kernel
theorem dX10_mark_27 : decode cX10_mark 27 = .ok (.iconst 3, 1) := by decide +kernel
theorem dX10_mark_28 : decode cX10_mark 28 = .ok (.if_icmp .lt 9, 3) := by decide +kernel
theorem dX10_mark_31 : decode cX10_mark 31 = .ok (.aload_n 0, 1) := by decide +kernel
theorem dX10_mark_32 : decode cX10_mark 32 = .ok (.iconst 3, 1) := by decide +kernel
theorem dX10_mark_33 : decode cX10_mark 33 = .ok (.invokevirtual 116, 3) := by decide +kernel
theorem dX10_mark_36 : decode cX10_mark 36 = .ok (.ireturn, 1) := by decide +kernel
theorem dX10_mark_37 : decode cX10_mark 37 = .ok (.aload_n 0, 1) := by decide +kernel
theorem dX10_mark_38 : decode cX10_mark 38 = .ok (.getfield 104, 3) := by decide +kernel
theorem dX10_mark_41 : decode cX10_mark 41 = .ok (.aload_n 0, 1) := by decide +kernel
theorem dX10_mark_42 : decode cX10_mark 42 = .ok (.getfield 325, 3) := by decide +kernel
theorem dX10_mark_45 : decode cX10_mark 45 = .ok (.aaload, 1) := by decide +kernel
theorem dX10_mark_46 : decode cX10_mark 46 = .ok (.aload_n 0, 1) := by decide +kernel
theorem dX10_mark_47 : decode cX10_mark 47 = .ok (.getfield 97, 3) := by decide +kernel
theorem dX10_mark_50 : decode cX10_mark 50 = .ok (.invokevirtual 328, 3) := by decide +kernel
theorem dX10_mark_53 : decode cX10_mark 53 = .ok (.aload_n 0, 1) := by decide +kernel
theorem dX10_mark_54 : decode cX10_mark 54 = .ok (.dup, 1) := by decide +kernel
theorem dX10_mark_55 : decode cX10_mark 55 = .ok (.getfield 325, 3) := by decide +kernel
theorem dX10_mark_58 : decode cX10_mark 58 = .ok (.iconst 1, 1) := by decide +kernel
theorem dX10_mark_59 : decode cX10_mark 59 = .ok (.iadd, 1) := by decide +kernel
theorem dX10_mark_60 : decode cX10_mark 60 = .ok (.putfield 325, 3) := by decide +kernel
theorem dX10_mark_63 : decode cX10_mark 63 = .ok (.aload_n 0, 1) := by decide +kernel
theorem dX10_mark_64 : decode cX10_mark 64 = .ok (.aload_n 0, 1) := by decide +kernel
theorem dX10_mark_65 : decode cX10_mark 65 = .ok (.getfield 325, 3) := by decide +kernel
theorem dX10_mark_68 : decode cX10_mark 68 = .ok (.iconst 1, 1) := by decide +kernel
theorem dX10_mark_69 : decode cX10_mark 69 = .ok (.isub, 1) := by decide +kernel
theorem dX10_mark_70 : decode cX10_mark 70 = .ok (.invokevirtual 140, 3) := by decide +kernel
theorem dX10_mark_73 : decode cX10_mark 73 = .ok (.ireturn, 1) := by decide +kernel
theorem dX10_back_0 : decode cX10_back 0 = .ok (.iload_n 1, 1) := by decide +kernel
theorem dX10_back_1 : decode cX10_back 1 = .ok (.ifCond .lt 16, 3) := by decide +kernel
theorem dX10_back_4 : decode cX10_back 4 = .ok (.iload_n 1, 1) := by decide +kernel
theorem dX10_back_5 : decode cX10_back 5 = .ok (.aload_n 0, 1) := by decide +kernel
theorem dX10_back_6 : decode cX10_back 6 = .ok (.getfield 325, 3) := by decide +kernel
theorem dX10_back_9 : decode cX10_back 9 = .ok (.if_icmp .ge 8, 3) := by decide +kernel
theorem dX10_back_12 : decode cX10_back 12 = .ok (.iload_n 1, 1) := by decide +kernel
theorem dX10_back_13 : decode cX10_back 13 = .ok (.iconst 3, 1) := by decide +kernel
theorem dX10_back_14 : decode cX10_back 14 = .ok (.if_icmp .lt 9, 3) := by decide +kernel
theorem dX10_back_17 : decode cX10_back 17 = .ok (.aload_n 0, 1) := by decide +kernel
theorem dX10_back_18 : decode cX10_back 18 = .ok (.iconst 1, 1) := by decide +kernel
theorem dX10_back_19 : decode cX10_back 19 = .ok (.invokevirtual 237, 3) := by decide +kernel
theorem dX10_back_22 : decode cX10_back 22 = .ok (.ireturn, 1) := by decide +kernel
theorem dX10_back_23 : decode cX10_back 23 = .ok (.aload_n 0, 1) := by decide +kernel
theorem dX10_back_24 : decode cX10_back 24 = .ok (.getfield 97, 3) := by decide +kernel
theorem dX10_back_27 : decode cX10_back 27 = .ok (.aload_n 0, 1) := by decide +kernel
theorem dX10_back_28 : decode cX10_back 28 = .ok (.getfield 104, 3) := by decide +kernel
theorem dX10_back_31 : decode cX10_back 31 = .ok (.iload_n 1, 1) := by decide +kernel
theorem dX10_back_32 : decode cX10_back 32 = .ok (.aaload, 1) := by decide +kernel
theorem dX10_back_33 : decode cX10_back 33 = .ok (.invokevirtual 328, 3) := by decide +kernel
theorem dX10_back_36 : decode cX10_back 36 = .ok (.aload_n 0, 1) := by decide +kernel
theorem dX10_back_37 : decode cX10_back 37 = .ok (.invokevirtual 240, 3) := by decide +kernel
theorem dX10_back_40 : decode cX10_back 40 = .ok (.ireturn, 1) := by decide +kernel
theorem dX10_wrong_0 : decode cX10_wrong 0 = .ok (.aload_n 0, 1) := by decide +kernel
theorem dX10_wrong_1 : decode cX10_wrong 1 = .ok (.getfield 25, 3) := by decide +kernel
theorem dX10_wrong_4 : decode cX10_wrong 4 = .ok (.invokevirtual 186, 3) := by decide +kernel
theorem dX10_wrong_7 : decode cX10_wrong 7 = .ok (.ifCond .ne 9, 3) := by decide +kernel
theorem dX10_wrong_10 : decode cX10_wrong 10 = .ok (.aload_n 0, 1) := by decide +kernel
theorem dX10_wrong_11 : decode cX10_wrong 11 = .ok (.iconst 1, 1) := by decide +kernel
theorem dX10_wrong_12 : decode cX10_wrong 12 = .ok (.invokevirtual 116, 3) := by decide +kernel
theorem dX10_wrong_15 : decode cX10_wrong 15 = .ok (.ireturn, 1) := by decide +kernel
theorem dX10_wrong_16 : decode cX10_wrong 16 = .ok (.aload_n 0, 1) := by decide +kernel
theorem dX10_wrong_17 : decode cX10_wrong 17 = .ok (.getfield 25, 3) := by decide +kernel
theorem dX10_wrong_20 : decode cX10_wrong 20 = .ok (.getfield 330, 3) := by decide +kernel
theorem dX10_wrong_23 : decode cX10_wrong 23 = .ok (.iconst 1, 1) := by decide +kernel
theorem dX10_wrong_24 : decode cX10_wrong 24 = .ok (.if_icmp .ge 10, 3) := by decide +kernel
theorem dX10_wrong_27 : decode cX10_wrong 27 = .ok (.aload_n 0, 1) := by decide +kernel
theorem dX10_wrong_28 : decode cX10_wrong 28 = .ok (.bipush 6, 2) := by decide +kernel
theorem dX10_wrong_30 : decode cX10_wrong 30 = .ok (.invokevirtual 116, 3) := by decide +kernel
theorem dX10_wrong_33 : decode cX10_wrong 33 = .ok (.ireturn, 1) := by decide +kernel
theorem dX10_wrong_34 : decode cX10_wrong 34 = .ok (.aload_n 0, 1) := by decide +kernel
theorem dX10_wrong_35 : decode cX10_wrong 35 = .ok (.aload_n 0, 1) := by decide +kernel
theorem dX10_wrong_36 : decode cX10_wrong 36 = .ok (.getfield 90, 3) := by decide +kernel
theorem dX10_wrong_39 : decode cX10_wrong 39 = .ok (.invokevirtual 333, 3) := by decide +kernel
theorem dX10_wrong_42 : decode cX10_wrong 42 = .ok (.invokevirtual 140, 3) := by decide +kernel
theorem dX10_wrong_45 : decode cX10_wrong 45 = .ok (.ireturn, 1) := by decide +kernel
theorem dX10_ways_0 : decode cX10_ways 0 = .ok (.aload_n 0, 1) := by decide +kernel
theorem dX10_ways_1 : decode cX10_ways 1 = .ok (.getfield 25, 3) := by decide +kernel
theorem dX10_ways_4 : decode cX10_ways 4 = .ok (.invokevirtual 186, 3) := by decide +kernel
theorem dX10_ways_7 : decode cX10_ways 7 = .ok (.ifCond .ne 9, 3) := by decide +kernel
theorem dX10_ways_10 : decode cX10_ways 10 = .ok (.aload_n 0, 1) := by decide +kernel
theorem dX10_ways_11 : decode cX10_ways 11 = .ok (.iconst 1, 1) := by decide +kernel
theorem dX10_ways_12 : decode cX10_ways 12 = .ok (.invokevirtual 116, 3) := by decide +kernel
theorem dX10_ways_15 : decode cX10_ways 15 = .ok (.ireturn, 1) := by decide +kernel
theorem dX10_ways_16 : decode cX10_ways 16 = .ok (.aload_n 0, 1) := by decide +kernel
theorem dX10_ways_17 : decode cX10_ways 17 = .ok (.getfield 25, 3) := by decide +kernel
theorem dX10_ways_20 : decode cX10_ways 20 = .ok (.getfield 330, 3) := by decide +kernel
theorem dX10_ways_23 : decode cX10_ways 23 = .ok (.iconst 1, 1) := by decide +kernel
theorem dX10_ways_24 : decode cX10_ways 24 = .ok (.if_icmp .ge 10, 3) := by decide +kernel
theorem dX10_ways_27 : decode cX10_ways 27 = .ok (.aload_n 0, 1) := by decide +kernel
theorem dX10_ways_28 : decode cX10_ways 28 = .ok (.bipush 6, 2) := by decide +kernel
theorem dX10_ways_30 : decode cX10_ways 30 = .ok (.invokevirtual 116, 3) := by decide +kernel
theorem dX10_ways_33 : decode cX10_ways 33 = .ok (.ireturn, 1) := by decide +kernel
theorem dX10_ways_34 : decode cX10_ways 34 = .ok (.aload_n 0, 1) := by decide +kernel
theorem dX10_ways_35 : decode cX10_ways 35 = .ok (.aload_n 0, 1) := by decide +kernel
theorem dX10_ways_36 : decode cX10_ways 36 = .ok (.getfield 90, 3) := by decide +kernel
theorem dX10_ways_39 : decode cX10_ways 39 = .ok (.iconst (-1), 1) := by decide +kernel
theorem dX10_ways_40 : decode cX10_ways 40 = .ok (.invokevirtual 336, 3) := by decide +kernel
theorem dX10_ways_43 : decode cX10_ways 43 = .ok (.invokevirtual 140, 3) := by decide +kernel
theorem dX10_ways_46 : decode cX10_ways 46 = .ok (.ireturn, 1) := by decide +kernel
theorem dX10_waysOf_0 : decode cX10_waysOf 0 = .ok (.aload_n 0, 1) := by decide +kernel
theorem dX10_waysOf_1 : decode cX10_waysOf 1 = .ok (.getfield 25, 3) := by decide +kernel
theorem dX10_waysOf_4 : decode cX10_waysOf 4 = .ok (.iload_n 1, 1) := by decide +kernel
theorem dX10_waysOf_5 : decode cX10_waysOf 5 = .ok (.invokevirtual 339, 3) := by decide +kernel
theorem dX10_waysOf_8 : decode cX10_waysOf 8 = .ok (.ifCond .ne 9, 3) := by decide +kernel
theorem dX10_waysOf_11 : decode cX10_waysOf 11 = .ok (.aload_n 0, 1) := by decide +kernel
theorem dX10_waysOf_12 : decode cX10_waysOf 12 = .ok (.iconst 1, 1) := by decide +kernel
theorem dX10_waysOf_13 : decode cX10_waysOf 13 = .ok (.invokevirtual 116, 3) := by decide +kernel
theorem dX10_waysOf_16 : decode cX10_waysOf 16 = .ok (.ireturn, 1) := by decide +kernel
theorem dX10_waysOf_17 : decode cX10_waysOf 17 = .ok (.aload_n 0, 1) := by decide +kernel
theorem dX10_waysOf_18 : decode cX10_waysOf 18 = .ok (.getfield 25, 3) := by decide +kernel
theorem dX10_waysOf_21 : decode cX10_waysOf 21 = .ok (.getfield 330, 3) := by decide +kernel
theorem dX10_waysOf_24 : decode cX10_waysOf 24 = .ok (.iconst 1, 1) := by decide +kernel
theorem dX10_waysOf_25 : decode cX10_waysOf 25 = .ok (.if_icmp .ge 10, 3) := by decide +kernel
theorem dX10_waysOf_28 : decode cX10_waysOf 28 = .ok (.aload_n 0, 1) := by decide +kernel
theorem dX10_waysOf_29 : decode cX10_waysOf 29 = .ok (.bipush 6, 2) := by decide +kernel
theorem dX10_waysOf_31 : decode cX10_waysOf 31 = .ok (.invokevirtual 116, 3) := by decide +kernel
theorem dX10_waysOf_34 : decode cX10_waysOf 34 = .ok (.ireturn, 1) := by decide +kernel
theorem dX10_waysOf_35 : decode cX10_waysOf 35 = .ok (.aload_n 0, 1) := by decide +kernel
theorem dX10_waysOf_36 : decode cX10_waysOf 36 = .ok (.aload_n 0, 1) := by decide +kernel
theorem dX10_waysOf_37 : decode cX10_waysOf 37 = .ok (.getfield 90, 3) := by decide +kernel
theorem dX10_waysOf_40 : decode cX10_waysOf 40 = .ok (.iload_n 1, 1) := by decide +kernel
theorem dX10_waysOf_41 : decode cX10_waysOf 41 = .ok (.invokevirtual 336, 3) := by decide +kernel
theorem dX10_waysOf_44 : decode cX10_waysOf 44 = .ok (.invokevirtual 140, 3) := by decide +kernel
theorem dX10_waysOf_47 : decode cX10_waysOf 47 = .ok (.ireturn, 1) := by decide +kernel
theorem dX10_rename_0 : decode cX10_rename 0 = .ok (.aload_n 0, 1) := by decide +kernel
theorem dX10_rename_1 : decode cX10_rename 1 = .ok (.getfield 25, 3) := by decide +kernel
theorem dX10_rename_4 : decode cX10_rename 4 = .ok (.iload_n 1, 1) := by decide +kernel
theorem dX10_rename_5 : decode cX10_rename 5 = .ok (.invokevirtual 339, 3) := by decide +kernel
theorem dX10_rename_8 : decode cX10_rename 8 = .ok (.ifCond .ne 9, 3) := by decide +kernel
theorem dX10_rename_11 : decode cX10_rename 11 = .ok (.aload_n 0, 1) := by decide +kernel
theorem dX10_rename_12 : decode cX10_rename 12 = .ok (.iconst 1, 1) := by decide +kernel
theorem dX10_rename_13 : decode cX10_rename 13 = .ok (.invokevirtual 237, 3) := by decide +kernel
theorem dX10_rename_16 : decode cX10_rename 16 = .ok (.ireturn, 1) := by decide +kernel
theorem dX10_rename_17 : decode cX10_rename 17 = .ok (.iload_n 2, 1) := by decide +kernel
theorem dX10_rename_18 : decode cX10_rename 18 = .ok (.ifCond .lt 9, 3) := by decide +kernel
theorem dX10_rename_21 : decode cX10_rename 21 = .ok (.iload_n 2, 1) := by decide +kernel
theorem dX10_rename_22 : decode cX10_rename 22 = .ok (.bipush 26, 2) := by decide +kernel
theorem dX10_rename_24 : decode cX10_rename 24 = .ok (.if_icmp .lt 9, 3) := by decide +kernel
theorem dX10_rename_27 : decode cX10_rename 27 = .ok (.aload_n 0, 1) := by decide +kernel
theorem dX10_rename_28 : decode cX10_rename 28 = .ok (.iconst 2, 1) := by decide +kernel
theorem dX10_rename_29 : decode cX10_rename 29 = .ok (.invokevirtual 237, 3) := by decide +kernel
theorem dX10_rename_32 : decode cX10_rename 32 = .ok (.ireturn, 1) := by decide +kernel
theorem dX10_rename_33 : decode cX10_rename 33 = .ok (.aload_n 0, 1) := by decide +kernel
theorem dX10_rename_34 : decode cX10_rename 34 = .ok (.getfield 25, 3) := by decide +kernel
theorem dX10_rename_37 : decode cX10_rename 37 = .ok (.iload_n 1, 1) := by decide +kernel
theorem dX10_rename_38 : decode cX10_rename 38 = .ok (.invokevirtual 253, 3) := by decide +kernel
theorem dX10_rename_41 : decode cX10_rename 41 = .ok (.iload_n 2, 1) := by decide +kernel
theorem dX10_rename_42 : decode cX10_rename 42 = .ok (.if_icmp .ne 9, 3) := by decide +kernel
theorem dX10_rename_45 : decode cX10_rename 45 = .ok (.aload_n 0, 1) := by decide +kernel
theorem dX10_rename_46 : decode cX10_rename 46 = .ok (.iconst 5, 1) := by decide +kernel
theorem dX10_rename_47 : decode cX10_rename 47 = .ok (.invokevirtual 237, 3) := by decide +kernel
theorem dX10_rename_50 : decode cX10_rename 50 = .ok (.ireturn, 1) := by decide +kernel
theorem dX10_rename_51 : decode cX10_rename 51 = .ok (.aload_n 0, 1) := by decide +kernel
theorem dX10_rename_52 : decode cX10_rename 52 = .ok (.getfield 25, 3) := by decide +kernel
theorem dX10_rename_55 : decode cX10_rename 55 = .ok (.iload_n 1, 1) := by decide +kernel
theorem dX10_rename_56 : decode cX10_rename 56 = .ok (.iload_n 2, 1) := by decide +kernel
theorem dX10_rename_57 : decode cX10_rename 57 = .ok (.invokevirtual 342, 3) := by decide +kernel
theorem dX10_rename_60 : decode cX10_rename 60 = .ok (.aload_n 0, 1) := by decide +kernel
theorem dX10_rename_61 : decode cX10_rename 61 = .ok (.getfield 97, 3) := by decide +kernel
theorem dX10_rename_64 : decode cX10_rename 64 = .ok (.aload_n 0, 1) := by decide +kernel
theorem dX10_rename_65 : decode cX10_rename 65 = .ok (.getfield 97, 3) := by decide +kernel
theorem dX10_rename_68 : decode cX10_rename 68 = .ok (.getfield 345, 3) := by decide +kernel
theorem dX10_rename_71 : decode cX10_rename 71 = .ok (.invokevirtual 130, 3) := by decide +kernel
theorem dX10_rename_74 : decode cX10_rename 74 = .ok (.aload_n 0, 1) := by decide +kernel
theorem dX10_rename_75 : decode cX10_rename 75 = .ok (.invokevirtual 134, 3) := by decide +kernel
theorem dX10_rename_78 : decode cX10_rename 78 = .ok (.aload_n 0, 1) := by decide +kernel
theorem dX10_rename_79 : decode cX10_rename 79 = .ok (.invokevirtual 240, 3) := by decide +kernel
theorem dX10_rename_82 : decode cX10_rename 82 = .ok (.ireturn, 1) := by decide +kernel
theorem dX10_bar_0 : decode cX10_bar 0 = .ok (.aload_n 0, 1) := by decide +kernel
theorem dX10_bar_1 : decode cX10_bar 1 = .ok (.getfield 25, 3) := by decide +kernel
theorem dX10_bar_4 : decode cX10_bar 4 = .ok (.iload_n 1, 1) := by decide +kernel
theorem dX10_bar_5 : decode cX10_bar 5 = .ok (.invokevirtual 152, 3) := by decide +kernel
theorem dX10_bar_8 : decode cX10_bar 8 = .ok (.ifCond .ne 9, 3) := by decide +kernel
theorem dX10_bar_11 : decode cX10_bar 11 = .ok (.aload_n 0, 1) := by decide +kernel
theorem dX10_bar_12 : decode cX10_bar 12 = .ok (.iconst 1, 1) := by decide +kernel
theorem dX10_bar_13 : decode cX10_bar 13 = .ok (.invokevirtual 237, 3) := by decide +kernel
theorem dX10_bar_16 : decode cX10_bar 16 = .ok (.ireturn, 1) := by decide +kernel
theorem dX10_bar_17 : decode cX10_bar 17 = .ok (.aload_n 0, 1) := by decide +kernel
theorem dX10_bar_18 : decode cX10_bar 18 = .ok (.getfield 25, 3) := by decide +kernel
theorem dX10_bar_21 : decode cX10_bar 21 = .ok (.iload_n 1, 1) := by decide +kernel
theorem dX10_bar_22 : decode cX10_bar 22 = .ok (.invokevirtual 161, 3) := by decide +kernel
theorem dX10_bar_25 : decode cX10_bar 25 = .ok (.iload_n 2, 1) := by decide +kernel
theorem dX10_bar_26 : decode cX10_bar 26 = .ok (.if_icmp .ne 9, 3) := by decide +kernel
theorem dX10_bar_29 : decode cX10_bar 29 = .ok (.aload_n 0, 1) := by decide +kernel
theorem dX10_bar_30 : decode cX10_bar 30 = .ok (.iconst 5, 1) := by decide +kernel
theorem dX10_bar_31 : decode cX10_bar 31 = .ok (.invokevirtual 237, 3) := by decide +kernel
theorem dX10_bar_34 : decode cX10_bar 34 = .ok (.ireturn, 1) := by decide +kernel
theorem dX10_bar_35 : decode cX10_bar 35 = .ok (.aload_n 0, 1) := by decide +kernel
theorem dX10_bar_36 : decode cX10_bar 36 = .ok (.getfield 25, 3) := by decide +kernel
theorem dX10_bar_39 : decode cX10_bar 39 = .ok (.iload_n 1, 1) := by decide +kernel
theorem dX10_bar_40 : decode cX10_bar 40 = .ok (.iload_n 2, 1) := by decide +kernel
theorem dX10_bar_41 : decode cX10_bar 41 = .ok (.invokevirtual 348, 3) := by decide +kernel
theorem dX10_bar_44 : decode cX10_bar 44 = .ok (.aload_n 0, 1) := by decide +kernel
theorem dX10_bar_45 : decode cX10_bar 45 = .ok (.getfield 31, 3) := by decide +kernel
theorem dX10_bar_48 : decode cX10_bar 48 = .ok (.invokevirtual 352, 3) := by decide +kernel
theorem dX10_bar_51 : decode cX10_bar 51 = .ok (.aload_n 0, 1) := by decide +kernel
theorem dX10_bar_52 : decode cX10_bar 52 = .ok (.getfield 97, 3) := by decide +kernel
theorem dX10_bar_55 : decode cX10_bar 55 = .ok (.aload_n 0, 1) := by decide +kernel
theorem dX10_bar_56 : decode cX10_bar 56 = .ok (.getfield 97, 3) := by decide +kernel
theorem dX10_bar_59 : decode cX10_bar 59 = .ok (.getfield 345, 3) := by decide +kernel
theorem dX10_bar_62 : decode cX10_bar 62 = .ok (.invokevirtual 130, 3) := by decide +kernel
theorem dX10_bar_65 : decode cX10_bar 65 = .ok (.aload_n 0, 1) := by decide +kernel
theorem dX10_bar_66 : decode cX10_bar 66 = .ok (.invokevirtual 134, 3) := by decide +kernel
theorem dX10_bar_69 : decode cX10_bar 69 = .ok (.aload_n 0, 1) := by decide +kernel
theorem dX10_bar_70 : decode cX10_bar 70 = .ok (.invokevirtual 240, 3) := by decide +kernel
theorem dX10_bar_73 : decode cX10_bar 73 = .ok (.ireturn, 1) := by decide +kernel
theorem dX10_guest_0 : decode cX10_guest 0 = .ok (.aload_n 0, 1) := by decide +kernel
theorem dX10_guest_1 : decode cX10_guest 1 = .ok (.getfield 25, 3) := by decide +kernel
theorem dX10_guest_4 : decode cX10_guest 4 = .ok (.iload_n 1, 1) := by decide +kernel
theorem dX10_guest_5 : decode cX10_guest 5 = .ok (.invokevirtual 339, 3) := by decide +kernel
theorem dX10_guest_8 : decode cX10_guest 8 = .ok (.ifCond .eq 18, 3) := by decide +kernel
theorem dX10_guest_11 : decode cX10_guest 11 = .ok (.aload_n 0, 1) := by decide +kernel
theorem dX10_guest_12 : decode cX10_guest 12 = .ok (.aload_n 0, 1) := by decide +kernel
theorem dX10_guest_13 : decode cX10_guest 13 = .ok (.getfield 25, 3) := by decide +kernel
theorem dX10_guest_16 : decode cX10_guest 16 = .ok (.iload_n 1, 1) := by decide +kernel
theorem dX10_guest_17 : decode cX10_guest 17 = .ok (.invokevirtual 253, 3) := by decide +kernel
theorem dX10_guest_20 : decode cX10_guest 20 = .ok (.invokevirtual 140, 3) := by decide +kernel
theorem dX10_guest_23 : decode cX10_guest 23 = .ok (.goto 8, 3) := by decide +kernel
theorem dX10_guest_26 : decode cX10_guest 26 = .ok (.aload_n 0, 1) := by decide +kernel
theorem dX10_guest_27 : decode cX10_guest 27 = .ok (.iconst 1, 1) := by decide +kernel
theorem dX10_guest_28 : decode cX10_guest 28 = .ok (.invokevirtual 116, 3) := by decide +kernel
theorem dX10_guest_31 : decode cX10_guest 31 = .ok (.ireturn, 1) := by decide +kernel
theorem dX10_led_0 : decode cX10_led 0 = .ok (.aload_n 0, 1) := by decide +kernel
theorem dX10_led_1 : decode cX10_led 1 = .ok (.getfield 97, 3) := by decide +kernel
theorem dX10_led_4 : decode cX10_led 4 = .ok (.iload_n 1, 1) := by decide +kernel
theorem dX10_led_5 : decode cX10_led 5 = .ok (.invokevirtual 355, 3) := by decide +kernel
theorem dX10_led_8 : decode cX10_led 8 = .ok (.istore_n 2, 1) := by decide +kernel
theorem dX10_led_9 : decode cX10_led 9 = .ok (.iload_n 2, 1) := by decide +kernel
theorem dX10_led_10 : decode cX10_led 10 = .ok (.ifCond .ge 11, 3) := by decide +kernel
theorem dX10_led_13 : decode cX10_led 13 = .ok (.new 358, 3) := by decide +kernel
theorem dX10_led_16 : decode cX10_led 16 = .ok (.dup, 1) := by decide +kernel
theorem dX10_led_17 : decode cX10_led 17 = .ok (.invokespecial 360, 3) := by decide +kernel
theorem dX10_led_20 : decode cX10_led 20 = .ok (.athrow, 1) := by decide +kernel
theorem dX10_led_21 : decode cX10_led 21 = .ok (.iload_n 2, 1) := by decide +kernel
theorem dX10_led_22 : decode cX10_led 22 = .ok (.ireturn, 1) := by decide +kernel
theorem dX10_size_0 : decode cX10_size 0 = .ok (.iload_n 1, 1) := by decide +kernel
theorem dX10_size_1 : decode cX10_size 1 = .ok (.tableswitch 132 0 9 #[55, 63, 71, 79, 87, 95, 103, 111, 119, 124], 55) := by decide +kernel
theorem dX10_size_56 : decode cX10_size 56 = .ok (.aload_n 0, 1) := by decide +kernel
theorem dX10_size_57 : decode cX10_size 57 = .ok (.getfield 25, 3) := by decide +kernel
theorem dX10_size_60 : decode cX10_size 60 = .ok (.getfield 203, 3) := by decide +kernel
theorem dX10_size_63 : decode cX10_size 63 = .ok (.ireturn, 1) := by decide +kernel
theorem dX10_size_64 : decode cX10_size 64 = .ok (.aload_n 0, 1) := by decide +kernel
theorem dX10_size_65 : decode cX10_size 65 = .ok (.getfield 25, 3) := by decide +kernel
theorem dX10_size_68 : decode cX10_size 68 = .ok (.getfield 361, 3) := by decide +kernel
theorem dX10_size_71 : decode cX10_size 71 = .ok (.ireturn, 1) := by decide +kernel
theorem dX10_size_72 : decode cX10_size 72 = .ok (.aload_n 0, 1) := by decide +kernel
theorem dX10_size_73 : decode cX10_size 73 = .ok (.getfield 25, 3) := by decide +kernel
theorem dX10_size_76 : decode cX10_size 76 = .ok (.getfield 364, 3) := by decide +kernel
theorem dX10_size_79 : decode cX10_size 79 = .ok (.ireturn, 1) := by decide +kernel
theorem dX10_size_80 : decode cX10_size 80 = .ok (.aload_n 0, 1) := by decide +kernel
theorem dX10_size_81 : decode cX10_size 81 = .ok (.getfield 25, 3) := by decide +kernel
theorem dX10_size_84 : decode cX10_size 84 = .ok (.getfield 137, 3) := by decide +kernel
theorem dX10_size_87 : decode cX10_size 87 = .ok (.ireturn, 1) := by decide +kernel
theorem dX10_size_88 : decode cX10_size 88 = .ok (.aload_n 0, 1) := by decide +kernel
theorem dX10_size_89 : decode cX10_size 89 = .ok (.getfield 25, 3) := by decide +kernel
theorem dX10_size_92 : decode cX10_size 92 = .ok (.getfield 303, 3) := by decide +kernel
theorem dX10_size_95 : decode cX10_size 95 = .ok (.ireturn, 1) := by decide +kernel
theorem dX10_size_96 : decode cX10_size 96 = .ok (.aload_n 0, 1) := by decide +kernel
theorem dX10_size_97 : decode cX10_size 97 = .ok (.getfield 25, 3) := by decide +kernel
theorem dX10_size_100 : decode cX10_size 100 = .ok (.getfield 330, 3) := by decide +kernel
theorem dX10_size_103 : decode cX10_size 103 = .ok (.ireturn, 1) := by decide +kernel
theorem dX10_size_104 : decode cX10_size 104 = .ok (.aload_n 0, 1) := by decide +kernel
theorem dX10_size_105 : decode cX10_size 105 = .ok (.getfield 97, 3) := by decide +kernel
theorem dX10_size_108 : decode cX10_size 108 = .ok (.getfield 243, 3) := by decide +kernel
theorem dX10_size_111 : decode cX10_size 111 = .ok (.ireturn, 1) := by decide +kernel
theorem dX10_size_112 : decode cX10_size 112 = .ok (.aload_n 0, 1) := by decide +kernel
theorem dX10_size_113 : decode cX10_size 113 = .ok (.getfield 97, 3) := by decide +kernel
theorem dX10_size_116 : decode cX10_size 116 = .ok (.getfield 345, 3) := by decide +kernel
theorem dX10_size_119 : decode cX10_size 119 = .ok (.ireturn, 1) := by decide +kernel
theorem dX10_size_120 : decode cX10_size 120 = .ok (.aload_n 0, 1) := by decide +kernel
theorem dX10_size_121 : decode cX10_size 121 = .ok (.getfield 325, 3) := by decide +kernel
theorem dX10_size_124 : decode cX10_size 124 = .ok (.ireturn, 1) := by decide +kernel
theorem dX10_size_125 : decode cX10_size 125 = .ok (.aload_n 0, 1) := by decide +kernel
theorem dX10_size_126 : decode cX10_size 126 = .ok (.getfield 21, 3) := by decide +kernel
theorem dX10_size_129 : decode cX10_size 129 = .ok (.getfield 112, 3) := by decide +kernel
theorem dX10_size_132 : decode cX10_size 132 = .ok (.ireturn, 1) := by decide +kernel
theorem dX10_size_133 : decode cX10_size 133 = .ok (.iconst (-1), 1) := by decide +kernel
theorem dX10_size_134 : decode cX10_size 134 = .ok (.ireturn, 1) := by decide +kernel
theorem dX10_trouble_0 : decode cX10_trouble 0 = .ok (.aload_n 0, 1) := by decide +kernel
theorem dX10_trouble_1 : decode cX10_trouble 1 = .ok (.getfield 146, 3) := by decide +kernel
theorem dX10_trouble_4 : decode cX10_trouble 4 = .ok (.ireturn, 1) := by decide +kernel
theorem dX10_granted_0 : decode cX10_granted 0 = .ok (.aload_n 0, 1) := by decide +kernel
theorem dX10_granted_1 : decode cX10_granted 1 = .ok (.iconst 0, 1) := by decide +kernel
theorem dX10_granted_2 : decode cX10_granted 2 = .ok (.putfield 146, 3) := by decide +kernel
theorem dX10_granted_5 : decode cX10_granted 5 = .ok (.iload_n 1, 1) := by decide +kernel
theorem dX10_granted_6 : decode cX10_granted 6 = .ok (.ireturn, 1) := by decide +kernel
theorem dX10_refused_0 : decode cX10_refused 0 = .ok (.aload_n 0, 1) := by decide +kernel
theorem dX10_refused_1 : decode cX10_refused 1 = .ok (.iload_n 1, 1) := by decide +kernel
theorem dX10_refused_2 : decode cX10_refused 2 = .ok (.putfield 146, 3) := by decide +kernel
theorem dX10_refused_5 : decode cX10_refused 5 = .ok (.iconst (-1), 1) := by decide +kernel
theorem dX10_refused_6 : decode cX10_refused 6 = .ok (.ireturn, 1) := by decide +kernel
theorem dX10_allowed_0 : decode cX10_allowed 0 = .ok (.aload_n 0, 1) := by decide +kernel
theorem dX10_allowed_1 : decode cX10_allowed 1 = .ok (.iconst 0, 1) := by decide +kernel
theorem dX10_allowed_2 : decode cX10_allowed 2 = .ok (.putfield 146, 3) := by decide +kernel
theorem dX10_allowed_5 : decode cX10_allowed 5 = .ok (.iconst 1, 1) := by decide +kernel
theorem dX10_allowed_6 : decode cX10_allowed 6 = .ok (.ireturn, 1) := by decide +kernel
theorem dX10_denied_0 : decode cX10_denied 0 = .ok (.aload_n 0, 1) := by decide +kernel
theorem dX10_denied_1 : decode cX10_denied 1 = .ok (.iload_n 1, 1) := by decide +kernel
theorem dX10_denied_2 : decode cX10_denied 2 = .ok (.putfield 146, 3) := by decide +kernel
theorem dX10_denied_5 : decode cX10_denied 5 = .ok (.iconst 0, 1) := by decide +kernel
theorem dX10_denied_6 : decode cX10_denied 6 = .ok (.ireturn, 1) := by decide +kernel
theorem dX10_renew_0 : decode cX10_renew 0 = .ok (.aload_n 0, 1) := by decide +kernel
theorem dX10_renew_1 : decode cX10_renew 1 = .ok (.iconst 0, 1) := by decide +kernel
theorem dX10_renew_2 : decode cX10_renew 2 = .ok (.putfield 325, 3) := by decide +kernel
theorem dX10_renew_5 : decode cX10_renew 5 = .ok (.aload_n 0, 1) := by decide +kernel
theorem dX10_renew_6 : decode cX10_renew 6 = .ok (.getfield 47, 3) := by decide +kernel
theorem dX10_renew_9 : decode cX10_renew 9 = .ok (.iconst 0, 1) := by decide +kernel
theorem dX10_renew_10 : decode cX10_renew 10 = .ok (.putfield 270, 3) := by decide +kernel
theorem dX10_renew_13 : decode cX10_renew 13 = .ok (.aload_n 0, 1) := by decide +kernel
theorem dX10_renew_14 : decode cX10_renew 14 = .ok (.getfield 51, 3) := by decide +kernel
theorem dX10_renew_17 : decode cX10_renew 17 = .ok (.iconst 0, 1) := by decide +kernel
theorem dX10_renew_18 : decode cX10_renew 18 = .ok (.putfield 270, 3) := by decide +kernel
theorem dX10_renew_21 : decode cX10_renew 21 = .ok (.aload_n 0, 1) := by decide +kernel
theorem dX10_renew_22 : decode cX10_renew 22 = .ok (.getfield 54, 3) := by decide +kernel
theorem dX10_renew_25 : decode cX10_renew 25 = .ok (.iconst 0, 1) := by decide +kernel
theorem dX10_renew_26 : decode cX10_renew 26 = .ok (.putfield 270, 3) := by decide +kernel
theorem dX10_renew_29 : decode cX10_renew 29 = .ok (.aload_n 0, 1) := by decide +kernel
theorem dX10_renew_30 : decode cX10_renew 30 = .ok (.getfield 60, 3) := by decide +kernel
theorem dX10_renew_33 : decode cX10_renew 33 = .ok (.iconst (-1), 1) := by decide +kernel
theorem dX10_renew_34 : decode cX10_renew 34 = .ok (.invokestatic 367, 3) := by decide +kernel
theorem dX10_renew_37 : decode cX10_renew 37 = .ok (.aload_n 0, 1) := by decide +kernel
theorem dX10_renew_38 : decode cX10_renew 38 = .ok (.getfield 67, 3) := by decide +kernel
theorem dX10_renew_41 : decode cX10_renew 41 = .ok (.invokevirtual 373, 3) := by decide +kernel
theorem dX10_renew_44 : decode cX10_renew 44 = .ok (.return_, 1) := by decide +kernel
theorem dX10_bestPlan_0 : decode cX10_bestPlan 0 = .ok (.aload_n 0, 1) := by decide +kernel
theorem dX10_bestPlan_1 : decode cX10_bestPlan 1 = .ok (.getfield 47, 3) := by decide +kernel
theorem dX10_bestPlan_4 : decode cX10_bestPlan 4 = .ok (.getfield 270, 3) := by decide +kernel
theorem dX10_bestPlan_7 : decode cX10_bestPlan 7 = .ok (.ifCond .ne 28, 3) := by decide +kernel
theorem dX10_bestPlan_10 : decode cX10_bestPlan 10 = .ok (.aload_n 0, 1) := by decide +kernel
theorem dX10_bestPlan_11 : decode cX10_bestPlan 11 = .ok (.getfield 47, 3) := by decide +kernel
theorem dX10_bestPlan_14 : decode cX10_bestPlan 14 = .ok (.iconst (-1), 1) := by decide +kernel
theorem dX10_bestPlan_15 : decode cX10_bestPlan 15 = .ok (.invokevirtual 224, 3) := by decide +kernel
theorem dX10_bestPlan_18 : decode cX10_bestPlan 18 = .ok (.aload_n 0, 1) := by decide +kernel
theorem dX10_bestPlan_19 : decode cX10_bestPlan 19 = .ok (.aload_n 0, 1) := by decide +kernel
theorem dX10_bestPlan_20 : decode cX10_bestPlan 20 = .ok (.getfield 47, 3) := by decide +kernel
theorem dX10_bestPlan_23 : decode cX10_bestPlan 23 = .ok (.bipush 6, 2) := by decide +kernel
theorem dX10_bestPlan_25 : decode cX10_bestPlan 25 = .ok (.invokevirtual 227, 3) := by decide +kernel
theorem dX10_bestPlan_28 : decode cX10_bestPlan 28 = .ok (.aload_n 0, 1) := by decide +kernel
theorem dX10_bestPlan_29 : decode cX10_bestPlan 29 = .ok (.getfield 47, 3) := by decide +kernel
theorem dX10_bestPlan_32 : decode cX10_bestPlan 32 = .ok (.invokevirtual 231, 3) := by decide +kernel
theorem dX10_bestPlan_35 : decode cX10_bestPlan 35 = .ok (.aload_n 0, 1) := by decide +kernel
theorem dX10_bestPlan_36 : decode cX10_bestPlan 36 = .ok (.getfield 47, 3) := by decide +kernel
theorem dX10_bestPlan_39 : decode cX10_bestPlan 39 = .ok (.areturn, 1) := by decide +kernel
theorem dX10_lackingPlan_0 : decode cX10_lackingPlan 0 = .ok (.aload_n 0, 1) := by decide +kernel
theorem dX10_lackingPlan_1 : decode cX10_lackingPlan 1 = .ok (.getfield 54, 3) := by decide +kernel
theorem dX10_lackingPlan_4 : decode cX10_lackingPlan 4 = .ok (.getfield 270, 3) := by decide +kernel
theorem dX10_lackingPlan_7 : decode cX10_lackingPlan 7 = .ok (.ifCond .ne 28, 3) := by decide +kernel
theorem dX10_lackingPlan_10 : decode cX10_lackingPlan 10 = .ok (.aload_n 0, 1) := by decide +kernel
theorem dX10_lackingPlan_11 : decode cX10_lackingPlan 11 = .ok (.getfield 54, 3) := by decide +kernel
theorem dX10_lackingPlan_14 : decode cX10_lackingPlan 14 = .ok (.iconst (-1), 1) := by decide +kernel
theorem dX10_lackingPlan_15 : decode cX10_lackingPlan 15 = .ok (.invokevirtual 224, 3) := by decide +kernel
theorem dX10_lackingPlan_18 : decode cX10_lackingPlan 18 = .ok (.aload_n 0, 1) := by decide +kernel
theorem dX10_lackingPlan_19 : decode cX10_lackingPlan 19 = .ok (.aload_n 0, 1) := by decide +kernel
theorem dX10_lackingPlan_20 : decode cX10_lackingPlan 20 = .ok (.getfield 54, 3) := by decide +kernel
theorem dX10_lackingPlan_23 : decode cX10_lackingPlan 23 = .ok (.bipush 6, 2) := by decide +kernel
theorem dX10_lackingPlan_25 : decode cX10_lackingPlan 25 = .ok (.invokevirtual 227, 3) := by decide +kernel
theorem dX10_lackingPlan_28 : decode cX10_lackingPlan 28 = .ok (.aload_n 0, 1) := by decide +kernel
theorem dX10_lackingPlan_29 : decode cX10_lackingPlan 29 = .ok (.getfield 54, 3) := by decide +kernel
theorem dX10_lackingPlan_32 : decode cX10_lackingPlan 32 = .ok (.invokevirtual 376, 3) := by decide +kernel
theorem dX10_lackingPlan_35 : decode cX10_lackingPlan 35 = .ok (.aload_n 0, 1) := by decide +kernel
theorem dX10_lackingPlan_36 : decode cX10_lackingPlan 36 = .ok (.getfield 54, 3) := by decide +kernel
theorem dX10_lackingPlan_39 : decode cX10_lackingPlan 39 = .ok (.areturn, 1) := by decide +kernel
theorem dX10_offerGood_0 : decode cX10_offerGood 0 = .ok (.iconst 0, 1) := by decide +kernel
theorem dX10_offerGood_1 : decode cX10_offerGood 1 = .ok (.istore_n 3, 1) := by decide +kernel
theorem dX10_offerGood_2 : decode cX10_offerGood 2 = .ok (.iload_n 3, 1) := by decide +kernel
theorem dX10_offerGood_3 : decode cX10_offerGood 3 = .ok (.aload_n 0, 1) := by decide +kernel
theorem dX10_offerGood_4 : decode cX10_offerGood 4 = .ok (.getfield 25, 3) := by decide +kernel
theorem dX10_offerGood_7 : decode cX10_offerGood 7 = .ok (.getfield 364, 3) := by decide +kernel
theorem dX10_offerGood_10 : decode cX10_offerGood 10 = .ok (.if_icmp .ge 37, 3) := by decide +kernel
theorem dX10_offerGood_13 : decode cX10_offerGood 13 = .ok (.aload_n 0, 1) := by decide +kernel
theorem dX10_offerGood_14 : decode cX10_offerGood 14 = .ok (.getfield 25, 3) := by decide +kernel
theorem dX10_offerGood_17 : decode cX10_offerGood 17 = .ok (.iload_n 3, 1) := by decide +kernel
theorem dX10_offerGood_18 : decode cX10_offerGood 18 = .ok (.invokevirtual 164, 3) := by decide +kernel
theorem dX10_offerGood_21 : decode cX10_offerGood 21 = .ok (.ifCond .eq 20, 3) := by decide +kernel
theorem dX10_offerGood_24 : decode cX10_offerGood 24 = .ok (.aload_n 0, 1) := by decide +kernel
theorem dX10_offerGood_25 : decode cX10_offerGood 25 = .ok (.getfield 31, 3) := by decide +kernel
theorem dX10_offerGood_28 : decode cX10_offerGood 28 = .ok (.iload_n 3, 1) := by decide +kernel
theorem dX10_offerGood_29 : decode cX10_offerGood 29 = .ok (.invokevirtual 274, 3) := by decide +kernel
theorem dX10_offerGood_32 : decode cX10_offerGood 32 = .ok (.iload_n 2, 1) := by decide +kernel
theorem dX10_offerGood_33 : decode cX10_offerGood 33 = .ok (.if_icmp .gt 8, 3) := by decide +kernel
theorem dX10_offerGood_36 : decode cX10_offerGood 36 = .ok (.aload_n 1, 1) := by decide +kernel
theorem dX10_offerGood_37 : decode cX10_offerGood 37 = .ok (.iload_n 3, 1) := by decide +kernel
theorem dX10_offerGood_38 : decode cX10_offerGood 38 = .ok (.invokevirtual 379, 3) := by decide +kernel
theorem dX10_offerGood_41 : decode cX10_offerGood 41 = .ok (.iinc 3 1, 3) := by decide +kernel
theorem dX10_offerGood_44 : decode cX10_offerGood 44 = .ok (.goto (-42), 3) := by decide +kernel
theorem dX10_offerGood_47 : decode cX10_offerGood 47 = .ok (.return_, 1) := by decide +kernel
theorem dX10_isHost_0 : decode cX10_isHost 0 = .ok (.iload_n 1, 1) := by decide +kernel
theorem dX10_isHost_1 : decode cX10_isHost 1 = .ok (.ifCond .lt 12, 3) := by decide +kernel
theorem dX10_isHost_4 : decode cX10_isHost 4 = .ok (.iload_n 1, 1) := by decide +kernel
theorem dX10_isHost_5 : decode cX10_isHost 5 = .ok (.iconst 3, 1) := by decide +kernel
theorem dX10_isHost_6 : decode cX10_isHost 6 = .ok (.if_icmp .gt 7, 3) := by decide +kernel
theorem dX10_isHost_9 : decode cX10_isHost 9 = .ok (.iconst 1, 1) := by decide +kernel
theorem dX10_isHost_10 : decode cX10_isHost 10 = .ok (.goto 4, 3) := by decide +kernel
theorem dX10_isHost_13 : decode cX10_isHost 13 = .ok (.iconst 0, 1) := by decide +kernel
theorem dX10_isHost_14 : decode cX10_isHost 14 = .ok (.ireturn, 1) := by decide +kernel
theorem dX10_isTold_0 : decode cX10_isTold 0 = .ok (.iload_n 2, 1) := by decide +kernel
theorem dX10_isTold_1 : decode cX10_isTold 1 = .ok (.iconst (-1), 1) := by decide +kernel
theorem dX10_isTold_2 : decode cX10_isTold 2 = .ok (.if_icmp .eq 25, 3) := by decide +kernel
theorem dX10_isTold_5 : decode cX10_isTold 5 = .ok (.iload_n 1, 1) := by decide +kernel
theorem dX10_isTold_6 : decode cX10_isTold 6 = .ok (.aload_n 0, 1) := by decide +kernel
theorem dX10_isTold_7 : decode cX10_isTold 7 = .ok (.getfield 25, 3) := by decide +kernel
theorem dX10_isTold_10 : decode cX10_isTold 10 = .ok (.getfield 203, 3) := by decide +kernel
theorem dX10_isTold_13 : decode cX10_isTold 13 = .ok (.if_icmp .ge 18, 3) := by decide +kernel
theorem dX10_isTold_16 : decode cX10_isTold 16 = .ok (.aload_n 0, 1) := by decide +kernel
theorem dX10_isTold_17 : decode cX10_isTold 17 = .ok (.getfield 25, 3) := by decide +kernel
theorem dX10_isTold_20 : decode cX10_isTold 20 = .ok (.iload_n 2, 1) := by decide +kernel
theorem dX10_isTold_21 : decode cX10_isTold 21 = .ok (.invokevirtual 152, 3) := by decide +kernel
theorem dX10_isTold_24 : decode cX10_isTold 24 = .ok (.ifCond .eq 7, 3) := by decide +kernel
theorem dX10_isTold_27 : decode cX10_isTold 27 = .ok (.iconst 1, 1) := by decide +kernel
theorem dX10_isTold_28 : decode cX10_isTold 28 = .ok (.goto 4, 3) := by decide +kernel
theorem dX10_isTold_31 : decode cX10_isTold 31 = .ok (.iconst 0, 1) := by decide +kernel
theorem dX10_isTold_32 : decode cX10_isTold 32 = .ok (.ireturn, 1) := by decide +kernel
theorem dX10_isEmptyOrGood_0 : decode cX10_isEmptyOrGood 0 = .ok (.iload_n 1, 1) := by decide +kernel
theorem dX10_isEmptyOrGood_1 : decode cX10_isEmptyOrGood 1 = .ok (.iconst (-1), 1) := by decide +kernel
theorem dX10_isEmptyOrGood_2 : decode cX10_isEmptyOrGood 2 = .ok (.if_icmp .eq 14, 3) := by decide +kernel
theorem dX10_isEmptyOrGood_5 : decode cX10_isEmptyOrGood 5 = .ok (.aload_n 0, 1) := by decide +kernel
theorem dX10_isEmptyOrGood_6 : decode cX10_isEmptyOrGood 6 = .ok (.getfield 25, 3) := by decide +kernel
theorem dX10_isEmptyOrGood_9 : decode cX10_isEmptyOrGood 9 = .ok (.iload_n 1, 1) := by decide +kernel
theorem dX10_isEmptyOrGood_10 : decode cX10_isEmptyOrGood 10 = .ok (.invokevirtual 164, 3) := by decide +kernel
theorem dX10_isEmptyOrGood_13 : decode cX10_isEmptyOrGood 13 = .ok (.ifCond .eq 7, 3) := by decide +kernel
theorem dX10_isEmptyOrGood_16 : decode cX10_isEmptyOrGood 16 = .ok (.iconst 1, 1) := by decide +kernel
theorem dX10_isEmptyOrGood_17 : decode cX10_isEmptyOrGood 17 = .ok (.goto 4, 3) := by decide +kernel
theorem dX10_isEmptyOrGood_20 : decode cX10_isEmptyOrGood 20 = .ok (.iconst 0, 1) := by decide +kernel
theorem dX10_isEmptyOrGood_21 : decode cX10_isEmptyOrGood 21 = .ok (.ireturn, 1) := by decide +kernel
theorem dX10_nimTonight_0 : decode cX10_nimTonight 0 = .ok (.iconst 0, 1) := by decide +kernel
theorem dX10_nimTonight_1 : decode cX10_nimTonight 1 = .ok (.istore_n 1, 1) := by decide +kernel
theorem dX10_nimTonight_2 : decode cX10_nimTonight 2 = .ok (.iconst 0, 1) := by decide +kernel
theorem dX10_nimTonight_3 : decode cX10_nimTonight 3 = .ok (.istore_n 2, 1) := by decide +kernel
theorem dX10_nimTonight_4 : decode cX10_nimTonight 4 = .ok (.iload_n 2, 1) := by decide +kernel
theorem dX10_nimTonight_5 : decode cX10_nimTonight 5 = .ok (.aload_n 0, 1) := by decide +kernel
theorem dX10_nimTonight_6 : decode cX10_nimTonight 6 = .ok (.getfield 25, 3) := by decide +kernel
theorem dX10_nimTonight_9 : decode cX10_nimTonight 9 = .ok (.getfield 203, 3) := by decide +kernel
theorem dX10_nimTonight_12 : decode cX10_nimTonight 12 = .ok (.if_icmp .ge 27, 3) := by decide +kernel
theorem dX10_nimTonight_15 : decode cX10_nimTonight 15 = .ok (.iload_n 1, 1) := by decide +kernel
theorem dX10_nimTonight_16 : decode cX10_nimTonight 16 = .ok (.aload_n 0, 1) := by decide +kernel
theorem dX10_nimTonight_17 : decode cX10_nimTonight 17 = .ok (.getfield 31, 3) := by decide +kernel
theorem dX10_nimTonight_20 : decode cX10_nimTonight 20 = .ok (.aload_n 0, 1) := by decide +kernel
theorem dX10_nimTonight_21 : decode cX10_nimTonight 21 = .ok (.getfield 97, 3) := by decide +kernel
theorem dX10_nimTonight_24 : decode cX10_nimTonight 24 = .ok (.iload_n 2, 1) := by decide +kernel
theorem dX10_nimTonight_25 : decode cX10_nimTonight 25 = .ok (.invokevirtual 250, 3) := by decide +kernel
theorem dX10_nimTonight_28 : decode cX10_nimTonight 28 = .ok (.invokevirtual 190, 3) := by decide +kernel
theorem dX10_nimTonight_31 : decode cX10_nimTonight 31 = .ok (.ixor, 1) := by decide +kernel
theorem dX10_nimTonight_32 : decode cX10_nimTonight 32 = .ok (.istore_n 1, 1) := by decide +kernel
theorem dX10_nimTonight_33 : decode cX10_nimTonight 33 = .ok (.iinc 2 1, 3) := by decide +kernel
theorem dX10_nimTonight_36 : decode cX10_nimTonight 36 = .ok (.goto (-32), 3) := by decide +kernel
theorem dX10_nimTonight_39 : decode cX10_nimTonight 39 = .ok (.iload_n 1, 1) := by decide +kernel
theorem dX10_nimTonight_40 : decode cX10_nimTonight 40 = .ok (.ireturn, 1) := by decide +kernel
theorem dX10_commonDivisor_0 : decode cX10_commonDivisor 0 = .ok (.iload_n 0, 1) := by decide +kernel
theorem dX10_commonDivisor_1 : decode cX10_commonDivisor 1 = .ok (.iload_n 1, 1) := by decide +kernel
theorem dX10_commonDivisor_2 : decode cX10_commonDivisor 2 = .ok (.invokestatic 382, 3) := by decide +kernel
theorem dX10_commonDivisor_5 : decode cX10_commonDivisor 5 = .ok (.istore_n 2, 1) := by decide +kernel
theorem dX10_commonDivisor_6 : decode cX10_commonDivisor 6 = .ok (.iload_n 0, 1) := by decide +kernel
theorem dX10_commonDivisor_7 : decode cX10_commonDivisor 7 = .ok (.iload_n 1, 1) := by decide +kernel
theorem dX10_commonDivisor_8 : decode cX10_commonDivisor 8 = .ok (.invokestatic 387, 3) := by decide +kernel
theorem dX10_commonDivisor_11 : decode cX10_commonDivisor 11 = .ok (.istore_n 3, 1) := by decide +kernel
theorem dX10_commonDivisor_12 : decode cX10_commonDivisor 12 = .ok (.iconst 0, 1) := by decide +kernel
theorem dX10_commonDivisor_13 : decode cX10_commonDivisor 13 = .ok (.istore 4, 2) := by decide +kernel
theorem dX10_commonDivisor_15 : decode cX10_commonDivisor 15 = .ok (.iload 4, 2) := by decide +kernel
theorem dX10_commonDivisor_17 : decode cX10_commonDivisor 17 = .ok (.bipush 64, 2) := by decide +kernel
theorem dX10_commonDivisor_19 : decode cX10_commonDivisor 19 = .ok (.if_icmp .ge 23, 3) := by decide +kernel
theorem dX10_commonDivisor_22 : decode cX10_commonDivisor 22 = .ok (.iload_n 3, 1) := by decide +kernel
theorem dX10_commonDivisor_23 : decode cX10_commonDivisor 23 = .ok (.ifCond .le 19, 3) := by decide +kernel
theorem dX10_commonDivisor_26 : decode cX10_commonDivisor 26 = .ok (.iload_n 2, 1) := by decide +kernel
theorem dX10_commonDivisor_27 : decode cX10_commonDivisor 27 = .ok (.iload_n 3, 1) := by decide +kernel
theorem dX10_commonDivisor_28 : decode cX10_commonDivisor 28 = .ok (.irem, 1) := by decide +kernel
theorem dX10_commonDivisor_29 : decode cX10_commonDivisor 29 = .ok (.istore 5, 2) := by decide +kernel
theorem dX10_commonDivisor_31 : decode cX10_commonDivisor 31 = .ok (.iload_n 3, 1) := by decide +kernel
theorem dX10_commonDivisor_32 : decode cX10_commonDivisor 32 = .ok (.istore_n 2, 1) := by decide +kernel
theorem dX10_commonDivisor_33 : decode cX10_commonDivisor 33 = .ok (.iload 5, 2) := by decide +kernel
theorem dX10_commonDivisor_35 : decode cX10_commonDivisor 35 = .ok (.istore_n 3, 1) := by decide +kernel
theorem dX10_commonDivisor_36 : decode cX10_commonDivisor 36 = .ok (.iinc 4 1, 3) := by decide +kernel
theorem dX10_commonDivisor_39 : decode cX10_commonDivisor 39 = .ok (.goto (-24), 3) := by decide +kernel
theorem dX10_commonDivisor_42 : decode cX10_commonDivisor 42 = .ok (.iload_n 2, 1) := by decide +kernel
theorem dX10_commonDivisor_43 : decode cX10_commonDivisor 43 = .ok (.ireturn, 1) := by decide +kernel
theorem dX11_init_0 : decode cX11_init 0 = .ok (.aload_n 0, 1) := by decide +kernel
theorem dX11_init_1 : decode cX11_init 1 = .ok (.invokespecial 1, 3) := by decide +kernel
theorem dX11_init_4 : decode cX11_init 4 = .ok (.aload_n 0, 1) := by decide +kernel
theorem dX11_init_5 : decode cX11_init 5 = .ok (.sipush 900, 3) := by decide +kernel
theorem dX11_init_8 : decode cX11_init 8 = .ok (.newarray .int, 2) := by decide +kernel
theorem dX11_init_10 : decode cX11_init 10 = .ok (.putfield 7, 3) := by decide +kernel
theorem dX11_init_13 : decode cX11_init 13 = .ok (.aload_n 0, 1) := by decide +kernel
theorem dX11_init_14 : decode cX11_init 14 = .ok (.iconst (-1), 1) := by decide +kernel
theorem dX11_init_15 : decode cX11_init 15 = .ok (.putfield 13, 3) := by decide +kernel
theorem dX11_init_18 : decode cX11_init 18 = .ok (.aload_n 0, 1) := by decide +kernel
theorem dX11_init_19 : decode cX11_init 19 = .ok (.bipush 8, 2) := by decide +kernel
theorem dX11_init_21 : decode cX11_init 21 = .ok (.newarray .int, 2) := by decide +kernel
theorem dX11_init_23 : decode cX11_init 23 = .ok (.putfield 17, 3) := by decide +kernel
theorem dX11_init_26 : decode cX11_init 26 = .ok (.aload_n 0, 1) := by decide +kernel
theorem dX11_init_27 : decode cX11_init 27 = .ok (.sipush 322, 3) := by decide +kernel
theorem dX11_init_30 : decode cX11_init 30 = .ok (.newarray .int, 2) := by decide +kernel
theorem dX11_init_32 : decode cX11_init 32 = .ok (.putfield 20, 3) := by decide +kernel
theorem dX11_init_35 : decode cX11_init 35 = .ok (.aload_n 0, 1) := by decide +kernel
theorem dX11_init_36 : decode cX11_init 36 = .ok (.sipush 322, 3) := by decide +kernel
theorem dX11_init_39 : decode cX11_init 39 = .ok (.newarray .int, 2) := by decide +kernel
theorem dX11_init_41 : decode cX11_init 41 = .ok (.putfield 23, 3) := by decide +kernel
theorem dX11_init_44 : decode cX11_init 44 = .ok (.aload_n 0, 1) := by decide +kernel
theorem dX11_init_45 : decode cX11_init 45 = .ok (.bipush 6, 2) := by decide +kernel
theorem dX11_init_47 : decode cX11_init 47 = .ok (.newarray .int, 2) := by decide +kernel
theorem dX11_init_49 : decode cX11_init 49 = .ok (.putfield 26, 3) := by decide +kernel
theorem dX11_init_52 : decode cX11_init 52 = .ok (.aload_n 0, 1) := by decide +kernel
theorem dX11_init_53 : decode cX11_init 53 = .ok (.bipush 18, 2) := by decide +kernel
theorem dX11_init_55 : decode cX11_init 55 = .ok (.newarray .int, 2) := by decide +kernel
theorem dX11_init_57 : decode cX11_init 57 = .ok (.putfield 29, 3) := by decide +kernel
theorem dX11_init_60 : decode cX11_init 60 = .ok (.aload_n 0, 1) := by decide +kernel
theorem dX11_init_61 : decode cX11_init 61 = .ok (.sipush 600, 3) := by decide +kernel
theorem dX11_init_64 : decode cX11_init 64 = .ok (.newarray .int, 2) := by decide +kernel
theorem dX11_init_66 : decode cX11_init 66 = .ok (.putfield 32, 3) := by decide +kernel
theorem dX11_init_69 : decode cX11_init 69 = .ok (.aload_n 0, 1) := by decide +kernel
theorem dX11_init_70 : decode cX11_init 70 = .ok (.bipush 24, 2) := by decide +kernel
theorem dX11_init_72 : decode cX11_init 72 = .ok (.newarray .int, 2) := by decide +kernel
theorem dX11_init_74 : decode cX11_init 74 = .ok (.putfield 35, 3) := by decide +kernel
theorem dX11_init_77 : decode cX11_init 77 = .ok (.aload_n 0, 1) := by decide +kernel
theorem dX11_init_78 : decode cX11_init 78 = .ok (.bipush 25, 2) := by decide +kernel
theorem dX11_init_80 : decode cX11_init 80 = .ok (.newarray .int, 2) := by decide +kernel
theorem dX11_init_82 : decode cX11_init 82 = .ok (.putfield 38, 3) := by decide +kernel
theorem dX11_init_85 : decode cX11_init 85 = .ok (.aload_n 0, 1) := by decide +kernel
theorem dX11_init_86 : decode cX11_init 86 = .ok (.bipush 24, 2) := by decide +kernel
theorem dX11_init_88 : decode cX11_init 88 = .ok (.newarray .int, 2) := by decide +kernel
theorem dX11_init_90 : decode cX11_init 90 = .ok (.putfield 41, 3) := by decide +kernel
theorem dX11_init_93 : decode cX11_init 93 = .ok (.aload_n 0, 1) := by decide +kernel
theorem dX11_init_94 : decode cX11_init 94 = .ok (.bipush 24, 2) := by decide +kernel
theorem dX11_init_96 : decode cX11_init 96 = .ok (.newarray .int, 2) := by decide +kernel
theorem dX11_init_98 : decode cX11_init 98 = .ok (.putfield 44, 3) := by decide +kernel
theorem dX11_init_101 : decode cX11_init 101 = .ok (.aload_n 0, 1) := by decide +kernel
theorem dX11_init_102 : decode cX11_init 102 = .ok (.bipush 26, 2) := by decide +kernel
theorem dX11_init_104 : decode cX11_init 104 = .ok (.newarray .int, 2) := by decide +kernel
theorem dX11_init_106 : decode cX11_init 106 = .ok (.putfield 47, 3) := by decide +kernel
theorem dX11_init_109 : decode cX11_init 109 = .ok (.aload_n 0, 1) := by decide +kernel
theorem dX11_init_110 : decode cX11_init 110 = .ok (.bipush 26, 2) := by decide +kernel
theorem dX11_init_112 : decode cX11_init 112 = .ok (.newarray .int, 2) := by decide +kernel
theorem dX11_init_114 : decode cX11_init 114 = .ok (.putfield 50, 3) := by decide +kernel
theorem dX11_init_117 : decode cX11_init 117 = .ok (.aload_n 0, 1) := by decide +kernel
theorem dX11_init_118 : decode cX11_init 118 = .ok (.iconst 3, 1) := by decide +kernel
theorem dX11_init_119 : decode cX11_init 119 = .ok (.newarray .int, 2) := by decide +kernel
theorem dX11_init_121 : decode cX11_init 121 = .ok (.putfield 53, 3) := by decide +kernel
theorem dX11_init_124 : decode cX11_init 124 = .ok (.aload_n 0, 1) := by decide +kernel
theorem dX11_init_125 : decode cX11_init 125 = .ok (.iconst 3, 1) := by decide +kernel
theorem dX11_init_126 : decode cX11_init 126 = .ok (.newarray .int, 2) := by decide +kernel
theorem dX11_init_128 : decode cX11_init 128 = .ok (.putfield 56, 3) := by decide +kernel
theorem dX11_init_131 : decode cX11_init 131 = .ok (.aload_n 0, 1) := by decide +kernel
theorem dX11_init_132 : decode cX11_init 132 = .ok (.ldc 59, 2) := by decide +kernel
theorem dX11_init_134 : decode cX11_init 134 = .ok (.newarray .int, 2) := by decide +kernel
theorem dX11_init_136 : decode cX11_init 136 = .ok (.putfield 60, 3) := by decide +kernel
theorem dX11_init_139 : decode cX11_init 139 = .ok (.aload_n 0, 1) := by decide +kernel
theorem dX11_init_140 : decode cX11_init 140 = .ok (.sipush 15625, 3) := by decide +kernel
theorem dX11_init_143 : decode cX11_init 143 = .ok (.newarray .int, 2) := by decide +kernel
theorem dX11_init_145 : decode cX11_init 145 = .ok (.putfield 63, 3) := by decide +kernel
theorem dX11_init_148 : decode cX11_init 148 = .ok (.aload_n 0, 1) := by decide +kernel
theorem dX11_init_149 : decode cX11_init 149 = .ok (.sipush 15625, 3) := by decide +kernel
theorem dX11_init_152 : decode cX11_init 152 = .ok (.newarray .int, 2) := by decide +kernel
theorem dX11_init_154 : decode cX11_init 154 = .ok (.putfield 66, 3) := by decide +kernel
theorem dX11_init_157 : decode cX11_init 157 = .ok (.aload_n 0, 1) := by decide +kernel
theorem dX11_init_158 : decode cX11_init 158 = .ok (.ldc 69, 2) := by decide +kernel
theorem dX11_init_160 : decode cX11_init 160 = .ok (.newarray .long, 2) := by decide +kernel
theorem dX11_init_162 : decode cX11_init 162 = .ok (.putfield 70, 3) := by decide +kernel
theorem dX11_init_165 : decode cX11_init 165 = .ok (.return_, 1) := by decide +kernel
theorem dX11_thrown_0 : decode cX11_thrown 0 = .ok (.aload_n 0, 1) := by decide +kernel
theorem dX11_thrown_1 : decode cX11_thrown 1 = .ok (.getfield 74, 3) := by decide +kernel
theorem dX11_thrown_4 : decode cX11_thrown 4 = .ok (.ireturn, 1) := by decide +kernel
theorem dX11_good_0 : decode cX11_good 0 = .ok (.aload_n 0, 1) := by decide +kernel
theorem dX11_good_1 : decode cX11_good 1 = .ok (.iconst 0, 1) := by decide +kernel
theorem dX11_good_2 : decode cX11_good 2 = .ok (.putfield 74, 3) := by decide +kernel
theorem dX11_good_5 : decode cX11_good 5 = .ok (.aload_n 0, 1) := by decide +kernel
theorem dX11_good_6 : decode cX11_good 6 = .ok (.iconst 0, 1) := by decide +kernel
theorem dX11_good_7 : decode cX11_good 7 = .ok (.putfield 77, 3) := by decide +kernel
theorem dX11_good_10 : decode cX11_good 10 = .ok (.return_, 1) := by decide +kernel
theorem dX11_no_0 : decode cX11_no 0 = .ok (.aload_n 0, 1) := by decide +kernel
theorem dX11_no_1 : decode cX11_no 1 = .ok (.iload_n 1, 1) := by decide +kernel
theorem dX11_no_2 : decode cX11_no 2 = .ok (.putfield 77, 3) := by decide +kernel
theorem dX11_no_5 : decode cX11_no 5 = .ok (.iconst (-1), 1) := by decide +kernel
theorem dX11_no_6 : decode cX11_no 6 = .ok (.ireturn, 1) := by decide +kernel
theorem dX11_isNot_0 : decode cX11_isNot 0 = .ok (.aload_n 0, 1) := by decide +kernel
theorem dX11_isNot_1 : decode cX11_isNot 1 = .ok (.iload_n 1, 1) := by decide +kernel
theorem dX11_isNot_2 : decode cX11_isNot 2 = .ok (.putfield 77, 3) := by decide +kernel
theorem dX11_isNot_5 : decode cX11_isNot 5 = .ok (.iconst 0, 1) := by decide +kernel
theorem dX11_isNot_6 : decode cX11_isNot 6 = .ok (.ireturn, 1) := by decide +kernel
theorem dX11_within_0 : decode cX11_within 0 = .ok (.iload_n 0, 1) := by decide +kernel
theorem dX11_within_1 : decode cX11_within 1 = .ok (.iload_n 1, 1) := by decide +kernel
theorem dX11_within_2 : decode cX11_within 2 = .ok (.if_icmp .lt 12, 3) := by decide +kernel
theorem dX11_within_5 : decode cX11_within 5 = .ok (.iload_n 0, 1) := by decide +kernel
theorem dX11_within_6 : decode cX11_within 6 = .ok (.iload_n 2, 1) := by decide +kernel
theorem dX11_within_7 : decode cX11_within 7 = .ok (.if_icmp .gt 7, 3) := by decide +kernel
theorem dX11_within_10 : decode cX11_within 10 = .ok (.iconst 1, 1) := by decide +kernel
theorem dX11_within_11 : decode cX11_within 11 = .ok (.goto 4, 3) := by decide +kernel
theorem dX11_within_14 : decode cX11_within 14 = .ok (.iconst 0, 1) := by decide +kernel
theorem dX11_within_15 : decode cX11_within 15 = .ok (.ireturn, 1) := by decide +kernel
theorem dX11_feed_0 : decode cX11_feed 0 = .ok (.aload_n 0, 1) := by decide +kernel
theorem dX11_feed_1 : decode cX11_feed 1 = .ok (.iconst 0, 1) := by decide +kernel
theorem dX11_feed_2 : decode cX11_feed 2 = .ok (.putfield 74, 3) := by decide +kernel
theorem dX11_feed_5 : decode cX11_feed 5 = .ok (.aload_n 0, 1) := by decide +kernel
theorem dX11_feed_6 : decode cX11_feed 6 = .ok (.getfield 80, 3) := by decide +kernel
theorem dX11_feed_9 : decode cX11_feed 9 = .ok (.bipush 20, 2) := by decide +kernel
theorem dX11_feed_11 : decode cX11_feed 11 = .ok (.iadd, 1) := by decide +kernel
theorem dX11_feed_12 : decode cX11_feed 12 = .ok (.sipush 900, 3) := by decide +kernel
theorem dX11_feed_15 : decode cX11_feed 15 = .ok (.if_icmp .le 5, 3) := by decide +kernel
theorem dX11_feed_18 : decode cX11_feed 18 = .ok (.iconst (-1), 1) := by decide +kernel
theorem dX11_feed_19 : decode cX11_feed 19 = .ok (.ireturn, 1) := by decide +kernel
theorem dX11_feed_20 : decode cX11_feed 20 = .ok (.iconst 0, 1) := by decide +kernel
theorem dX11_feed_21 : decode cX11_feed 21 = .ok (.istore 6, 2) := by decide +kernel
theorem dX11_feed_23 : decode cX11_feed 23 = .ok (.iload 6, 2) := by decide +kernel
theorem dX11_feed_25 : decode cX11_feed 25 = .ok (.bipush 20, 2) := by decide +kernel
theorem dX11_feed_27 : decode cX11_feed 27 = .ok (.if_icmp .ge 93, 3) := by decide +kernel
theorem dX11_feed_30 : decode cX11_feed 30 = .ok (.iload 6, 2) := by decide +kernel
theorem dX11_feed_32 : decode cX11_feed 32 = .ok (.iconst 4, 1) := by decide +kernel
theorem dX11_feed_33 : decode cX11_feed 33 = .ok (.if_icmp .ge 7, 3) := by decide +kernel
theorem dX11_feed_36 : decode cX11_feed 36 = .ok (.iload_n 1, 1) := by decide +kernel
theorem dX11_feed_37 : decode cX11_feed 37 = .ok (.goto 39, 3) := by decide +kernel
theorem dX11_feed_40 : decode cX11_feed 40 = .ok (.iload 6, 2) := by decide +kernel
theorem dX11_feed_42 : decode cX11_feed 42 = .ok (.bipush 8, 2) := by decide +kernel
theorem dX11_feed_44 : decode cX11_feed 44 = .ok (.if_icmp .ge 7, 3) := by decide +kernel
theorem dX11_feed_47 : decode cX11_feed 47 = .ok (.iload_n 2, 1) := by decide +kernel
theorem dX11_feed_48 : decode cX11_feed 48 = .ok (.goto 28, 3) := by decide +kernel
theorem dX11_feed_51 : decode cX11_feed 51 = .ok (.iload 6, 2) := by decide +kernel
theorem dX11_feed_53 : decode cX11_feed 53 = .ok (.bipush 12, 2) := by decide +kernel
theorem dX11_feed_55 : decode cX11_feed 55 = .ok (.if_icmp .ge 7, 3) := by decide +kernel
theorem dX11_feed_58 : decode cX11_feed 58 = .ok (.iload_n 3, 1) := by decide +kernel
theorem dX11_feed_59 : decode cX11_feed 59 = .ok (.goto 17, 3) := by decide +kernel
theorem dX11_feed_62 : decode cX11_feed 62 = .ok (.iload 6, 2) := by decide +kernel
theorem dX11_feed_64 : decode cX11_feed 64 = .ok (.bipush 16, 2) := by decide +kernel
theorem dX11_feed_66 : decode cX11_feed 66 = .ok (.if_icmp .ge 8, 3) := by decide +kernel
theorem dX11_feed_69 : decode cX11_feed 69 = .ok (.iload 4, 2) := by decide +kernel
theorem dX11_feed_71 : decode cX11_feed 71 = .ok (.goto 5, 3) := by decide +kernel
theorem dX11_feed_74 : decode cX11_feed 74 = .ok (.iload 5, 2) := by decide +kernel
theorem dX11_feed_76 : decode cX11_feed 76 = .ok (.istore 7, 2) := by decide +kernel
theorem dX11_feed_78 : decode cX11_feed 78 = .ok (.aload_n 0, 1) := by decide +kernel
theorem dX11_feed_79 : decode cX11_feed 79 = .ok (.getfield 7, 3) := by decide +kernel
theorem dX11_feed_82 : decode cX11_feed 82 = .ok (.aload_n 0, 1) := by decide +kernel
theorem dX11_feed_83 : decode cX11_feed 83 = .ok (.getfield 80, 3) := by decide +kernel
theorem dX11_feed_86 : decode cX11_feed 86 = .ok (.iload 7, 2) := by decide +kernel
theorem dX11_feed_88 : decode cX11_feed 88 = .ok (.bipush 24, 2) := by decide +kernel
theorem dX11_feed_90 : decode cX11_feed 90 = .ok (.bipush 8, 2) := by decide +kernel
theorem dX11_feed_92 : decode cX11_feed 92 = .ok (.iload 6, 2) := by decide +kernel
theorem dX11_feed_94 : decode cX11_feed 94 = .ok (.iconst 4, 1) := by decide +kernel
theorem dX11_feed_95 : decode cX11_feed 95 = .ok (.irem, 1) := by decide +kernel
theorem dX11_feed_96 : decode cX11_feed 96 = .ok (.imul, 1) := by decide +kernel
theorem dX11_feed_97 : decode cX11_feed 97 = .ok (.isub, 1) := by decide +kernel
theorem dX11_feed_98 : decode cX11_feed 98 = .ok (.ishr, 1) := by decide +kernel
theorem dX11_feed_99 : decode cX11_feed 99 = .ok (.sipush 255, 3) := by decide +kernel
theorem dX11_feed_102 : decode cX11_feed 102 = .ok (.iand, 1) := by decide +kernel
theorem dX11_feed_103 : decode cX11_feed 103 = .ok (.iastore, 1) := by decide +kernel
theorem dX11_feed_104 : decode cX11_feed 104 = .ok (.aload_n 0, 1) := by decide +kernel
theorem dX11_feed_105 : decode cX11_feed 105 = .ok (.dup, 1) := by decide +kernel
theorem dX11_feed_106 : decode cX11_feed 106 = .ok (.getfield 80, 3) := by decide +kernel
theorem dX11_feed_109 : decode cX11_feed 109 = .ok (.iconst 1, 1) := by decide +kernel
theorem dX11_feed_110 : decode cX11_feed 110 = .ok (.iadd, 1) := by decide +kernel
theorem dX11_feed_111 : decode cX11_feed 111 = .ok (.putfield 80, 3) := by decide +kernel
theorem dX11_feed_114 : decode cX11_feed 114 = .ok (.iinc 6 1, 3) := by decide +kernel
theorem dX11_feed_117 : decode cX11_feed 117 = .ok (.goto (-94), 3) := by decide +kernel
theorem dX11_feed_120 : decode cX11_feed 120 = .ok (.aload_n 0, 1) := by decide +kernel
theorem dX11_feed_121 : decode cX11_feed 121 = .ok (.getfield 80, 3) := by decide +kernel
theorem dX11_feed_124 : decode cX11_feed 124 = .ok (.ireturn, 1) := by decide +kernel
theorem dX11_look_0 : decode cX11_look 0 = .ok (.iload_n 1, 1) := by decide +kernel
theorem dX11_look_1 : decode cX11_look 1 = .ok (.aload_n 0, 1) := by decide +kernel
theorem dX11_look_2 : decode cX11_look 2 = .ok (.getfield 83, 3) := by decide +kernel
theorem dX11_look_5 : decode cX11_look 5 = .ok (.if_icmp .ge 12, 3) := by decide +kernel
theorem dX11_look_8 : decode cX11_look 8 = .ok (.aload_n 0, 1) := by decide +kernel
theorem dX11_look_9 : decode cX11_look 9 = .ok (.getfield 7, 3) := by decide +kernel
theorem dX11_look_12 : decode cX11_look 12 = .ok (.iload_n 1, 1) := by decide +kernel
theorem dX11_look_13 : decode cX11_look 13 = .ok (.iaload, 1) := by decide +kernel
theorem dX11_look_14 : decode cX11_look 14 = .ok (.goto 4, 3) := by decide +kernel
theorem dX11_look_17 : decode cX11_look 17 = .ok (.iconst (-1), 1) := by decide +kernel
theorem dX11_look_18 : decode cX11_look 18 = .ok (.ireturn, 1) := by decide +kernel
theorem dX11_isSmall_0 : decode cX11_isSmall 0 = .ok (.iload_n 0, 1) := by decide +kernel
theorem dX11_isSmall_1 : decode cX11_isSmall 1 = .ok (.bipush 97, 2) := by decide +kernel
theorem dX11_isSmall_3 : decode cX11_isSmall 3 = .ok (.if_icmp .lt 13, 3) := by decide +kernel
theorem dX11_isSmall_6 : decode cX11_isSmall 6 = .ok (.iload_n 0, 1) := by decide +kernel
theorem dX11_isSmall_7 : decode cX11_isSmall 7 = .ok (.bipush 122, 2) := by decide +kernel
theorem dX11_isSmall_9 : decode cX11_isSmall 9 = .ok (.if_icmp .gt 7, 3) := by decide +kernel
theorem dX11_isSmall_12 : decode cX11_isSmall 12 = .ok (.iconst 1, 1) := by decide +kernel
theorem dX11_isSmall_13 : decode cX11_isSmall 13 = .ok (.goto 4, 3) := by decide +kernel
theorem dX11_isSmall_16 : decode cX11_isSmall 16 = .ok (.iconst 0, 1) := by decide +kernel
theorem dX11_isSmall_17 : decode cX11_isSmall 17 = .ok (.ireturn, 1) := by decide +kernel
theorem dX11_isDigit_0 : decode cX11_isDigit 0 = .ok (.iload_n 0, 1) := by decide +kernel
theorem dX11_isDigit_1 : decode cX11_isDigit 1 = .ok (.bipush 48, 2) := by decide +kernel
theorem dX11_isDigit_3 : decode cX11_isDigit 3 = .ok (.if_icmp .lt 13, 3) := by decide +kernel
theorem dX11_isDigit_6 : decode cX11_isDigit 6 = .ok (.iload_n 0, 1) := by decide +kernel
theorem dX11_isDigit_7 : decode cX11_isDigit 7 = .ok (.bipush 57, 2) := by decide +kernel
theorem dX11_isDigit_9 : decode cX11_isDigit 9 = .ok (.if_icmp .gt 7, 3) := by decide +kernel
theorem dX11_isDigit_12 : decode cX11_isDigit 12 = .ok (.iconst 1, 1) := by decide +kernel
theorem dX11_isDigit_13 : decode cX11_isDigit 13 = .ok (.goto 4, 3) := by decide +kernel
theorem dX11_isDigit_16 : decode cX11_isDigit 16 = .ok (.iconst 0, 1) := by decide +kernel
theorem dX11_isDigit_17 : decode cX11_isDigit 17 = .ok (.ireturn, 1) := by decide +kernel
theorem dX11_next_0 : decode cX11_next 0 = .ok (.aload_n 0, 1) := by decide +kernel
theorem dX11_next_1 : decode cX11_next 1 = .ok (.getfield 86, 3) := by decide +kernel
theorem dX11_next_4 : decode cX11_next 4 = .ok (.istore_n 1, 1) := by decide +kernel
theorem dX11_next_5 : decode cX11_next 5 = .ok (.aload_n 0, 1) := by decide +kernel
theorem dX11_next_6 : decode cX11_next 6 = .ok (.iload_n 1, 1) := by decide +kernel
theorem dX11_next_7 : decode cX11_next 7 = .ok (.invokevirtual 89, 3) := by decide +kernel
theorem dX11_next_10 : decode cX11_next 10 = .ok (.bipush 32, 2) := by decide +kernel
theorem dX11_next_12 : decode cX11_next 12 = .ok (.if_icmp .ne 9, 3) := by decide +kernel
theorem dX11_next_15 : decode cX11_next 15 = .ok (.iinc 1 1, 3) := by decide +kernel
theorem dX11_next_18 : decode cX11_next 18 = .ok (.goto (-13), 3) := by decide +kernel
theorem dX11_next_21 : decode cX11_next 21 = .ok (.aload_n 0, 1) := by decide +kernel
theorem dX11_next_22 : decode cX11_next 22 = .ok (.iload_n 1, 1) := by decide +kernel
theorem dX11_next_23 : decode cX11_next 23 = .ok (.putfield 93, 3) := by decide +kernel
theorem dX11_next_26 : decode cX11_next 26 = .ok (.aload_n 0, 1) := by decide +kernel
theorem dX11_next_27 : decode cX11_next 27 = .ok (.iload_n 1, 1) := by decide +kernel
theorem dX11_next_28 : decode cX11_next 28 = .ok (.invokevirtual 89, 3) := by decide +kernel
theorem dX11_next_31 : decode cX11_next 31 = .ok (.istore_n 2, 1) := by decide +kernel
theorem dX11_next_32 : decode cX11_next 32 = .ok (.aload_n 0, 1) := by decide +kernel
theorem dX11_next_33 : decode cX11_next 33 = .ok (.iconst 0, 1) := by decide +kernel
theorem dX11_next_34 : decode cX11_next 34 = .ok (.putfield 96, 3) := by decide +kernel
theorem dX11_next_37 : decode cX11_next 37 = .ok (.aload_n 0, 1) := by decide +kernel
theorem dX11_next_38 : decode cX11_next 38 = .ok (.iconst 0, 1) := by decide +kernel
theorem dX11_next_39 : decode cX11_next 39 = .ok (.putfield 99, 3) := by decide +kernel
theorem dX11_next_42 : decode cX11_next 42 = .ok (.iload_n 2, 1) := by decide +kernel
theorem dX11_next_43 : decode cX11_next 43 = .ok (.iconst (-1), 1) := by decide +kernel
theorem dX11_next_44 : decode cX11_next 44 = .ok (.if_icmp .ne 16, 3) := by decide +kernel
theorem dX11_next_47 : decode cX11_next 47 = .ok (.aload_n 0, 1) := by decide +kernel
theorem dX11_next_48 : decode cX11_next 48 = .ok (.iconst 0, 1) := by decide +kernel
theorem dX11_next_49 : decode cX11_next 49 = .ok (.putfield 102, 3) := by decide +kernel
theorem dX11_next_52 : decode cX11_next 52 = .ok (.aload_n 0, 1) := by decide +kernel
theorem dX11_next_53 : decode cX11_next 53 = .ok (.iload_n 1, 1) := by decide +kernel
theorem dX11_next_54 : decode cX11_next 54 = .ok (.putfield 86, 3) := by decide +kernel
theorem dX11_next_57 : decode cX11_next 57 = .ok (.goto 190, 3) := by decide +kernel
theorem dX11_next_60 : decode cX11_next 60 = .ok (.iload_n 2, 1) := by decide +kernel
theorem dX11_next_61 : decode cX11_next 61 = .ok (.invokestatic 105, 3) := by decide +kernel
theorem dX11_next_64 : decode cX11_next 64 = .ok (.ifCond .eq 79, 3) := by decide +kernel
theorem dX11_next_67 : decode cX11_next 67 = .ok (.aload_n 0, 1) := by decide +kernel
theorem dX11_next_68 : decode cX11_next 68 = .ok (.iload_n 1, 1) := by decide +kernel
theorem dX11_next_69 : decode cX11_next 69 = .ok (.invokevirtual 89, 3) := by decide +kernel
theorem dX11_next_72 : decode cX11_next 72 = .ok (.invokestatic 105, 3) := by decide +kernel
theorem dX11_next_75 : decode cX11_next 75 = .ok (.ifCond .eq 42, 3) := by decide +kernel
theorem dX11_next_78 : decode cX11_next 78 = .ok (.aload_n 0, 1) := by decide +kernel
theorem dX11_next_79 : decode cX11_next 79 = .ok (.getfield 96, 3) := by decide +kernel
theorem dX11_next_82 : decode cX11_next 82 = .ok (.bipush 8, 2) := by decide +kernel
theorem dX11_next_84 : decode cX11_next 84 = .ok (.if_icmp .ge 17, 3) := by decide +kernel
theorem dX11_next_87 : decode cX11_next 87 = .ok (.aload_n 0, 1) := by decide +kernel
theorem dX11_next_88 : decode cX11_next 88 = .ok (.getfield 17, 3) := by decide +kernel
theorem dX11_next_91 : decode cX11_next 91 = .ok (.aload_n 0, 1) := by decide +kernel
theorem dX11_next_92 : decode cX11_next 92 = .ok (.getfield 96, 3) := by decide +kernel
theorem dX11_next_95 : decode cX11_next 95 = .ok (.aload_n 0, 1) := by decide +kernel
theorem dX11_next_96 : decode cX11_next 96 = .ok (.iload_n 1, 1) := by decide +kernel
theorem dX11_next_97 : decode cX11_next 97 = .ok (.invokevirtual 89, 3) := by decide +kernel
theorem dX11_next_100 : decode cX11_next 100 = .ok (.iastore, 1) := by decide +kernel
theorem dX11_next_101 : decode cX11_next 101 = .ok (.aload_n 0, 1) := by decide +kernel
theorem dX11_next_102 : decode cX11_next 102 = .ok (.dup, 1) := by decide +kernel
theorem dX11_next_103 : decode cX11_next 103 = .ok (.getfield 96, 3) := by decide +kernel
theorem dX11_next_106 : decode cX11_next 106 = .ok (.iconst 1, 1) := by decide +kernel
theorem dX11_next_107 : decode cX11_next 107 = .ok (.iadd, 1) := by decide +kernel
theorem dX11_next_108 : decode cX11_next 108 = .ok (.putfield 96, 3) := by decide +kernel
theorem dX11_next_111 : decode cX11_next 111 = .ok (.iinc 1 1, 3) := by decide +kernel
theorem dX11_next_114 : decode cX11_next 114 = .ok (.goto (-47), 3) := by decide +kernel
theorem dX11_next_117 : decode cX11_next 117 = .ok (.aload_n 0, 1) := by decide +kernel
theorem dX11_next_118 : decode cX11_next 118 = .ok (.iload_n 1, 1) := by decide +kernel
theorem dX11_next_119 : decode cX11_next 119 = .ok (.putfield 86, 3) := by decide +kernel
theorem dX11_next_122 : decode cX11_next 122 = .ok (.aload_n 0, 1) := by decide +kernel
theorem dX11_next_123 : decode cX11_next 123 = .ok (.aload_n 0, 1) := by decide +kernel
theorem dX11_next_124 : decode cX11_next 124 = .ok (.getfield 96, 3) := by decide +kernel
theorem dX11_next_127 : decode cX11_next 127 = .ok (.bipush 8, 2) := by decide +kernel
theorem dX11_next_129 : decode cX11_next 129 = .ok (.if_icmp .le 7, 3) := by decide +kernel
theorem dX11_next_132 : decode cX11_next 132 = .ok (.iconst 1, 1) := by decide +kernel
theorem dX11_next_133 : decode cX11_next 133 = .ok (.goto 4, 3) := by decide +kernel
theorem dX11_next_136 : decode cX11_next 136 = .ok (.iconst 2, 1) := by decide +kernel
theorem dX11_next_137 : decode cX11_next 137 = .ok (.putfield 102, 3) := by decide +kernel
theorem dX11_next_140 : decode cX11_next 140 = .ok (.goto 107, 3) := by decide +kernel
theorem dX11_next_143 : decode cX11_next 143 = .ok (.iload_n 2, 1) := by decide +kernel
theorem dX11_next_144 : decode cX11_next 144 = .ok (.invokestatic 109, 3) := by decide +kernel
theorem dX11_next_147 : decode cX11_next 147 = .ok (.ifCond .eq 72, 3) := by decide +kernel
theorem dX11_next_150 : decode cX11_next 150 = .ok (.iconst 0, 1) := by decide +kernel
theorem dX11_next_151 : decode cX11_next 151 = .ok (.istore_n 3, 1) := by decide +kernel
theorem dX11_next_152 : decode cX11_next 152 = .ok (.aload_n 0, 1) := by decide +kernel
theorem dX11_next_153 : decode cX11_next 153 = .ok (.iload_n 1, 1) := by decide +kernel
theorem dX11_next_154 : decode cX11_next 154 = .ok (.invokevirtual 89, 3) := by decide +kernel
theorem dX11_next_157 : decode cX11_next 157 = .ok (.invokestatic 109, 3) := by decide +kernel
theorem dX11_next_160 : decode cX11_next 160 = .ok (.ifCond .eq 37, 3) := by decide +kernel
theorem dX11_next_163 : decode cX11_next 163 = .ok (.iload_n 3, 1) := by decide +kernel
theorem dX11_next_164 : decode cX11_next 164 = .ok (.iconst 3, 1) := by decide +kernel
theorem dX11_next_165 : decode cX11_next 165 = .ok (.if_icmp .ge 23, 3) := by decide +kernel
theorem dX11_next_168 : decode cX11_next 168 = .ok (.aload_n 0, 1) := by decide +kernel
theorem dX11_next_169 : decode cX11_next 169 = .ok (.bipush 10, 2) := by decide +kernel
theorem dX11_next_171 : decode cX11_next 171 = .ok (.aload_n 0, 1) := by decide +kernel
theorem dX11_next_172 : decode cX11_next 172 = .ok (.getfield 99, 3) := by decide +kernel
theorem dX11_next_175 : decode cX11_next 175 = .ok (.imul, 1) := by decide +kernel
theorem dX11_next_176 : decode cX11_next 176 = .ok (.aload_n 0, 1) := by decide +kernel
theorem dX11_next_177 : decode cX11_next 177 = .ok (.iload_n 1, 1) := by decide +kernel
theorem dX11_next_178 : decode cX11_next 178 = .ok (.invokevirtual 89, 3) := by decide +kernel
theorem dX11_next_181 : decode cX11_next 181 = .ok (.iadd, 1) := by decide +kernel
theorem dX11_next_182 : decode cX11_next 182 = .ok (.bipush 48, 2) := by decide +kernel
theorem dX11_next_184 : decode cX11_next 184 = .ok (.isub, 1) := by decide +kernel
theorem dX11_next_185 : decode cX11_next 185 = .ok (.putfield 99, 3) := by decide +kernel
theorem dX11_next_188 : decode cX11_next 188 = .ok (.iinc 3 1, 3) := by decide +kernel
theorem dX11_next_191 : decode cX11_next 191 = .ok (.iinc 1 1, 3) := by decide +kernel
theorem dX11_next_194 : decode cX11_next 194 = .ok (.goto (-42), 3) := by decide +kernel
theorem dX11_next_197 : decode cX11_next 197 = .ok (.aload_n 0, 1) := by decide +kernel
theorem dX11_next_198 : decode cX11_next 198 = .ok (.iload_n 1, 1) := by decide +kernel
theorem dX11_next_199 : decode cX11_next 199 = .ok (.putfield 86, 3) := by decide +kernel
theorem dX11_next_202 : decode cX11_next 202 = .ok (.aload_n 0, 1) := by decide +kernel
theorem dX11_next_203 : decode cX11_next 203 = .ok (.iload_n 3, 1) := by decide +kernel
theorem dX11_next_204 : decode cX11_next 204 = .ok (.iconst 3, 1) := by decide +kernel
theorem dX11_next_205 : decode cX11_next 205 = .ok (.if_icmp .le 7, 3) := by decide +kernel
theorem dX11_next_208 : decode cX11_next 208 = .ok (.iconst 1, 1) := by decide +kernel
theorem dX11_next_209 : decode cX11_next 209 = .ok (.goto 4, 3) := by decide +kernel
theorem dX11_next_212 : decode cX11_next 212 = .ok (.iconst 3, 1) := by decide +kernel
theorem dX11_next_213 : decode cX11_next 213 = .ok (.putfield 102, 3) := by decide +kernel
theorem dX11_next_216 : decode cX11_next 216 = .ok (.goto 31, 3) := by decide +kernel
theorem dX11_next_219 : decode cX11_next 219 = .ok (.aload_n 0, 1) := by decide +kernel
theorem dX11_next_220 : decode cX11_next 220 = .ok (.iload_n 1, 1) := by decide +kernel
theorem dX11_next_221 : decode cX11_next 221 = .ok (.iconst 1, 1) := by decide +kernel
theorem dX11_next_222 : decode cX11_next 222 = .ok (.iadd, 1) := by decide +kernel
theorem dX11_next_223 : decode cX11_next 223 = .ok (.putfield 86, 3) := by decide +kernel
theorem dX11_next_226 : decode cX11_next 226 = .ok (.aload_n 0, 1) := by decide +kernel
theorem dX11_next_227 : decode cX11_next 227 = .ok (.iload_n 2, 1) := by decide +kernel
theorem dX11_next_228 : decode cX11_next 228 = .ok (.bipush 59, 2) := by decide +kernel
theorem dX11_next_230 : decode cX11_next 230 = .ok (.if_icmp .eq 9, 3) := by decide +kernel
theorem dX11_next_233 : decode cX11_next 233 = .ok (.iload_n 2, 1) := by decide +kernel
theorem dX11_next_234 : decode cX11_next 234 = .ok (.bipush 44, 2) := by decide +kernel
theorem dX11_next_236 : decode cX11_next 236 = .ok (.if_icmp .ne 7, 3) := by decide +kernel
theorem dX11_next_239 : decode cX11_next 239 = .ok (.iload_n 2, 1) := by decide +kernel
theorem dX11_next_240 : decode cX11_next 240 = .ok (.goto 4, 3) := by decide +kernel
theorem dX11_next_243 : decode cX11_next 243 = .ok (.iconst 1, 1) := by decide +kernel
theorem dX11_next_244 : decode cX11_next 244 = .ok (.putfield 102, 3) := by decide +kernel
theorem dX11_next_247 : decode cX11_next 247 = .ok (.return_, 1) := by decide +kernel
theorem dX11_wrong_0 : decode cX11_wrong 0 = .ok (.aload_n 0, 1) := by decide +kernel
theorem dX11_wrong_1 : decode cX11_wrong 1 = .ok (.getfield 112, 3) := by decide +kernel
theorem dX11_wrong_4 : decode cX11_wrong 4 = .ok (.ifCond .eq 4, 3) := by decide +kernel
theorem dX11_wrong_7 : decode cX11_wrong 7 = .ok (.return_, 1) := by decide +kernel
theorem dX11_wrong_8 : decode cX11_wrong 8 = .ok (.aload_n 0, 1) := by decide +kernel
theorem dX11_wrong_9 : decode cX11_wrong 9 = .ok (.iconst 1, 1) := by decide +kernel
theorem dX11_wrong_10 : decode cX11_wrong 10 = .ok (.putfield 112, 3) := by decide +kernel
theorem dX11_wrong_13 : decode cX11_wrong 13 = .ok (.aload_n 0, 1) := by decide +kernel
theorem dX11_wrong_14 : decode cX11_wrong 14 = .ok (.iload_n 1, 1) := by decide +kernel
theorem dX11_wrong_15 : decode cX11_wrong 15 = .ok (.putfield 116, 3) := by decide +kernel
theorem dX11_wrong_18 : decode cX11_wrong 18 = .ok (.aload_n 0, 1) := by decide +kernel
theorem dX11_wrong_19 : decode cX11_wrong 19 = .ok (.iload_n 2, 1) := by decide +kernel
theorem dX11_wrong_20 : decode cX11_wrong 20 = .ok (.putfield 13, 3) := by decide +kernel
theorem dX11_wrong_23 : decode cX11_wrong 23 = .ok (.return_, 1) := by decide +kernel
theorem dX11_isWord_0 : decode cX11_isWord 0 = .ok (.aload_n 0, 1) := by decide +kernel
theorem dX11_isWord_1 : decode cX11_isWord 1 = .ok (.getfield 112, 3) := by decide +kernel
theorem dX11_isWord_4 : decode cX11_isWord 4 = .ok (.ifCond .ne 22, 3) := by decide +kernel
theorem dX11_isWord_7 : decode cX11_isWord 7 = .ok (.aload_n 0, 1) := by decide +kernel
theorem dX11_isWord_8 : decode cX11_isWord 8 = .ok (.getfield 102, 3) := by decide +kernel
theorem dX11_isWord_11 : decode cX11_isWord 11 = .ok (.iconst 2, 1) := by decide +kernel
theorem dX11_isWord_12 : decode cX11_isWord 12 = .ok (.if_icmp .ne 14, 3) := by decide +kernel
theorem dX11_isWord_15 : decode cX11_isWord 15 = .ok (.aload_n 0, 1) := by decide +kernel
theorem dX11_isWord_16 : decode cX11_isWord 16 = .ok (.getfield 96, 3) := by decide +kernel
theorem dX11_isWord_19 : decode cX11_isWord 19 = .ok (.aload_n 1, 1) := by decide +kernel
theorem dX11_isWord_20 : decode cX11_isWord 20 = .ok (.invokevirtual 119, 3) := by decide +kernel
theorem dX11_isWord_23 : decode cX11_isWord 23 = .ok (.if_icmp .eq 5, 3) := by decide +kernel
theorem dX11_isWord_26 : decode cX11_isWord 26 = .ok (.iconst 0, 1) := by decide +kernel
theorem dX11_isWord_27 : decode cX11_isWord 27 = .ok (.ireturn, 1) := by decide +kernel
theorem dX11_isWord_28 : decode cX11_isWord 28 = .ok (.iconst 1, 1) := by decide +kernel
theorem dX11_isWord_29 : decode cX11_isWord 29 = .ok (.istore_n 2, 1) := by decide +kernel
theorem dX11_isWord_30 : decode cX11_isWord 30 = .ok (.iconst 0, 1) := by decide +kernel
theorem dX11_isWord_31 : decode cX11_isWord 31 = .ok (.istore_n 3, 1) := by decide +kernel
theorem dX11_isWord_32 : decode cX11_isWord 32 = .ok (.iload_n 3, 1) := by decide +kernel
theorem dX11_isWord_33 : decode cX11_isWord 33 = .ok (.aload_n 0, 1) := by decide +kernel
theorem dX11_isWord_34 : decode cX11_isWord 34 = .ok (.getfield 96, 3) := by decide +kernel
theorem dX11_isWord_37 : decode cX11_isWord 37 = .ok (.if_icmp .ge 33, 3) := by decide +kernel
theorem dX11_isWord_40 : decode cX11_isWord 40 = .ok (.iload_n 2, 1) := by decide +kernel
theorem dX11_isWord_41 : decode cX11_isWord 41 = .ok (.ifCond .eq 21, 3) := by decide +kernel
theorem dX11_isWord_44 : decode cX11_isWord 44 = .ok (.aload_n 0, 1) := by decide +kernel
theorem dX11_isWord_45 : decode cX11_isWord 45 = .ok (.getfield 17, 3) := by decide +kernel
theorem dX11_isWord_48 : decode cX11_isWord 48 = .ok (.iload_n 3, 1) := by decide +kernel
theorem dX11_isWord_49 : decode cX11_isWord 49 = .ok (.iaload, 1) := by decide +kernel
theorem dX11_isWord_50 : decode cX11_isWord 50 = .ok (.aload_n 1, 1) := by decide +kernel
theorem dX11_isWord_51 : decode cX11_isWord 51 = .ok (.iload_n 3, 1) := by decide +kernel
theorem dX11_isWord_52 : decode cX11_isWord 52 = .ok (.invokevirtual 125, 3) := by decide +kernel
theorem dX11_isWord_55 : decode cX11_isWord 55 = .ok (.if_icmp .ne 7, 3) := by decide +kernel
theorem dX11_isWord_58 : decode cX11_isWord 58 = .ok (.iconst 1, 1) := by decide +kernel
theorem dX11_isWord_59 : decode cX11_isWord 59 = .ok (.goto 4, 3) := by decide +kernel
theorem dX11_isWord_62 : decode cX11_isWord 62 = .ok (.iconst 0, 1) := by decide +kernel
theorem dX11_isWord_63 : decode cX11_isWord 63 = .ok (.istore_n 2, 1) := by decide +kernel
theorem dX11_isWord_64 : decode cX11_isWord 64 = .ok (.iinc 3 1, 3) := by decide +kernel
theorem dX11_isWord_67 : decode cX11_isWord 67 = .ok (.goto (-35), 3) := by decide +kernel
theorem dX11_isWord_70 : decode cX11_isWord 70 = .ok (.iload_n 2, 1) := by decide +kernel
theorem dX11_isWord_71 : decode cX11_isWord 71 = .ok (.ireturn, 1) := by decide +kernel
theorem dX11_takes_0 : decode cX11_takes 0 = .ok (.aload_n 0, 1) := by decide +kernel
theorem dX11_takes_1 : decode cX11_takes 1 = .ok (.aload_n 1, 1) := by decide +kernel
theorem dX11_takes_2 : decode cX11_takes 2 = .ok (.invokevirtual 129, 3) := by decide +kernel
theorem dX11_takes_5 : decode cX11_takes 5 = .ok (.ifCond .ne 5, 3) := by decide +kernel
theorem dX11_takes_8 : decode cX11_takes 8 = .ok (.iconst 0, 1) := by decide +kernel
theorem dX11_takes_9 : decode cX11_takes 9 = .ok (.ireturn, 1) := by decide +kernel
theorem dX11_takes_10 : decode cX11_takes 10 = .ok (.aload_n 0, 1) := by decide +kernel
theorem dX11_takes_11 : decode cX11_takes 11 = .ok (.invokevirtual 133, 3) := by decide +kernel
theorem dX11_takes_14 : decode cX11_takes 14 = .ok (.iconst 1, 1) := by decide +kernel
theorem dX11_takes_15 : decode cX11_takes 15 = .ok (.ireturn, 1) := by decide +kernel
theorem dX11_must_0 : decode cX11_must 0 = .ok (.aload_n 0, 1) := by decide +kernel
theorem dX11_must_1 : decode cX11_must 1 = .ok (.getfield 112, 3) := by decide +kernel
theorem dX11_must_4 : decode cX11_must 4 = .ok (.ifCond .ne 20, 3) := by decide +kernel
theorem dX11_must_7 : decode cX11_must 7 = .ok (.aload_n 0, 1) := by decide +kernel
theorem dX11_must_8 : decode cX11_must 8 = .ok (.aload_n 1, 1) := by decide +kernel
theorem dX11_must_9 : decode cX11_must 9 = .ok (.invokevirtual 136, 3) := by decide +kernel
theorem dX11_must_12 : decode cX11_must 12 = .ok (.ifCond .ne 12, 3) := by decide +kernel
theorem dX11_must_15 : decode cX11_must 15 = .ok (.aload_n 0, 1) := by decide +kernel
theorem dX11_must_16 : decode cX11_must 16 = .ok (.iconst 1, 1) := by decide +kernel
theorem dX11_must_17 : decode cX11_must 17 = .ok (.aload_n 0, 1) := by decide +kernel
theorem dX11_must_18 : decode cX11_must 18 = .ok (.getfield 93, 3) := by decide +kernel
theorem dX11_must_21 : decode cX11_must 21 = .ok (.invokevirtual 139, 3) := by decide +kernel
theorem dX11_must_24 : decode cX11_must 24 = .ok (.return_, 1) := by decide +kernel
theorem dX11_mustWord_0 : decode cX11_mustWord 0 = .ok (.aload_n 0, 1) := by decide +kernel
theorem dX11_mustWord_1 : decode cX11_mustWord 1 = .ok (.getfield 112, 3) := by decide +kernel
theorem dX11_mustWord_4 : decode cX11_mustWord 4 = .ok (.ifCond .ne 20, 3) := by decide +kernel
theorem dX11_mustWord_7 : decode cX11_mustWord 7 = .ok (.aload_n 0, 1) := by decide +kernel
theorem dX11_mustWord_8 : decode cX11_mustWord 8 = .ok (.getfield 102, 3) := by decide +kernel
theorem dX11_mustWord_11 : decode cX11_mustWord 11 = .ok (.iconst 2, 1) := by decide +kernel
theorem dX11_mustWord_12 : decode cX11_mustWord 12 = .ok (.if_icmp .eq 12, 3) := by decide +kernel
theorem dX11_mustWord_15 : decode cX11_mustWord 15 = .ok (.aload_n 0, 1) := by decide +kernel
theorem dX11_mustWord_16 : decode cX11_mustWord 16 = .ok (.iconst 1, 1) := by decide +kernel
theorem dX11_mustWord_17 : decode cX11_mustWord 17 = .ok (.aload_n 0, 1) := by decide +kernel
theorem dX11_mustWord_18 : decode cX11_mustWord 18 = .ok (.getfield 93, 3) := by decide +kernel
theorem dX11_mustWord_21 : decode cX11_mustWord 21 = .ok (.invokevirtual 139, 3) := by decide +kernel
theorem dX11_mustWord_24 : decode cX11_mustWord 24 = .ok (.return_, 1) := by decide +kernel
theorem dX11_number_0 : decode cX11_number 0 = .ok (.aload_n 0, 1) := by decide +kernel
theorem dX11_number_1 : decode cX11_number 1 = .ok (.getfield 112, 3) := by decide +kernel
theorem dX11_number_4 : decode cX11_number 4 = .ok (.ifCond .eq 5, 3) := by decide +kernel
theorem dX11_number_7 : decode cX11_number 7 = .ok (.iload_n 1, 1) := by decide +kernel
theorem dX11_number_8 : decode cX11_number 8 = .ok (.ireturn, 1) := by decide +kernel
theorem dX11_number_9 : decode cX11_number 9 = .ok (.aload_n 0, 1) := by decide +kernel
theorem dX11_number_10 : decode cX11_number 10 = .ok (.getfield 102, 3) := by decide +kernel
theorem dX11_number_13 : decode cX11_number 13 = .ok (.iconst 3, 1) := by decide +kernel
theorem dX11_number_14 : decode cX11_number 14 = .ok (.if_icmp .eq 14, 3) := by decide +kernel
theorem dX11_number_17 : decode cX11_number 17 = .ok (.aload_n 0, 1) := by decide +kernel
theorem dX11_number_18 : decode cX11_number 18 = .ok (.iconst 1, 1) := by decide +kernel
theorem dX11_number_19 : decode cX11_number 19 = .ok (.aload_n 0, 1) := by decide +kernel
theorem dX11_number_20 : decode cX11_number 20 = .ok (.getfield 93, 3) := by decide +kernel
theorem dX11_number_23 : decode cX11_number 23 = .ok (.invokevirtual 139, 3) := by decide +kernel
theorem dX11_number_26 : decode cX11_number 26 = .ok (.iload_n 1, 1) := by decide +kernel
theorem dX11_number_27 : decode cX11_number 27 = .ok (.ireturn, 1) := by decide +kernel
theorem dX11_number_28 : decode cX11_number 28 = .ok (.aload_n 0, 1) := by decide +kernel
theorem dX11_number_29 : decode cX11_number 29 = .ok (.getfield 99, 3) := by decide +kernel
theorem dX11_number_32 : decode cX11_number 32 = .ok (.istore_n 3, 1) := by decide +kernel
theorem dX11_number_33 : decode cX11_number 33 = .ok (.iload_n 3, 1) := by decide +kernel
theorem dX11_number_34 : decode cX11_number 34 = .ok (.iload_n 1, 1) := by decide +kernel
theorem dX11_number_35 : decode cX11_number 35 = .ok (.iload_n 2, 1) := by decide +kernel
theorem dX11_number_36 : decode cX11_number 36 = .ok (.invokestatic 143, 3) := by decide +kernel
theorem dX11_number_39 : decode cX11_number 39 = .ok (.ifCond .ne 14, 3) := by decide +kernel
theorem dX11_number_42 : decode cX11_number 42 = .ok (.aload_n 0, 1) := by decide +kernel
theorem dX11_number_43 : decode cX11_number 43 = .ok (.iconst 4, 1) := by decide +kernel
theorem dX11_number_44 : decode cX11_number 44 = .ok (.aload_n 0, 1) := by decide +kernel
theorem dX11_number_45 : decode cX11_number 45 = .ok (.getfield 93, 3) := by decide +kernel
theorem dX11_number_48 : decode cX11_number 48 = .ok (.invokevirtual 139, 3) := by decide +kernel
theorem dX11_number_51 : decode cX11_number 51 = .ok (.iload_n 1, 1) := by decide +kernel
theorem dX11_number_52 : decode cX11_number 52 = .ok (.ireturn, 1) := by decide +kernel
theorem dX11_number_53 : decode cX11_number 53 = .ok (.aload_n 0, 1) := by decide +kernel
theorem dX11_number_54 : decode cX11_number 54 = .ok (.invokevirtual 133, 3) := by decide +kernel
theorem dX11_number_57 : decode cX11_number 57 = .ok (.iload_n 3, 1) := by decide +kernel
theorem dX11_number_58 : decode cX11_number 58 = .ok (.ireturn, 1) := by decide +kernel
theorem dX11_told_0 : decode cX11_told 0 = .ok (.aload_n 0, 1) := by decide +kernel
theorem dX11_told_1 : decode cX11_told 1 = .ok (.aload_n 1, 1) := by decide +kernel
theorem dX11_told_2 : decode cX11_told 2 = .ok (.invokevirtual 147, 3) := by decide +kernel
theorem dX11_told_5 : decode cX11_told 5 = .ok (.aload_n 0, 1) := by decide +kernel
theorem dX11_told_6 : decode cX11_told 6 = .ok (.iload_n 2, 1) := by decide +kernel
theorem dX11_told_7 : decode cX11_told 7 = .ok (.iload_n 3, 1) := by decide +kernel
theorem dX11_told_8 : decode cX11_told 8 = .ok (.invokevirtual 151, 3) := by decide +kernel
theorem dX11_told_11 : decode cX11_told 11 = .ok (.ireturn, 1) := by decide +kernel
theorem dX11_comma_0 : decode cX11_comma 0 = .ok (.aload_n 0, 1) := by decide +kernel
theorem dX11_comma_1 : decode cX11_comma 1 = .ok (.getfield 112, 3) := by decide +kernel
theorem dX11_comma_4 : decode cX11_comma 4 = .ok (.ifCond .ne 12, 3) := by decide +kernel
theorem dX11_comma_7 : decode cX11_comma 7 = .ok (.aload_n 0, 1) := by decide +kernel
theorem dX11_comma_8 : decode cX11_comma 8 = .ok (.getfield 102, 3) := by decide +kernel
theorem dX11_comma_11 : decode cX11_comma 11 = .ok (.bipush 44, 2) := by decide +kernel
theorem dX11_comma_13 : decode cX11_comma 13 = .ok (.if_icmp .eq 5, 3) := by decide +kernel
theorem dX11_comma_16 : decode cX11_comma 16 = .ok (.iconst 0, 1) := by decide +kernel
theorem dX11_comma_17 : decode cX11_comma 17 = .ok (.ireturn, 1) := by decide +kernel
theorem dX11_comma_18 : decode cX11_comma 18 = .ok (.aload_n 0, 1) := by decide +kernel
theorem dX11_comma_19 : decode cX11_comma 19 = .ok (.invokevirtual 133, 3) := by decide +kernel
theorem dX11_comma_22 : decode cX11_comma 22 = .ok (.iconst 1, 1) := by decide +kernel
theorem dX11_comma_23 : decode cX11_comma 23 = .ok (.ireturn, 1) := by decide +kernel
theorem dX11_find_0 : decode cX11_find 0 = .ok (.iconst 0, 1) := by decide +kernel
theorem dX11_find_1 : decode cX11_find 1 = .ok (.istore 5, 2) := by decide +kernel
theorem dX11_find_3 : decode cX11_find 3 = .ok (.iload 5, 2) := by decide +kernel
theorem dX11_find_5 : decode cX11_find 5 = .ok (.iload_n 1, 1) := by decide +kernel
theorem dX11_find_6 : decode cX11_find 6 = .ok (.if_icmp .ge 95, 3) := by decide +kernel
theorem dX11_find_9 : decode cX11_find 9 = .ok (.aload_n 0, 1) := by decide +kernel
theorem dX11_find_10 : decode cX11_find 10 = .ok (.getfield 23, 3) := by decide +kernel
theorem dX11_find_13 : decode cX11_find 13 = .ok (.iload_n 2, 1) := by decide +kernel
theorem dX11_find_14 : decode cX11_find 14 = .ok (.iload 5, 2) := by decide +kernel
theorem dX11_find_16 : decode cX11_find 16 = .ok (.iadd, 1) := by decide +kernel
theorem dX11_find_17 : decode cX11_find 17 = .ok (.iaload, 1) := by decide +kernel
theorem dX11_find_18 : decode cX11_find 18 = .ok (.aload_n 0, 1) := by decide +kernel
theorem dX11_find_19 : decode cX11_find 19 = .ok (.getfield 96, 3) := by decide +kernel
theorem dX11_find_22 : decode cX11_find 22 = .ok (.if_icmp .ne 7, 3) := by decide +kernel
theorem dX11_find_25 : decode cX11_find 25 = .ok (.iconst 1, 1) := by decide +kernel
theorem dX11_find_26 : decode cX11_find 26 = .ok (.goto 4, 3) := by decide +kernel
theorem dX11_find_29 : decode cX11_find 29 = .ok (.iconst 0, 1) := by decide +kernel
theorem dX11_find_30 : decode cX11_find 30 = .ok (.istore 6, 2) := by decide +kernel
theorem dX11_find_32 : decode cX11_find 32 = .ok (.iconst 0, 1) := by decide +kernel
theorem dX11_find_33 : decode cX11_find 33 = .ok (.istore 7, 2) := by decide +kernel
theorem dX11_find_35 : decode cX11_find 35 = .ok (.iload 7, 2) := by decide +kernel
theorem dX11_find_37 : decode cX11_find 37 = .ok (.aload_n 0, 1) := by decide +kernel
theorem dX11_find_38 : decode cX11_find 38 = .ok (.getfield 96, 3) := by decide +kernel
theorem dX11_find_41 : decode cX11_find 41 = .ok (.if_icmp .ge 46, 3) := by decide +kernel
theorem dX11_find_44 : decode cX11_find 44 = .ok (.iload 6, 2) := by decide +kernel
theorem dX11_find_46 : decode cX11_find 46 = .ok (.ifCond .eq 41, 3) := by decide +kernel
theorem dX11_find_49 : decode cX11_find 49 = .ok (.aload_n 0, 1) := by decide +kernel
theorem dX11_find_50 : decode cX11_find 50 = .ok (.getfield 23, 3) := by decide +kernel
theorem dX11_find_53 : decode cX11_find 53 = .ok (.iload_n 3, 1) := by decide +kernel
theorem dX11_find_54 : decode cX11_find 54 = .ok (.iload 4, 2) := by decide +kernel
theorem dX11_find_56 : decode cX11_find 56 = .ok (.iload 5, 2) := by decide +kernel
theorem dX11_find_58 : decode cX11_find 58 = .ok (.imul, 1) := by decide +kernel
theorem dX11_find_59 : decode cX11_find 59 = .ok (.iadd, 1) := by decide +kernel
theorem dX11_find_60 : decode cX11_find 60 = .ok (.iload 7, 2) := by decide +kernel
theorem dX11_find_62 : decode cX11_find 62 = .ok (.iadd, 1) := by decide +kernel
theorem dX11_find_63 : decode cX11_find 63 = .ok (.iaload, 1) := by decide +kernel
theorem dX11_find_64 : decode cX11_find 64 = .ok (.aload_n 0, 1) := by decide +kernel
theorem dX11_find_65 : decode cX11_find 65 = .ok (.getfield 17, 3) := by decide +kernel
theorem dX11_find_68 : decode cX11_find 68 = .ok (.iload 7, 2) := by decide +kernel
theorem dX11_find_70 : decode cX11_find 70 = .ok (.iaload, 1) := by decide +kernel
theorem dX11_find_71 : decode cX11_find 71 = .ok (.if_icmp .ne 7, 3) := by decide +kernel
theorem dX11_find_74 : decode cX11_find 74 = .ok (.iconst 1, 1) := by decide +kernel
theorem dX11_find_75 : decode cX11_find 75 = .ok (.goto 4, 3) := by decide +kernel
theorem dX11_find_78 : decode cX11_find 78 = .ok (.iconst 0, 1) := by decide +kernel
theorem dX11_find_79 : decode cX11_find 79 = .ok (.istore 6, 2) := by decide +kernel
theorem dX11_find_81 : decode cX11_find 81 = .ok (.iinc 7 1, 3) := by decide +kernel
theorem dX11_find_84 : decode cX11_find 84 = .ok (.goto (-49), 3) := by decide +kernel
theorem dX11_find_87 : decode cX11_find 87 = .ok (.iload 6, 2) := by decide +kernel
theorem dX11_find_89 : decode cX11_find 89 = .ok (.ifCond .eq 6, 3) := by decide +kernel
theorem dX11_find_92 : decode cX11_find 92 = .ok (.iload 5, 2) := by decide +kernel
theorem dX11_find_94 : decode cX11_find 94 = .ok (.ireturn, 1) := by decide +kernel
theorem dX11_find_95 : decode cX11_find 95 = .ok (.iinc 5 1, 3) := by decide +kernel
theorem dX11_find_98 : decode cX11_find 98 = .ok (.goto (-95), 3) := by decide +kernel
theorem dX11_find_101 : decode cX11_find 101 = .ok (.iconst (-1), 1) := by decide +kernel
theorem dX11_find_102 : decode cX11_find 102 = .ok (.ireturn, 1) := by decide +kernel
theorem dX11_inn_0 : decode cX11_inn 0 = .ok (.aload_n 0, 1) := by decide +kernel
theorem dX11_inn_1 : decode cX11_inn 1 = .ok (.invokevirtual 155, 3) := by decide +kernel
theorem dX11_inn_4 : decode cX11_inn 4 = .ok (.iload_n 1, 1) := by decide +kernel
theorem dX11_inn_5 : decode cX11_inn 5 = .ok (.iconst 0, 1) := by decide +kernel
theorem dX11_inn_6 : decode cX11_inn 6 = .ok (.aload_n 0, 1) := by decide +kernel
theorem dX11_inn_7 : decode cX11_inn 7 = .ok (.getfield 80, 3) := by decide +kernel
theorem dX11_inn_10 : decode cX11_inn 10 = .ok (.invokestatic 143, 3) := by decide +kernel
theorem dX11_inn_13 : decode cX11_inn 13 = .ok (.ifCond .ne 9, 3) := by decide +kernel
theorem dX11_inn_16 : decode cX11_inn 16 = .ok (.aload_n 0, 1) := by decide +kernel
theorem dX11_inn_17 : decode cX11_inn 17 = .ok (.iconst 2, 1) := by decide +kernel
theorem dX11_inn_18 : decode cX11_inn 18 = .ok (.invokevirtual 158, 3) := by decide +kernel
theorem dX11_inn_21 : decode cX11_inn 21 = .ok (.ireturn, 1) := by decide +kernel
theorem dX11_inn_22 : decode cX11_inn 22 = .ok (.aload_n 0, 1) := by decide +kernel
theorem dX11_inn_23 : decode cX11_inn 23 = .ok (.iconst 0, 1) := by decide +kernel
theorem dX11_inn_24 : decode cX11_inn 24 = .ok (.putfield 80, 3) := by decide +kernel
theorem dX11_inn_27 : decode cX11_inn 27 = .ok (.aload_n 0, 1) := by decide +kernel
theorem dX11_inn_28 : decode cX11_inn 28 = .ok (.iconst 0, 1) := by decide +kernel
theorem dX11_inn_29 : decode cX11_inn 29 = .ok (.putfield 116, 3) := by decide +kernel
theorem dX11_inn_32 : decode cX11_inn 32 = .ok (.aload_n 0, 1) := by decide +kernel
theorem dX11_inn_33 : decode cX11_inn 33 = .ok (.iconst 0, 1) := by decide +kernel
theorem dX11_inn_34 : decode cX11_inn 34 = .ok (.putfield 112, 3) := by decide +kernel
theorem dX11_inn_37 : decode cX11_inn 37 = .ok (.iconst 0, 1) := by decide +kernel
theorem dX11_inn_38 : decode cX11_inn 38 = .ok (.istore_n 2, 1) := by decide +kernel
theorem dX11_inn_39 : decode cX11_inn 39 = .ok (.iload_n 2, 1) := by decide +kernel
theorem dX11_inn_40 : decode cX11_inn 40 = .ok (.sipush 322, 3) := by decide +kernel
theorem dX11_inn_43 : decode cX11_inn 43 = .ok (.if_icmp .ge 16, 3) := by decide +kernel
theorem dX11_inn_46 : decode cX11_inn 46 = .ok (.aload_n 0, 1) := by decide +kernel
theorem dX11_inn_47 : decode cX11_inn 47 = .ok (.getfield 23, 3) := by decide +kernel
theorem dX11_inn_50 : decode cX11_inn 50 = .ok (.iload_n 2, 1) := by decide +kernel
theorem dX11_inn_51 : decode cX11_inn 51 = .ok (.iconst 0, 1) := by decide +kernel
theorem dX11_inn_52 : decode cX11_inn 52 = .ok (.iastore, 1) := by decide +kernel
theorem dX11_inn_53 : decode cX11_inn 53 = .ok (.iinc 2 1, 3) := by decide +kernel
theorem dX11_inn_56 : decode cX11_inn 56 = .ok (.goto (-17), 3) := by decide +kernel
theorem dX11_inn_59 : decode cX11_inn 59 = .ok (.aload_n 0, 1) := by decide +kernel
theorem dX11_inn_60 : decode cX11_inn 60 = .ok (.iload_n 1, 1) := by decide +kernel
theorem dX11_inn_61 : decode cX11_inn 61 = .ok (.putfield 83, 3) := by decide +kernel
theorem dX11_inn_64 : decode cX11_inn 64 = .ok (.aload_n 0, 1) := by decide +kernel
theorem dX11_inn_65 : decode cX11_inn 65 = .ok (.iconst 0, 1) := by decide +kernel
theorem dX11_inn_66 : decode cX11_inn 66 = .ok (.putfield 86, 3) := by decide +kernel
theorem dX11_inn_69 : decode cX11_inn 69 = .ok (.aload_n 0, 1) := by decide +kernel
theorem dX11_inn_70 : decode cX11_inn 70 = .ok (.invokevirtual 133, 3) := by decide +kernel
theorem dX11_inn_73 : decode cX11_inn 73 = .ok (.aload_n 0, 1) := by decide +kernel
theorem dX11_inn_74 : decode cX11_inn 74 = .ok (.invokevirtual 161, 3) := by decide +kernel
theorem dX11_inn_77 : decode cX11_inn 77 = .ok (.aload_n 0, 1) := by decide +kernel
theorem dX11_inn_78 : decode cX11_inn 78 = .ok (.getfield 112, 3) := by decide +kernel
theorem dX11_inn_81 : decode cX11_inn 81 = .ok (.ifCond .ne 23, 3) := by decide +kernel
theorem dX11_inn_84 : decode cX11_inn 84 = .ok (.aload_n 0, 1) := by decide +kernel
theorem dX11_inn_85 : decode cX11_inn 85 = .ok (.getfield 102, 3) := by decide +kernel
theorem dX11_inn_88 : decode cX11_inn 88 = .ok (.bipush 59, 2) := by decide +kernel
theorem dX11_inn_90 : decode cX11_inn 90 = .ok (.if_icmp .ne 14, 3) := by decide +kernel
theorem dX11_inn_93 : decode cX11_inn 93 = .ok (.aload_n 0, 1) := by decide +kernel
theorem dX11_inn_94 : decode cX11_inn 94 = .ok (.invokevirtual 133, 3) := by decide +kernel
theorem dX11_inn_97 : decode cX11_inn 97 = .ok (.aload_n 0, 1) := by decide +kernel
theorem dX11_inn_98 : decode cX11_inn 98 = .ok (.invokevirtual 161, 3) := by decide +kernel
theorem dX11_inn_101 : decode cX11_inn 101 = .ok (.goto (-24), 3) := by decide +kernel
theorem dX11_inn_104 : decode cX11_inn 104 = .ok (.aload_n 0, 1) := by decide +kernel
theorem dX11_inn_105 : decode cX11_inn 105 = .ok (.getfield 112, 3) := by decide +kernel
theorem dX11_inn_108 : decode cX11_inn 108 = .ok (.ifCond .ne 19, 3) := by decide +kernel
theorem dX11_inn_111 : decode cX11_inn 111 = .ok (.aload_n 0, 1) := by decide +kernel
theorem dX11_inn_112 : decode cX11_inn 112 = .ok (.getfield 102, 3) := by decide +kernel
theorem dX11_inn_115 : decode cX11_inn 115 = .ok (.ifCond .eq 12, 3) := by decide +kernel
theorem dX11_inn_118 : decode cX11_inn 118 = .ok (.aload_n 0, 1) := by decide +kernel
theorem dX11_inn_119 : decode cX11_inn 119 = .ok (.iconst 1, 1) := by decide +kernel
theorem dX11_inn_120 : decode cX11_inn 120 = .ok (.aload_n 0, 1) := by decide +kernel
theorem dX11_inn_121 : decode cX11_inn 121 = .ok (.getfield 93, 3) := by decide +kernel
theorem dX11_inn_124 : decode cX11_inn 124 = .ok (.invokevirtual 139, 3) := by decide +kernel
theorem dX11_inn_127 : decode cX11_inn 127 = .ok (.aload_n 0, 1) := by decide +kernel
theorem dX11_inn_128 : decode cX11_inn 128 = .ok (.getfield 112, 3) := by decide +kernel
theorem dX11_inn_131 : decode cX11_inn 131 = .ok (.ifCond .ne 40, 3) := by decide +kernel
theorem dX11_inn_134 : decode cX11_inn 134 = .ok (.aload_n 0, 1) := by decide +kernel
theorem dX11_inn_135 : decode cX11_inn 135 = .ok (.getfield 23, 3) := by decide +kernel
theorem dX11_inn_138 : decode cX11_inn 138 = .ok (.iconst 0, 1) := by decide +kernel
theorem dX11_inn_139 : decode cX11_inn 139 = .ok (.iaload, 1) := by decide +kernel
theorem dX11_inn_140 : decode cX11_inn 140 = .ok (.ifCond .eq 21, 3) := by decide +kernel
theorem dX11_inn_143 : decode cX11_inn 143 = .ok (.aload_n 0, 1) := by decide +kernel
theorem dX11_inn_144 : decode cX11_inn 144 = .ok (.getfield 23, 3) := by decide +kernel
theorem dX11_inn_147 : decode cX11_inn 147 = .ok (.iconst 3, 1) := by decide +kernel
theorem dX11_inn_148 : decode cX11_inn 148 = .ok (.iaload, 1) := by decide +kernel
theorem dX11_inn_149 : decode cX11_inn 149 = .ok (.ifCond .eq 12, 3) := by decide +kernel
theorem dX11_inn_152 : decode cX11_inn 152 = .ok (.aload_n 0, 1) := by decide +kernel
theorem dX11_inn_153 : decode cX11_inn 153 = .ok (.getfield 23, 3) := by decide +kernel
theorem dX11_inn_156 : decode cX11_inn 156 = .ok (.iconst 4, 1) := by decide +kernel
theorem dX11_inn_157 : decode cX11_inn 157 = .ok (.iaload, 1) := by decide +kernel
theorem dX11_inn_158 : decode cX11_inn 158 = .ok (.ifCond .ne 13, 3) := by decide +kernel
theorem dX11_inn_161 : decode cX11_inn 161 = .ok (.aload_n 0, 1) := by decide +kernel
theorem dX11_inn_162 : decode cX11_inn 162 = .ok (.bipush 6, 2) := by decide +kernel
theorem dX11_inn_164 : decode cX11_inn 164 = .ok (.aload_n 0, 1) := by decide +kernel
theorem dX11_inn_165 : decode cX11_inn 165 = .ok (.getfield 93, 3) := by decide +kernel
theorem dX11_inn_168 : decode cX11_inn 168 = .ok (.invokevirtual 139, 3) := by decide +kernel
theorem dX11_inn_171 : decode cX11_inn 171 = .ok (.aload_n 0, 1) := by decide +kernel
theorem dX11_inn_172 : decode cX11_inn 172 = .ok (.getfield 112, 3) := by decide +kernel
theorem dX11_inn_175 : decode cX11_inn 175 = .ok (.ifCond .eq 9, 3) := by decide +kernel
theorem dX11_inn_178 : decode cX11_inn 178 = .ok (.aload_n 0, 1) := by decide +kernel
theorem dX11_inn_179 : decode cX11_inn 179 = .ok (.iconst 4, 1) := by decide +kernel
theorem dX11_inn_180 : decode cX11_inn 180 = .ok (.invokevirtual 158, 3) := by decide +kernel
theorem dX11_inn_183 : decode cX11_inn 183 = .ok (.ireturn, 1) := by decide +kernel
theorem dX11_inn_184 : decode cX11_inn 184 = .ok (.iconst 0, 1) := by decide +kernel
theorem dX11_inn_185 : decode cX11_inn 185 = .ok (.istore_n 2, 1) := by decide +kernel
theorem dX11_inn_186 : decode cX11_inn 186 = .ok (.iload_n 2, 1) := by decide +kernel
theorem dX11_inn_187 : decode cX11_inn 187 = .ok (.sipush 322, 3) := by decide +kernel
theorem dX11_inn_190 : decode cX11_inn 190 = .ok (.if_icmp .ge 21, 3) := by decide +kernel
theorem dX11_inn_193 : decode cX11_inn 193 = .ok (.aload_n 0, 1) := by decide +kernel
theorem dX11_inn_194 : decode cX11_inn 194 = .ok (.getfield 20, 3) := by decide +kernel
theorem dX11_inn_197 : decode cX11_inn 197 = .ok (.iload_n 2, 1) := by decide +kernel
theorem dX11_inn_198 : decode cX11_inn 198 = .ok (.aload_n 0, 1) := by decide +kernel
theorem dX11_inn_199 : decode cX11_inn 199 = .ok (.getfield 23, 3) := by decide +kernel
theorem dX11_inn_202 : decode cX11_inn 202 = .ok (.iload_n 2, 1) := by decide +kernel
theorem dX11_inn_203 : decode cX11_inn 203 = .ok (.iaload, 1) := by decide +kernel
theorem dX11_inn_204 : decode cX11_inn 204 = .ok (.iastore, 1) := by decide +kernel
theorem dX11_inn_205 : decode cX11_inn 205 = .ok (.iinc 2 1, 3) := by decide +kernel
theorem dX11_inn_208 : decode cX11_inn 208 = .ok (.goto (-22), 3) := by decide +kernel
theorem dX11_inn_211 : decode cX11_inn 211 = .ok (.aload_n 0, 1) := by decide +kernel
theorem dX11_inn_212 : decode cX11_inn 212 = .ok (.iconst 1, 1) := by decide +kernel
theorem dX11_inn_213 : decode cX11_inn 213 = .ok (.putfield 164, 3) := by decide +kernel
theorem dX11_inn_216 : decode cX11_inn 216 = .ok (.aload_n 0, 1) := by decide +kernel
theorem dX11_inn_217 : decode cX11_inn 217 = .ok (.invokevirtual 167, 3) := by decide +kernel
theorem dX11_inn_220 : decode cX11_inn 220 = .ok (.aload_n 0, 1) := by decide +kernel
theorem dX11_inn_221 : decode cX11_inn 221 = .ok (.iconst 0, 1) := by decide +kernel
theorem dX11_inn_222 : decode cX11_inn 222 = .ok (.invokevirtual 170, 3) := by decide +kernel
theorem dX11_inn_225 : decode cX11_inn 225 = .ok (.aload_n 0, 1) := by decide +kernel
theorem dX11_inn_226 : decode cX11_inn 226 = .ok (.iconst 0, 1) := by decide +kernel
theorem dX11_inn_227 : decode cX11_inn 227 = .ok (.putfield 174, 3) := by decide +kernel
theorem dX11_inn_230 : decode cX11_inn 230 = .ok (.aload_n 0, 1) := by decide +kernel
theorem dX11_inn_231 : decode cX11_inn 231 = .ok (.getfield 20, 3) := by decide +kernel
theorem dX11_inn_234 : decode cX11_inn 234 = .ok (.iconst 4, 1) := by decide +kernel
theorem dX11_inn_235 : decode cX11_inn 235 = .ok (.iaload, 1) := by decide +kernel
theorem dX11_inn_236 : decode cX11_inn 236 = .ok (.ireturn, 1) := by decide +kernel
theorem dX11_begins_0 : decode cX11_begins 0 = .ok (.aload_n 0, 1) := by decide +kernel
theorem dX11_begins_1 : decode cX11_begins 1 = .ok (.aload_n 1, 1) := by decide +kernel
theorem dX11_begins_2 : decode cX11_begins 2 = .ok (.invokevirtual 129, 3) := by decide +kernel
theorem dX11_begins_5 : decode cX11_begins 5 = .ok (.ifCond .ne 5, 3) := by decide +kernel
theorem dX11_begins_8 : decode cX11_begins 8 = .ok (.iconst 0, 1) := by decide +kernel
theorem dX11_begins_9 : decode cX11_begins 9 = .ok (.ireturn, 1) := by decide +kernel
theorem dX11_begins_10 : decode cX11_begins 10 = .ok (.iload_n 2, 1) := by decide +kernel
theorem dX11_begins_11 : decode cX11_begins 11 = .ok (.ifCond .ne 12, 3) := by decide +kernel
theorem dX11_begins_14 : decode cX11_begins 14 = .ok (.aload_n 0, 1) := by decide +kernel
theorem dX11_begins_15 : decode cX11_begins 15 = .ok (.iload_n 3, 1) := by decide +kernel
theorem dX11_begins_16 : decode cX11_begins 16 = .ok (.aload_n 0, 1) := by decide +kernel
theorem dX11_begins_17 : decode cX11_begins 17 = .ok (.getfield 93, 3) := by decide +kernel
theorem dX11_begins_20 : decode cX11_begins 20 = .ok (.invokevirtual 139, 3) := by decide +kernel
theorem dX11_begins_23 : decode cX11_begins 23 = .ok (.aload_n 0, 1) := by decide +kernel
theorem dX11_begins_24 : decode cX11_begins 24 = .ok (.getfield 112, 3) := by decide +kernel
theorem dX11_begins_27 : decode cX11_begins 27 = .ok (.ifCond .ne 7, 3) := by decide +kernel
theorem dX11_begins_30 : decode cX11_begins 30 = .ok (.aload_n 0, 1) := by decide +kernel
theorem dX11_begins_31 : decode cX11_begins 31 = .ok (.invokevirtual 133, 3) := by decide +kernel
theorem dX11_begins_34 : decode cX11_begins 34 = .ok (.iconst 1, 1) := by decide +kernel
theorem dX11_begins_35 : decode cX11_begins 35 = .ok (.ireturn, 1) := by decide +kernel
theorem dX11_readLine_0 : decode cX11_readLine 0 = .ok (.aload_n 0, 1) := by decide +kernel
theorem dX11_readLine_1 : decode cX11_readLine 1 = .ok (.ldc 177, 2) := by decide +kernel
theorem dX11_readLine_3 : decode cX11_readLine 3 = .ok (.aload_n 0, 1) := by decide +kernel
theorem dX11_readLine_4 : decode cX11_readLine 4 = .ok (.getfield 23, 3) := by decide +kernel
theorem dX11_readLine_7 : decode cX11_readLine 7 = .ok (.iconst 0, 1) := by decide +kernel
theorem dX11_readLine_8 : decode cX11_readLine 8 = .ok (.iaload, 1) := by decide +kernel
theorem dX11_readLine_9 : decode cX11_readLine 9 = .ok (.ifCond .ne 7, 3) := by decide +kernel
theorem dX11_readLine_12 : decode cX11_readLine 12 = .ok (.iconst 1, 1) := by decide +kernel
theorem dX11_readLine_13 : decode cX11_readLine 13 = .ok (.goto 4, 3) := by decide +kernel
theorem dX11_readLine_16 : decode cX11_readLine 16 = .ok (.iconst 0, 1) := by decide +kernel
theorem dX11_readLine_17 : decode cX11_readLine 17 = .ok (.iconst 3, 1) := by decide +kernel
theorem dX11_readLine_18 : decode cX11_readLine 18 = .ok (.invokevirtual 179, 3) := by decide +kernel
theorem dX11_readLine_21 : decode cX11_readLine 21 = .ok (.ifCond .eq 10, 3) := by decide +kernel
theorem dX11_readLine_24 : decode cX11_readLine 24 = .ok (.aload_n 0, 1) := by decide +kernel
theorem dX11_readLine_25 : decode cX11_readLine 25 = .ok (.invokevirtual 183, 3) := by decide +kernel
theorem dX11_readLine_28 : decode cX11_readLine 28 = .ok (.goto 129, 3) := by decide +kernel
theorem dX11_readLine_31 : decode cX11_readLine 31 = .ok (.aload_n 0, 1) := by decide +kernel
theorem dX11_readLine_32 : decode cX11_readLine 32 = .ok (.ldc 186, 2) := by decide +kernel
theorem dX11_readLine_34 : decode cX11_readLine 34 = .ok (.aload_n 0, 1) := by decide +kernel
theorem dX11_readLine_35 : decode cX11_readLine 35 = .ok (.getfield 23, 3) := by decide +kernel
theorem dX11_readLine_38 : decode cX11_readLine 38 = .ok (.iconst 3, 1) := by decide +kernel
theorem dX11_readLine_39 : decode cX11_readLine 39 = .ok (.iaload, 1) := by decide +kernel
theorem dX11_readLine_40 : decode cX11_readLine 40 = .ok (.bipush 24, 2) := by decide +kernel
theorem dX11_readLine_42 : decode cX11_readLine 42 = .ok (.if_icmp .ge 7, 3) := by decide +kernel
theorem dX11_readLine_45 : decode cX11_readLine 45 = .ok (.iconst 1, 1) := by decide +kernel
theorem dX11_readLine_46 : decode cX11_readLine 46 = .ok (.goto 4, 3) := by decide +kernel
theorem dX11_readLine_49 : decode cX11_readLine 49 = .ok (.iconst 0, 1) := by decide +kernel
theorem dX11_readLine_50 : decode cX11_readLine 50 = .ok (.iconst 5, 1) := by decide +kernel
theorem dX11_readLine_51 : decode cX11_readLine 51 = .ok (.invokevirtual 179, 3) := by decide +kernel
theorem dX11_readLine_54 : decode cX11_readLine 54 = .ok (.ifCond .eq 10, 3) := by decide +kernel
theorem dX11_readLine_57 : decode cX11_readLine 57 = .ok (.aload_n 0, 1) := by decide +kernel
theorem dX11_readLine_58 : decode cX11_readLine 58 = .ok (.invokevirtual 188, 3) := by decide +kernel
theorem dX11_readLine_61 : decode cX11_readLine 61 = .ok (.goto 96, 3) := by decide +kernel
theorem dX11_readLine_64 : decode cX11_readLine 64 = .ok (.aload_n 0, 1) := by decide +kernel
theorem dX11_readLine_65 : decode cX11_readLine 65 = .ok (.ldc 191, 2) := by decide +kernel
theorem dX11_readLine_67 : decode cX11_readLine 67 = .ok (.iconst 1, 1) := by decide +kernel
theorem dX11_readLine_68 : decode cX11_readLine 68 = .ok (.iconst 1, 1) := by decide +kernel
theorem dX11_readLine_69 : decode cX11_readLine 69 = .ok (.invokevirtual 179, 3) := by decide +kernel
theorem dX11_readLine_72 : decode cX11_readLine 72 = .ok (.ifCond .eq 10, 3) := by decide +kernel
theorem dX11_readLine_75 : decode cX11_readLine 75 = .ok (.aload_n 0, 1) := by decide +kernel
theorem dX11_readLine_76 : decode cX11_readLine 76 = .ok (.invokevirtual 193, 3) := by decide +kernel
theorem dX11_readLine_79 : decode cX11_readLine 79 = .ok (.goto 78, 3) := by decide +kernel
theorem dX11_readLine_82 : decode cX11_readLine 82 = .ok (.aload_n 0, 1) := by decide +kernel
theorem dX11_readLine_83 : decode cX11_readLine 83 = .ok (.ldc 196, 2) := by decide +kernel
theorem dX11_readLine_85 : decode cX11_readLine 85 = .ok (.aload_n 0, 1) := by decide +kernel
theorem dX11_readLine_86 : decode cX11_readLine 86 = .ok (.getfield 23, 3) := by decide +kernel
theorem dX11_readLine_89 : decode cX11_readLine 89 = .ok (.iconst 5, 1) := by decide +kernel
theorem dX11_readLine_90 : decode cX11_readLine 90 = .ok (.iaload, 1) := by decide +kernel
theorem dX11_readLine_91 : decode cX11_readLine 91 = .ok (.bipush 6, 2) := by decide +kernel
theorem dX11_readLine_93 : decode cX11_readLine 93 = .ok (.if_icmp .ge 7, 3) := by decide +kernel
theorem dX11_readLine_96 : decode cX11_readLine 96 = .ok (.iconst 1, 1) := by decide +kernel
theorem dX11_readLine_97 : decode cX11_readLine 97 = .ok (.goto 4, 3) := by decide +kernel
theorem dX11_readLine_100 : decode cX11_readLine 100 = .ok (.iconst 0, 1) := by decide +kernel
theorem dX11_readLine_101 : decode cX11_readLine 101 = .ok (.iconst 5, 1) := by decide +kernel
theorem dX11_readLine_102 : decode cX11_readLine 102 = .ok (.invokevirtual 179, 3) := by decide +kernel
theorem dX11_readLine_105 : decode cX11_readLine 105 = .ok (.ifCond .eq 10, 3) := by decide +kernel
theorem dX11_readLine_108 : decode cX11_readLine 108 = .ok (.aload_n 0, 1) := by decide +kernel
theorem dX11_readLine_109 : decode cX11_readLine 109 = .ok (.invokevirtual 198, 3) := by decide +kernel
theorem dX11_readLine_112 : decode cX11_readLine 112 = .ok (.goto 45, 3) := by decide +kernel
theorem dX11_readLine_115 : decode cX11_readLine 115 = .ok (.aload_n 0, 1) := by decide +kernel
theorem dX11_readLine_116 : decode cX11_readLine 116 = .ok (.ldc 201, 2) := by decide +kernel
theorem dX11_readLine_118 : decode cX11_readLine 118 = .ok (.aload_n 0, 1) := by decide +kernel
theorem dX11_readLine_119 : decode cX11_readLine 119 = .ok (.getfield 23, 3) := by decide +kernel
theorem dX11_readLine_122 : decode cX11_readLine 122 = .ok (.sipush 321, 3) := by decide +kernel
theorem dX11_readLine_125 : decode cX11_readLine 125 = .ok (.iaload, 1) := by decide +kernel
theorem dX11_readLine_126 : decode cX11_readLine 126 = .ok (.ifCond .ne 7, 3) := by decide +kernel
theorem dX11_readLine_129 : decode cX11_readLine 129 = .ok (.iconst 1, 1) := by decide +kernel
theorem dX11_readLine_130 : decode cX11_readLine 130 = .ok (.goto 4, 3) := by decide +kernel
theorem dX11_readLine_133 : decode cX11_readLine 133 = .ok (.iconst 0, 1) := by decide +kernel
theorem dX11_readLine_134 : decode cX11_readLine 134 = .ok (.iconst 3, 1) := by decide +kernel
theorem dX11_readLine_135 : decode cX11_readLine 135 = .ok (.invokevirtual 179, 3) := by decide +kernel
theorem dX11_readLine_138 : decode cX11_readLine 138 = .ok (.ifCond .eq 10, 3) := by decide +kernel
theorem dX11_readLine_141 : decode cX11_readLine 141 = .ok (.aload_n 0, 1) := by decide +kernel
theorem dX11_readLine_142 : decode cX11_readLine 142 = .ok (.invokevirtual 203, 3) := by decide +kernel
theorem dX11_readLine_145 : decode cX11_readLine 145 = .ok (.goto 12, 3) := by decide +kernel
theorem dX11_readLine_148 : decode cX11_readLine 148 = .ok (.aload_n 0, 1) := by decide +kernel
theorem dX11_readLine_149 : decode cX11_readLine 149 = .ok (.iconst 1, 1) := by decide +kernel
theorem dX11_readLine_150 : decode cX11_readLine 150 = .ok (.aload_n 0, 1) := by decide +kernel
theorem dX11_readLine_151 : decode cX11_readLine 151 = .ok (.getfield 93, 3) := by decide +kernel
theorem dX11_readLine_154 : decode cX11_readLine 154 = .ok (.invokevirtual 139, 3) := by decide +kernel
theorem dX11_readLine_157 : decode cX11_readLine 157 = .ok (.return_, 1) := by decide +kernel
theorem dX11_innLine_0 : decode cX11_innLine 0 = .ok (.aload_n 0, 1) := by decide +kernel
theorem dX11_innLine_1 : decode cX11_innLine 1 = .ok (.getfield 112, 3) := by decide +kernel
theorem dX11_innLine_4 : decode cX11_innLine 4 = .ok (.ifCond .eq 4, 3) := by decide +kernel
theorem dX11_innLine_7 : decode cX11_innLine 7 = .ok (.return_, 1) := by decide +kernel
theorem dX11_innLine_8 : decode cX11_innLine 8 = .ok (.aload_n 0, 1) := by decide +kernel
theorem dX11_innLine_9 : decode cX11_innLine 9 = .ok (.ldc 206, 2) := by decide +kernel
theorem dX11_innLine_11 : decode cX11_innLine 11 = .ok (.iconst 1, 1) := by decide +kernel
theorem dX11_innLine_12 : decode cX11_innLine 12 = .ok (.iconst 3, 1) := by decide +kernel
theorem dX11_innLine_13 : decode cX11_innLine 13 = .ok (.invokevirtual 208, 3) := by decide +kernel
theorem dX11_innLine_16 : decode cX11_innLine 16 = .ok (.istore_n 1, 1) := by decide +kernel
theorem dX11_innLine_17 : decode cX11_innLine 17 = .ok (.aload_n 0, 1) := by decide +kernel
