theorem dX11_mark_18 : decode cX11_mark 18 = .ok (.getfield 174, 3) := by decide +kernel
theorem dX11_mark_21 : decode cX11_mark 21 = .ok (.iconst 3, 1) := by decide +kernel
theorem dX11_mark_22 : decode cX11_mark 22 = .ok (.if_icmp .ne 9, 3) := by decide +kernel
theorem dX11_mark_25 : decode cX11_mark 25 = .ok (.aload_n 0, 1) := by decide +kernel
theorem dX11_mark_26 : decode cX11_mark 26 = .ok (.iconst 3, 1) := by decide +kernel
theorem dX11_mark_27 : decode cX11_mark 27 = .ok (.invokevirtual 158, 3) := by decide +kernel
theorem dX11_mark_30 : decode cX11_mark 30 = .ok (.ireturn, 1) := by decide +kernel
theorem dX11_mark_31 : decode cX11_mark 31 = .ok (.iconst 0, 1) := by decide +kernel
theorem dX11_mark_32 : decode cX11_mark 32 = .ok (.istore_n 1, 1) := by decide +kernel
theorem dX11_mark_33 : decode cX11_mark 33 = .ok (.iload_n 1, 1) := by decide +kernel
theorem dX11_mark_34 : decode cX11_mark 34 = .ok (.bipush 6, 2) := by decide +kernel
theorem dX11_mark_36 : decode cX11_mark 36 = .ok (.if_icmp .ge 29, 3) := by decide +kernel
theorem dX11_mark_39 : decode cX11_mark 39 = .ok (.aload_n 0, 1) := by decide +kernel
theorem dX11_mark_40 : decode cX11_mark 40 = .ok (.getfield 29, 3) := by decide +kernel
theorem dX11_mark_43 : decode cX11_mark 43 = .ok (.bipush 6, 2) := by decide +kernel
theorem dX11_mark_45 : decode cX11_mark 45 = .ok (.aload_n 0, 1) := by decide +kernel
theorem dX11_mark_46 : decode cX11_mark 46 = .ok (.getfield 174, 3) := by decide +kernel
theorem dX11_mark_49 : decode cX11_mark 49 = .ok (.imul, 1) := by decide +kernel
theorem dX11_mark_50 : decode cX11_mark 50 = .ok (.iload_n 1, 1) := by decide +kernel
theorem dX11_mark_51 : decode cX11_mark 51 = .ok (.iadd, 1) := by decide +kernel
theorem dX11_mark_52 : decode cX11_mark 52 = .ok (.aload_n 0, 1) := by decide +kernel
theorem dX11_mark_53 : decode cX11_mark 53 = .ok (.getfield 26, 3) := by decide +kernel
theorem dX11_mark_56 : decode cX11_mark 56 = .ok (.iload_n 1, 1) := by decide +kernel
theorem dX11_mark_57 : decode cX11_mark 57 = .ok (.iaload, 1) := by decide +kernel
theorem dX11_mark_58 : decode cX11_mark 58 = .ok (.iastore, 1) := by decide +kernel
theorem dX11_mark_59 : decode cX11_mark 59 = .ok (.iinc 1 1, 3) := by decide +kernel
theorem dX11_mark_62 : decode cX11_mark 62 = .ok (.goto (-29), 3) := by decide +kernel
theorem dX11_mark_65 : decode cX11_mark 65 = .ok (.aload_n 0, 1) := by decide +kernel
theorem dX11_mark_66 : decode cX11_mark 66 = .ok (.dup, 1) := by decide +kernel
theorem dX11_mark_67 : decode cX11_mark 67 = .ok (.getfield 174, 3) := by decide +kernel
theorem dX11_mark_70 : decode cX11_mark 70 = .ok (.iconst 1, 1) := by decide +kernel
theorem dX11_mark_71 : decode cX11_mark 71 = .ok (.iadd, 1) := by decide +kernel
theorem dX11_mark_72 : decode cX11_mark 72 = .ok (.putfield 174, 3) := by decide +kernel
theorem dX11_mark_75 : decode cX11_mark 75 = .ok (.aload_n 0, 1) := by decide +kernel
theorem dX11_mark_76 : decode cX11_mark 76 = .ok (.getfield 174, 3) := by decide +kernel
theorem dX11_mark_79 : decode cX11_mark 79 = .ok (.iconst 1, 1) := by decide +kernel
theorem dX11_mark_80 : decode cX11_mark 80 = .ok (.isub, 1) := by decide +kernel
theorem dX11_mark_81 : decode cX11_mark 81 = .ok (.ireturn, 1) := by decide +kernel
theorem dX11_back_0 : decode cX11_back 0 = .ok (.aload_n 0, 1) := by decide +kernel
theorem dX11_back_1 : decode cX11_back 1 = .ok (.invokevirtual 155, 3) := by decide +kernel
theorem dX11_back_4 : decode cX11_back 4 = .ok (.iload_n 1, 1) := by decide +kernel
theorem dX11_back_5 : decode cX11_back 5 = .ok (.iconst 0, 1) := by decide +kernel
theorem dX11_back_6 : decode cX11_back 6 = .ok (.aload_n 0, 1) := by decide +kernel
theorem dX11_back_7 : decode cX11_back 7 = .ok (.getfield 174, 3) := by decide +kernel
theorem dX11_back_10 : decode cX11_back 10 = .ok (.iconst 1, 1) := by decide +kernel
theorem dX11_back_11 : decode cX11_back 11 = .ok (.isub, 1) := by decide +kernel
theorem dX11_back_12 : decode cX11_back 12 = .ok (.invokestatic 143, 3) := by decide +kernel
theorem dX11_back_15 : decode cX11_back 15 = .ok (.ifCond .ne 9, 3) := by decide +kernel
theorem dX11_back_18 : decode cX11_back 18 = .ok (.aload_n 0, 1) := by decide +kernel
theorem dX11_back_19 : decode cX11_back 19 = .ok (.iconst 1, 1) := by decide +kernel
theorem dX11_back_20 : decode cX11_back 20 = .ok (.invokevirtual 312, 3) := by decide +kernel
theorem dX11_back_23 : decode cX11_back 23 = .ok (.ireturn, 1) := by decide +kernel
theorem dX11_back_24 : decode cX11_back 24 = .ok (.iconst 0, 1) := by decide +kernel
theorem dX11_back_25 : decode cX11_back 25 = .ok (.istore_n 2, 1) := by decide +kernel
theorem dX11_back_26 : decode cX11_back 26 = .ok (.iload_n 2, 1) := by decide +kernel
theorem dX11_back_27 : decode cX11_back 27 = .ok (.bipush 6, 2) := by decide +kernel
theorem dX11_back_29 : decode cX11_back 29 = .ok (.if_icmp .ge 26, 3) := by decide +kernel
theorem dX11_back_32 : decode cX11_back 32 = .ok (.aload_n 0, 1) := by decide +kernel
theorem dX11_back_33 : decode cX11_back 33 = .ok (.getfield 26, 3) := by decide +kernel
theorem dX11_back_36 : decode cX11_back 36 = .ok (.iload_n 2, 1) := by decide +kernel
theorem dX11_back_37 : decode cX11_back 37 = .ok (.aload_n 0, 1) := by decide +kernel
theorem dX11_back_38 : decode cX11_back 38 = .ok (.getfield 29, 3) := by decide +kernel
theorem dX11_back_41 : decode cX11_back 41 = .ok (.bipush 6, 2) := by decide +kernel
theorem dX11_back_43 : decode cX11_back 43 = .ok (.iload_n 1, 1) := by decide +kernel
theorem dX11_back_44 : decode cX11_back 44 = .ok (.imul, 1) := by decide +kernel
theorem dX11_back_45 : decode cX11_back 45 = .ok (.iload_n 2, 1) := by decide +kernel
theorem dX11_back_46 : decode cX11_back 46 = .ok (.iadd, 1) := by decide +kernel
theorem dX11_back_47 : decode cX11_back 47 = .ok (.iaload, 1) := by decide +kernel
theorem dX11_back_48 : decode cX11_back 48 = .ok (.iastore, 1) := by decide +kernel
theorem dX11_back_49 : decode cX11_back 49 = .ok (.iinc 2 1, 3) := by decide +kernel
theorem dX11_back_52 : decode cX11_back 52 = .ok (.goto (-26), 3) := by decide +kernel
theorem dX11_back_55 : decode cX11_back 55 = .ok (.iconst 1, 1) := by decide +kernel
theorem dX11_back_56 : decode cX11_back 56 = .ok (.ireturn, 1) := by decide +kernel
theorem dX11_firstWrong_0 : decode cX11_firstWrong 0 = .ok (.iconst 0, 1) := by decide +kernel
theorem dX11_firstWrong_1 : decode cX11_firstWrong 1 = .ok (.istore_n 1, 1) := by decide +kernel
theorem dX11_firstWrong_2 : decode cX11_firstWrong 2 = .ok (.iload_n 1, 1) := by decide +kernel
theorem dX11_firstWrong_3 : decode cX11_firstWrong 3 = .ok (.aload_n 0, 1) := by decide +kernel
theorem dX11_firstWrong_4 : decode cX11_firstWrong 4 = .ok (.getfield 20, 3) := by decide +kernel
theorem dX11_firstWrong_7 : decode cX11_firstWrong 7 = .ok (.bipush 6, 2) := by decide +kernel
theorem dX11_firstWrong_9 : decode cX11_firstWrong 9 = .ok (.iaload, 1) := by decide +kernel
theorem dX11_firstWrong_10 : decode cX11_firstWrong 10 = .ok (.if_icmp .ge 59, 3) := by decide +kernel
theorem dX11_firstWrong_13 : decode cX11_firstWrong 13 = .ok (.aload_n 0, 1) := by decide +kernel
theorem dX11_firstWrong_14 : decode cX11_firstWrong 14 = .ok (.getfield 20, 3) := by decide +kernel
theorem dX11_firstWrong_17 : decode cX11_firstWrong 17 = .ok (.sipush 315, 3) := by decide +kernel
theorem dX11_firstWrong_20 : decode cX11_firstWrong 20 = .ok (.iload_n 1, 1) := by decide +kernel
theorem dX11_firstWrong_21 : decode cX11_firstWrong 21 = .ok (.iadd, 1) := by decide +kernel
theorem dX11_firstWrong_22 : decode cX11_firstWrong 22 = .ok (.iaload, 1) := by decide +kernel
theorem dX11_firstWrong_23 : decode cX11_firstWrong 23 = .ok (.istore_n 2, 1) := by decide +kernel
theorem dX11_firstWrong_24 : decode cX11_firstWrong 24 = .ok (.aload_n 0, 1) := by decide +kernel
theorem dX11_firstWrong_25 : decode cX11_firstWrong 25 = .ok (.iload_n 2, 1) := by decide +kernel
theorem dX11_firstWrong_26 : decode cX11_firstWrong 26 = .ok (.invokevirtual 240, 3) := by decide +kernel
theorem dX11_firstWrong_29 : decode cX11_firstWrong 29 = .ok (.ifCond .eq 32, 3) := by decide +kernel
theorem dX11_firstWrong_32 : decode cX11_firstWrong 32 = .ok (.iload_n 1, 1) := by decide +kernel
theorem dX11_firstWrong_33 : decode cX11_firstWrong 33 = .ok (.ifCond .le 30, 3) := by decide +kernel
theorem dX11_firstWrong_36 : decode cX11_firstWrong 36 = .ok (.aload_n 0, 1) := by decide +kernel
theorem dX11_firstWrong_37 : decode cX11_firstWrong 37 = .ok (.getfield 32, 3) := by decide +kernel
theorem dX11_firstWrong_40 : decode cX11_firstWrong 40 = .ok (.bipush 24, 2) := by decide +kernel
theorem dX11_firstWrong_42 : decode cX11_firstWrong 42 = .ok (.aload_n 0, 1) := by decide +kernel
theorem dX11_firstWrong_43 : decode cX11_firstWrong 43 = .ok (.getfield 20, 3) := by decide +kernel
theorem dX11_firstWrong_46 : decode cX11_firstWrong 46 = .ok (.sipush 315, 3) := by decide +kernel
theorem dX11_firstWrong_49 : decode cX11_firstWrong 49 = .ok (.iload_n 1, 1) := by decide +kernel
theorem dX11_firstWrong_50 : decode cX11_firstWrong 50 = .ok (.iadd, 1) := by decide +kernel
theorem dX11_firstWrong_51 : decode cX11_firstWrong 51 = .ok (.iconst 1, 1) := by decide +kernel
theorem dX11_firstWrong_52 : decode cX11_firstWrong 52 = .ok (.isub, 1) := by decide +kernel
theorem dX11_firstWrong_53 : decode cX11_firstWrong 53 = .ok (.iaload, 1) := by decide +kernel
theorem dX11_firstWrong_54 : decode cX11_firstWrong 54 = .ok (.imul, 1) := by decide +kernel
theorem dX11_firstWrong_55 : decode cX11_firstWrong 55 = .ok (.iload_n 2, 1) := by decide +kernel
theorem dX11_firstWrong_56 : decode cX11_firstWrong 56 = .ok (.iadd, 1) := by decide +kernel
theorem dX11_firstWrong_57 : decode cX11_firstWrong 57 = .ok (.iaload, 1) := by decide +kernel
theorem dX11_firstWrong_58 : decode cX11_firstWrong 58 = .ok (.ifCond .ge 5, 3) := by decide +kernel
theorem dX11_firstWrong_61 : decode cX11_firstWrong 61 = .ok (.iload_n 1, 1) := by decide +kernel
theorem dX11_firstWrong_62 : decode cX11_firstWrong 62 = .ok (.ireturn, 1) := by decide +kernel
theorem dX11_firstWrong_63 : decode cX11_firstWrong 63 = .ok (.iinc 1 1, 3) := by decide +kernel
theorem dX11_firstWrong_66 : decode cX11_firstWrong 66 = .ok (.goto (-64), 3) := by decide +kernel
theorem dX11_firstWrong_69 : decode cX11_firstWrong 69 = .ok (.bipush (-2), 2) := by decide +kernel
theorem dX11_firstWrong_71 : decode cX11_firstWrong 71 = .ok (.ireturn, 1) := by decide +kernel
theorem dX11_seenWhy_0 : decode cX11_seenWhy 0 = .ok (.aload_n 0, 1) := by decide +kernel
theorem dX11_seenWhy_1 : decode cX11_seenWhy 1 = .ok (.getfield 164, 3) := by decide +kernel
theorem dX11_seenWhy_4 : decode cX11_seenWhy 4 = .ok (.ifCond .ne 7, 3) := by decide +kernel
theorem dX11_seenWhy_7 : decode cX11_seenWhy 7 = .ok (.iconst 1, 1) := by decide +kernel
theorem dX11_seenWhy_8 : decode cX11_seenWhy 8 = .ok (.goto 19, 3) := by decide +kernel
theorem dX11_seenWhy_11 : decode cX11_seenWhy 11 = .ok (.aload_n 0, 1) := by decide +kernel
theorem dX11_seenWhy_12 : decode cX11_seenWhy 12 = .ok (.getfield 20, 3) := by decide +kernel
theorem dX11_seenWhy_15 : decode cX11_seenWhy 15 = .ok (.bipush 6, 2) := by decide +kernel
theorem dX11_seenWhy_17 : decode cX11_seenWhy 17 = .ok (.iaload, 1) := by decide +kernel
theorem dX11_seenWhy_18 : decode cX11_seenWhy 18 = .ok (.ifCond .ne 8, 3) := by decide +kernel
theorem dX11_seenWhy_21 : decode cX11_seenWhy 21 = .ok (.bipush 6, 2) := by decide +kernel
theorem dX11_seenWhy_23 : decode cX11_seenWhy 23 = .ok (.goto 4, 3) := by decide +kernel
theorem dX11_seenWhy_26 : decode cX11_seenWhy 26 = .ok (.iconst 0, 1) := by decide +kernel
theorem dX11_seenWhy_27 : decode cX11_seenWhy 27 = .ok (.ireturn, 1) := by decide +kernel
theorem dX11_wrong__0 : decode cX11_wrong_ 0 = .ok (.aload_n 0, 1) := by decide +kernel
theorem dX11_wrong__1 : decode cX11_wrong_ 1 = .ok (.invokevirtual 155, 3) := by decide +kernel
theorem dX11_wrong__4 : decode cX11_wrong_ 4 = .ok (.aload_n 0, 1) := by decide +kernel
theorem dX11_wrong__5 : decode cX11_wrong_ 5 = .ok (.invokevirtual 379, 3) := by decide +kernel
theorem dX11_wrong__8 : decode cX11_wrong_ 8 = .ok (.istore_n 1, 1) := by decide +kernel
theorem dX11_wrong__9 : decode cX11_wrong_ 9 = .ok (.iload_n 1, 1) := by decide +kernel
theorem dX11_wrong__10 : decode cX11_wrong_ 10 = .ok (.ifCond .eq 11, 3) := by decide +kernel
theorem dX11_wrong__13 : decode cX11_wrong_ 13 = .ok (.aload_n 0, 1) := by decide +kernel
theorem dX11_wrong__14 : decode cX11_wrong_ 14 = .ok (.iload_n 1, 1) := by decide +kernel
theorem dX11_wrong__15 : decode cX11_wrong_ 15 = .ok (.invokevirtual 158, 3) := by decide +kernel
theorem dX11_wrong__18 : decode cX11_wrong_ 18 = .ok (.goto 7, 3) := by decide +kernel
theorem dX11_wrong__21 : decode cX11_wrong_ 21 = .ok (.aload_n 0, 1) := by decide +kernel
theorem dX11_wrong__22 : decode cX11_wrong_ 22 = .ok (.invokevirtual 382, 3) := by decide +kernel
theorem dX11_wrong__25 : decode cX11_wrong_ 25 = .ok (.ireturn, 1) := by decide +kernel
theorem dX11_mayBeThose_0 : decode cX11_mayBeThose 0 = .ok (.aload_n 0, 1) := by decide +kernel
theorem dX11_mayBeThose_1 : decode cX11_mayBeThose 1 = .ok (.getfield 20, 3) := by decide +kernel
theorem dX11_mayBeThose_4 : decode cX11_mayBeThose 4 = .ok (.sipush 315, 3) := by decide +kernel
theorem dX11_mayBeThose_7 : decode cX11_mayBeThose 7 = .ok (.iaload, 1) := by decide +kernel
theorem dX11_mayBeThose_8 : decode cX11_mayBeThose 8 = .ok (.istore_n 2, 1) := by decide +kernel
theorem dX11_mayBeThose_9 : decode cX11_mayBeThose 9 = .ok (.aload_n 0, 1) := by decide +kernel
theorem dX11_mayBeThose_10 : decode cX11_mayBeThose 10 = .ok (.getfield 20, 3) := by decide +kernel
theorem dX11_mayBeThose_13 : decode cX11_mayBeThose 13 = .ok (.bipush 7, 2) := by decide +kernel
theorem dX11_mayBeThose_15 : decode cX11_mayBeThose 15 = .ok (.iload_n 2, 1) := by decide +kernel
theorem dX11_mayBeThose_16 : decode cX11_mayBeThose 16 = .ok (.iadd, 1) := by decide +kernel
theorem dX11_mayBeThose_17 : decode cX11_mayBeThose 17 = .ok (.iaload, 1) := by decide +kernel
theorem dX11_mayBeThose_18 : decode cX11_mayBeThose 18 = .ok (.istore_n 3, 1) := by decide +kernel
theorem dX11_mayBeThose_19 : decode cX11_mayBeThose 19 = .ok (.iconst 0, 1) := by decide +kernel
theorem dX11_mayBeThose_20 : decode cX11_mayBeThose 20 = .ok (.istore 4, 2) := by decide +kernel
theorem dX11_mayBeThose_22 : decode cX11_mayBeThose 22 = .ok (.iload 4, 2) := by decide +kernel
theorem dX11_mayBeThose_24 : decode cX11_mayBeThose 24 = .ok (.bipush 26, 2) := by decide +kernel
theorem dX11_mayBeThose_26 : decode cX11_mayBeThose 26 = .ok (.if_icmp .ge 17, 3) := by decide +kernel
theorem dX11_mayBeThose_29 : decode cX11_mayBeThose 29 = .ok (.aload_n 0, 1) := by decide +kernel
theorem dX11_mayBeThose_30 : decode cX11_mayBeThose 30 = .ok (.getfield 50, 3) := by decide +kernel
theorem dX11_mayBeThose_33 : decode cX11_mayBeThose 33 = .ok (.iload 4, 2) := by decide +kernel
theorem dX11_mayBeThose_35 : decode cX11_mayBeThose 35 = .ok (.iconst 0, 1) := by decide +kernel
theorem dX11_mayBeThose_36 : decode cX11_mayBeThose 36 = .ok (.iastore, 1) := by decide +kernel
theorem dX11_mayBeThose_37 : decode cX11_mayBeThose 37 = .ok (.iinc 4 1, 3) := by decide +kernel
theorem dX11_mayBeThose_40 : decode cX11_mayBeThose 40 = .ok (.goto (-18), 3) := by decide +kernel
theorem dX11_mayBeThose_43 : decode cX11_mayBeThose 43 = .ok (.iconst 0, 1) := by decide +kernel
theorem dX11_mayBeThose_44 : decode cX11_mayBeThose 44 = .ok (.istore 4, 2) := by decide +kernel
theorem dX11_mayBeThose_46 : decode cX11_mayBeThose 46 = .ok (.iload 4, 2) := by decide +kernel
theorem dX11_mayBeThose_48 : decode cX11_mayBeThose 48 = .ok (.iload_n 3, 1) := by decide +kernel
theorem dX11_mayBeThose_49 : decode cX11_mayBeThose 49 = .ok (.if_icmp .ge 25, 3) := by decide +kernel
theorem dX11_mayBeThose_52 : decode cX11_mayBeThose 52 = .ok (.aload_n 0, 1) := by decide +kernel
theorem dX11_mayBeThose_53 : decode cX11_mayBeThose 53 = .ok (.getfield 50, 3) := by decide +kernel
theorem dX11_mayBeThose_56 : decode cX11_mayBeThose 56 = .ok (.aload_n 0, 1) := by decide +kernel
theorem dX11_mayBeThose_57 : decode cX11_mayBeThose 57 = .ok (.iload_n 2, 1) := by decide +kernel
theorem dX11_mayBeThose_58 : decode cX11_mayBeThose 58 = .ok (.iload 4, 2) := by decide +kernel
theorem dX11_mayBeThose_60 : decode cX11_mayBeThose 60 = .ok (.invokevirtual 243, 3) := by decide +kernel
theorem dX11_mayBeThose_63 : decode cX11_mayBeThose 63 = .ok (.dup2, 1) := by decide +kernel
theorem dX11_mayBeThose_64 : decode cX11_mayBeThose 64 = .ok (.iaload, 1) := by decide +kernel
theorem dX11_mayBeThose_65 : decode cX11_mayBeThose 65 = .ok (.iconst 1, 1) := by decide +kernel
theorem dX11_mayBeThose_66 : decode cX11_mayBeThose 66 = .ok (.iadd, 1) := by decide +kernel
theorem dX11_mayBeThose_67 : decode cX11_mayBeThose 67 = .ok (.iastore, 1) := by decide +kernel
theorem dX11_mayBeThose_68 : decode cX11_mayBeThose 68 = .ok (.iinc 4 1, 3) := by decide +kernel
theorem dX11_mayBeThose_71 : decode cX11_mayBeThose 71 = .ok (.goto (-25), 3) := by decide +kernel
theorem dX11_mayBeThose_74 : decode cX11_mayBeThose 74 = .ok (.iconst 0, 1) := by decide +kernel
theorem dX11_mayBeThose_75 : decode cX11_mayBeThose 75 = .ok (.istore 4, 2) := by decide +kernel
theorem dX11_mayBeThose_77 : decode cX11_mayBeThose 77 = .ok (.iload_n 3, 1) := by decide +kernel
theorem dX11_mayBeThose_78 : decode cX11_mayBeThose 78 = .ok (.aload_n 0, 1) := by decide +kernel
theorem dX11_mayBeThose_79 : decode cX11_mayBeThose 79 = .ok (.getfield 20, 3) := by decide +kernel
theorem dX11_mayBeThose_82 : decode cX11_mayBeThose 82 = .ok (.bipush 6, 2) := by decide +kernel
theorem dX11_mayBeThose_84 : decode cX11_mayBeThose 84 = .ok (.iaload, 1) := by decide +kernel
theorem dX11_mayBeThose_85 : decode cX11_mayBeThose 85 = .ok (.iadd, 1) := by decide +kernel
theorem dX11_mayBeThose_86 : decode cX11_mayBeThose 86 = .ok (.iconst 1, 1) := by decide +kernel
theorem dX11_mayBeThose_87 : decode cX11_mayBeThose 87 = .ok (.isub, 1) := by decide +kernel
theorem dX11_mayBeThose_88 : decode cX11_mayBeThose 88 = .ok (.istore 5, 2) := by decide +kernel
theorem dX11_mayBeThose_90 : decode cX11_mayBeThose 90 = .ok (.iconst 0, 1) := by decide +kernel
theorem dX11_mayBeThose_91 : decode cX11_mayBeThose 91 = .ok (.istore 6, 2) := by decide +kernel
theorem dX11_mayBeThose_93 : decode cX11_mayBeThose 93 = .ok (.iload 6, 2) := by decide +kernel
theorem dX11_mayBeThose_95 : decode cX11_mayBeThose 95 = .ok (.aload_n 0, 1) := by decide +kernel
theorem dX11_mayBeThose_96 : decode cX11_mayBeThose 96 = .ok (.getfield 20, 3) := by decide +kernel
theorem dX11_mayBeThose_99 : decode cX11_mayBeThose 99 = .ok (.iconst 4, 1) := by decide +kernel
theorem dX11_mayBeThose_100 : decode cX11_mayBeThose 100 = .ok (.iaload, 1) := by decide +kernel
theorem dX11_mayBeThose_101 : decode cX11_mayBeThose 101 = .ok (.if_icmp .ge 123, 3) := by decide +kernel
theorem dX11_mayBeThose_104 : decode cX11_mayBeThose 104 = .ok (.iload_n 1, 1) := by decide +kernel
theorem dX11_mayBeThose_105 : decode cX11_mayBeThose 105 = .ok (.iload 6, 2) := by decide +kernel
theorem dX11_mayBeThose_107 : decode cX11_mayBeThose 107 = .ok (.ishr, 1) := by decide +kernel
theorem dX11_mayBeThose_108 : decode cX11_mayBeThose 108 = .ok (.iconst 1, 1) := by decide +kernel
theorem dX11_mayBeThose_109 : decode cX11_mayBeThose 109 = .ok (.iand, 1) := by decide +kernel
theorem dX11_mayBeThose_110 : decode cX11_mayBeThose 110 = .ok (.ifCond .ne 6, 3) := by decide +kernel
theorem dX11_mayBeThose_113 : decode cX11_mayBeThose 113 = .ok (.goto 105, 3) := by decide +kernel
theorem dX11_mayBeThose_116 : decode cX11_mayBeThose 116 = .ok (.iload 4, 2) := by decide +kernel
theorem dX11_mayBeThose_118 : decode cX11_mayBeThose 118 = .ok (.iload 5, 2) := by decide +kernel
theorem dX11_mayBeThose_120 : decode cX11_mayBeThose 120 = .ok (.if_icmp .ne 5, 3) := by decide +kernel
theorem dX11_mayBeThose_123 : decode cX11_mayBeThose 123 = .ok (.iconst 0, 1) := by decide +kernel
theorem dX11_mayBeThose_124 : decode cX11_mayBeThose 124 = .ok (.ireturn, 1) := by decide +kernel
theorem dX11_mayBeThose_125 : decode cX11_mayBeThose 125 = .ok (.aload_n 0, 1) := by decide +kernel
theorem dX11_mayBeThose_126 : decode cX11_mayBeThose 126 = .ok (.getfield 20, 3) := by decide +kernel
theorem dX11_mayBeThose_129 : decode cX11_mayBeThose 129 = .ok (.sipush 295, 3) := by decide +kernel
theorem dX11_mayBeThose_132 : decode cX11_mayBeThose 132 = .ok (.iload 6, 2) := by decide +kernel
theorem dX11_mayBeThose_134 : decode cX11_mayBeThose 134 = .ok (.iadd, 1) := by decide +kernel
theorem dX11_mayBeThose_135 : decode cX11_mayBeThose 135 = .ok (.iaload, 1) := by decide +kernel
theorem dX11_mayBeThose_136 : decode cX11_mayBeThose 136 = .ok (.istore 7, 2) := by decide +kernel
theorem dX11_mayBeThose_138 : decode cX11_mayBeThose 138 = .ok (.iload 4, 2) := by decide +kernel
theorem dX11_mayBeThose_140 : decode cX11_mayBeThose 140 = .ok (.iload_n 3, 1) := by decide +kernel
theorem dX11_mayBeThose_141 : decode cX11_mayBeThose 141 = .ok (.if_icmp .ge 26, 3) := by decide +kernel
theorem dX11_mayBeThose_144 : decode cX11_mayBeThose 144 = .ok (.aload_n 0, 1) := by decide +kernel
theorem dX11_mayBeThose_145 : decode cX11_mayBeThose 145 = .ok (.getfield 50, 3) := by decide +kernel
theorem dX11_mayBeThose_148 : decode cX11_mayBeThose 148 = .ok (.iload 7, 2) := by decide +kernel
theorem dX11_mayBeThose_150 : decode cX11_mayBeThose 150 = .ok (.dup2, 1) := by decide +kernel
theorem dX11_mayBeThose_151 : decode cX11_mayBeThose 151 = .ok (.iaload, 1) := by decide +kernel
theorem dX11_mayBeThose_152 : decode cX11_mayBeThose 152 = .ok (.iconst 1, 1) := by decide +kernel
theorem dX11_mayBeThose_153 : decode cX11_mayBeThose 153 = .ok (.isub, 1) := by decide +kernel
theorem dX11_mayBeThose_154 : decode cX11_mayBeThose 154 = .ok (.iastore, 1) := by decide +kernel
theorem dX11_mayBeThose_155 : decode cX11_mayBeThose 155 = .ok (.aload_n 0, 1) := by decide +kernel
theorem dX11_mayBeThose_156 : decode cX11_mayBeThose 156 = .ok (.getfield 50, 3) := by decide +kernel
theorem dX11_mayBeThose_159 : decode cX11_mayBeThose 159 = .ok (.iload 7, 2) := by decide +kernel
theorem dX11_mayBeThose_161 : decode cX11_mayBeThose 161 = .ok (.iaload, 1) := by decide +kernel
theorem dX11_mayBeThose_162 : decode cX11_mayBeThose 162 = .ok (.ifCond .ge 53, 3) := by decide +kernel
theorem dX11_mayBeThose_165 : decode cX11_mayBeThose 165 = .ok (.iconst 0, 1) := by decide +kernel
theorem dX11_mayBeThose_166 : decode cX11_mayBeThose 166 = .ok (.ireturn, 1) := by decide +kernel
theorem dX11_mayBeThose_167 : decode cX11_mayBeThose 167 = .ok (.iload 4, 2) := by decide +kernel
theorem dX11_mayBeThose_169 : decode cX11_mayBeThose 169 = .ok (.iload_n 3, 1) := by decide +kernel
theorem dX11_mayBeThose_170 : decode cX11_mayBeThose 170 = .ok (.isub, 1) := by decide +kernel
theorem dX11_mayBeThose_171 : decode cX11_mayBeThose 171 = .ok (.iconst 1, 1) := by decide +kernel
theorem dX11_mayBeThose_172 : decode cX11_mayBeThose 172 = .ok (.iadd, 1) := by decide +kernel
theorem dX11_mayBeThose_173 : decode cX11_mayBeThose 173 = .ok (.istore 8, 2) := by decide +kernel
theorem dX11_mayBeThose_175 : decode cX11_mayBeThose 175 = .ok (.aload_n 0, 1) := by decide +kernel
theorem dX11_mayBeThose_176 : decode cX11_mayBeThose 176 = .ok (.getfield 32, 3) := by decide +kernel
theorem dX11_mayBeThose_179 : decode cX11_mayBeThose 179 = .ok (.bipush 24, 2) := by decide +kernel
theorem dX11_mayBeThose_181 : decode cX11_mayBeThose 181 = .ok (.aload_n 0, 1) := by decide +kernel
theorem dX11_mayBeThose_182 : decode cX11_mayBeThose 182 = .ok (.getfield 20, 3) := by decide +kernel
theorem dX11_mayBeThose_185 : decode cX11_mayBeThose 185 = .ok (.sipush 315, 3) := by decide +kernel
theorem dX11_mayBeThose_188 : decode cX11_mayBeThose 188 = .ok (.iload 8, 2) := by decide +kernel
theorem dX11_mayBeThose_190 : decode cX11_mayBeThose 190 = .ok (.iadd, 1) := by decide +kernel
theorem dX11_mayBeThose_191 : decode cX11_mayBeThose 191 = .ok (.iconst 1, 1) := by decide +kernel
theorem dX11_mayBeThose_192 : decode cX11_mayBeThose 192 = .ok (.isub, 1) := by decide +kernel
theorem dX11_mayBeThose_193 : decode cX11_mayBeThose 193 = .ok (.iaload, 1) := by decide +kernel
theorem dX11_mayBeThose_194 : decode cX11_mayBeThose 194 = .ok (.imul, 1) := by decide +kernel
theorem dX11_mayBeThose_195 : decode cX11_mayBeThose 195 = .ok (.aload_n 0, 1) := by decide +kernel
theorem dX11_mayBeThose_196 : decode cX11_mayBeThose 196 = .ok (.getfield 20, 3) := by decide +kernel
theorem dX11_mayBeThose_199 : decode cX11_mayBeThose 199 = .ok (.sipush 315, 3) := by decide +kernel
theorem dX11_mayBeThose_202 : decode cX11_mayBeThose 202 = .ok (.iload 8, 2) := by decide +kernel
theorem dX11_mayBeThose_204 : decode cX11_mayBeThose 204 = .ok (.iadd, 1) := by decide +kernel
theorem dX11_mayBeThose_205 : decode cX11_mayBeThose 205 = .ok (.iaload, 1) := by decide +kernel
theorem dX11_mayBeThose_206 : decode cX11_mayBeThose 206 = .ok (.iadd, 1) := by decide +kernel
theorem dX11_mayBeThose_207 : decode cX11_mayBeThose 207 = .ok (.iaload, 1) := by decide +kernel
theorem dX11_mayBeThose_208 : decode cX11_mayBeThose 208 = .ok (.iload 7, 2) := by decide +kernel
theorem dX11_mayBeThose_210 : decode cX11_mayBeThose 210 = .ok (.if_icmp .eq 5, 3) := by decide +kernel
theorem dX11_mayBeThose_213 : decode cX11_mayBeThose 213 = .ok (.iconst 0, 1) := by decide +kernel
theorem dX11_mayBeThose_214 : decode cX11_mayBeThose 214 = .ok (.ireturn, 1) := by decide +kernel
theorem dX11_mayBeThose_215 : decode cX11_mayBeThose 215 = .ok (.iinc 4 1, 3) := by decide +kernel
theorem dX11_mayBeThose_218 : decode cX11_mayBeThose 218 = .ok (.iinc 6 1, 3) := by decide +kernel
theorem dX11_mayBeThose_221 : decode cX11_mayBeThose 221 = .ok (.goto (-128), 3) := by decide +kernel
theorem dX11_mayBeThose_224 : decode cX11_mayBeThose 224 = .ok (.iload 4, 2) := by decide +kernel
theorem dX11_mayBeThose_226 : decode cX11_mayBeThose 226 = .ok (.iload 5, 2) := by decide +kernel
theorem dX11_mayBeThose_228 : decode cX11_mayBeThose 228 = .ok (.if_icmp .ne 7, 3) := by decide +kernel
theorem dX11_mayBeThose_231 : decode cX11_mayBeThose 231 = .ok (.iconst 1, 1) := by decide +kernel
theorem dX11_mayBeThose_232 : decode cX11_mayBeThose 232 = .ok (.goto 4, 3) := by decide +kernel
theorem dX11_mayBeThose_235 : decode cX11_mayBeThose 235 = .ok (.iconst 0, 1) := by decide +kernel
theorem dX11_mayBeThose_236 : decode cX11_mayBeThose 236 = .ok (.ireturn, 1) := by decide +kernel
theorem dX11_waysWith_0 : decode cX11_waysWith 0 = .ok (.aload_n 0, 1) := by decide +kernel
theorem dX11_waysWith_1 : decode cX11_waysWith 1 = .ok (.invokevirtual 382, 3) := by decide +kernel
theorem dX11_waysWith_4 : decode cX11_waysWith 4 = .ok (.bipush (-2), 2) := by decide +kernel
theorem dX11_waysWith_6 : decode cX11_waysWith 6 = .ok (.if_icmp .eq 5, 3) := by decide +kernel
theorem dX11_waysWith_9 : decode cX11_waysWith 9 = .ok (.iconst 0, 1) := by decide +kernel
theorem dX11_waysWith_10 : decode cX11_waysWith 10 = .ok (.ireturn, 1) := by decide +kernel
theorem dX11_waysWith_11 : decode cX11_waysWith 11 = .ok (.iconst 0, 1) := by decide +kernel
theorem dX11_waysWith_12 : decode cX11_waysWith 12 = .ok (.istore_n 2, 1) := by decide +kernel
theorem dX11_waysWith_13 : decode cX11_waysWith 13 = .ok (.iconst 0, 1) := by decide +kernel
theorem dX11_waysWith_14 : decode cX11_waysWith 14 = .ok (.istore_n 3, 1) := by decide +kernel
theorem dX11_waysWith_15 : decode cX11_waysWith 15 = .ok (.iload_n 3, 1) := by decide +kernel
theorem dX11_waysWith_16 : decode cX11_waysWith 16 = .ok (.iconst 1, 1) := by decide +kernel
theorem dX11_waysWith_17 : decode cX11_waysWith 17 = .ok (.aload_n 0, 1) := by decide +kernel
theorem dX11_waysWith_18 : decode cX11_waysWith 18 = .ok (.getfield 20, 3) := by decide +kernel
theorem dX11_waysWith_21 : decode cX11_waysWith 21 = .ok (.iconst 4, 1) := by decide +kernel
theorem dX11_waysWith_22 : decode cX11_waysWith 22 = .ok (.iaload, 1) := by decide +kernel
theorem dX11_waysWith_23 : decode cX11_waysWith 23 = .ok (.ishl, 1) := by decide +kernel
theorem dX11_waysWith_24 : decode cX11_waysWith 24 = .ok (.if_icmp .ge 38, 3) := by decide +kernel
theorem dX11_waysWith_27 : decode cX11_waysWith 27 = .ok (.iload_n 2, 1) := by decide +kernel
theorem dX11_waysWith_28 : decode cX11_waysWith 28 = .ok (.iload_n 1, 1) := by decide +kernel
theorem dX11_waysWith_29 : decode cX11_waysWith 29 = .ok (.ifCond .lt 12, 3) := by decide +kernel
theorem dX11_waysWith_32 : decode cX11_waysWith 32 = .ok (.iload_n 3, 1) := by decide +kernel
theorem dX11_waysWith_33 : decode cX11_waysWith 33 = .ok (.iload_n 1, 1) := by decide +kernel
theorem dX11_waysWith_34 : decode cX11_waysWith 34 = .ok (.ishr, 1) := by decide +kernel
theorem dX11_waysWith_35 : decode cX11_waysWith 35 = .ok (.iconst 1, 1) := by decide +kernel
theorem dX11_waysWith_36 : decode cX11_waysWith 36 = .ok (.iand, 1) := by decide +kernel
theorem dX11_waysWith_37 : decode cX11_waysWith 37 = .ok (.iconst 1, 1) := by decide +kernel
theorem dX11_waysWith_38 : decode cX11_waysWith 38 = .ok (.if_icmp .ne 15, 3) := by decide +kernel
theorem dX11_waysWith_41 : decode cX11_waysWith 41 = .ok (.aload_n 0, 1) := by decide +kernel
theorem dX11_waysWith_42 : decode cX11_waysWith 42 = .ok (.iload_n 3, 1) := by decide +kernel
theorem dX11_waysWith_43 : decode cX11_waysWith 43 = .ok (.invokevirtual 385, 3) := by decide +kernel
theorem dX11_waysWith_46 : decode cX11_waysWith 46 = .ok (.ifCond .eq 7, 3) := by decide +kernel
theorem dX11_waysWith_49 : decode cX11_waysWith 49 = .ok (.iconst 1, 1) := by decide +kernel
theorem dX11_waysWith_50 : decode cX11_waysWith 50 = .ok (.goto 4, 3) := by decide +kernel
theorem dX11_waysWith_53 : decode cX11_waysWith 53 = .ok (.iconst 0, 1) := by decide +kernel
theorem dX11_waysWith_54 : decode cX11_waysWith 54 = .ok (.iadd, 1) := by decide +kernel
theorem dX11_waysWith_55 : decode cX11_waysWith 55 = .ok (.istore_n 2, 1) := by decide +kernel
theorem dX11_waysWith_56 : decode cX11_waysWith 56 = .ok (.iinc 3 1, 3) := by decide +kernel
theorem dX11_waysWith_59 : decode cX11_waysWith 59 = .ok (.goto (-44), 3) := by decide +kernel
theorem dX11_waysWith_62 : decode cX11_waysWith 62 = .ok (.iload_n 2, 1) := by decide +kernel
theorem dX11_waysWith_63 : decode cX11_waysWith 63 = .ok (.ireturn, 1) := by decide +kernel
theorem dX11_ways_0 : decode cX11_ways 0 = .ok (.aload_n 0, 1) := by decide +kernel
theorem dX11_ways_1 : decode cX11_ways 1 = .ok (.invokevirtual 155, 3) := by decide +kernel
theorem dX11_ways_4 : decode cX11_ways 4 = .ok (.aload_n 0, 1) := by decide +kernel
theorem dX11_ways_5 : decode cX11_ways 5 = .ok (.invokevirtual 379, 3) := by decide +kernel
theorem dX11_ways_8 : decode cX11_ways 8 = .ok (.istore_n 1, 1) := by decide +kernel
theorem dX11_ways_9 : decode cX11_ways 9 = .ok (.iload_n 1, 1) := by decide +kernel
theorem dX11_ways_10 : decode cX11_ways 10 = .ok (.ifCond .eq 11, 3) := by decide +kernel
theorem dX11_ways_13 : decode cX11_ways 13 = .ok (.aload_n 0, 1) := by decide +kernel
theorem dX11_ways_14 : decode cX11_ways 14 = .ok (.iload_n 1, 1) := by decide +kernel
theorem dX11_ways_15 : decode cX11_ways 15 = .ok (.invokevirtual 158, 3) := by decide +kernel
theorem dX11_ways_18 : decode cX11_ways 18 = .ok (.goto 8, 3) := by decide +kernel
theorem dX11_ways_21 : decode cX11_ways 21 = .ok (.aload_n 0, 1) := by decide +kernel
theorem dX11_ways_22 : decode cX11_ways 22 = .ok (.iconst (-1), 1) := by decide +kernel
theorem dX11_ways_23 : decode cX11_ways 23 = .ok (.invokevirtual 388, 3) := by decide +kernel
theorem dX11_ways_26 : decode cX11_ways 26 = .ok (.ireturn, 1) := by decide +kernel
theorem dX11_waysOf_0 : decode cX11_waysOf 0 = .ok (.aload_n 0, 1) := by decide +kernel
theorem dX11_waysOf_1 : decode cX11_waysOf 1 = .ok (.invokevirtual 155, 3) := by decide +kernel
theorem dX11_waysOf_4 : decode cX11_waysOf 4 = .ok (.aload_n 0, 1) := by decide +kernel
theorem dX11_waysOf_5 : decode cX11_waysOf 5 = .ok (.iload_n 1, 1) := by decide +kernel
theorem dX11_waysOf_6 : decode cX11_waysOf 6 = .ok (.invokevirtual 391, 3) := by decide +kernel
theorem dX11_waysOf_9 : decode cX11_waysOf 9 = .ok (.ifCond .ne 9, 3) := by decide +kernel
theorem dX11_waysOf_12 : decode cX11_waysOf 12 = .ok (.aload_n 0, 1) := by decide +kernel
theorem dX11_waysOf_13 : decode cX11_waysOf 13 = .ok (.iconst 1, 1) := by decide +kernel
theorem dX11_waysOf_14 : decode cX11_waysOf 14 = .ok (.invokevirtual 158, 3) := by decide +kernel
theorem dX11_waysOf_17 : decode cX11_waysOf 17 = .ok (.ireturn, 1) := by decide +kernel
theorem dX11_waysOf_18 : decode cX11_waysOf 18 = .ok (.aload_n 0, 1) := by decide +kernel
theorem dX11_waysOf_19 : decode cX11_waysOf 19 = .ok (.invokevirtual 379, 3) := by decide +kernel
theorem dX11_waysOf_22 : decode cX11_waysOf 22 = .ok (.istore_n 2, 1) := by decide +kernel
theorem dX11_waysOf_23 : decode cX11_waysOf 23 = .ok (.iload_n 2, 1) := by decide +kernel
theorem dX11_waysOf_24 : decode cX11_waysOf 24 = .ok (.ifCond .eq 11, 3) := by decide +kernel
theorem dX11_waysOf_27 : decode cX11_waysOf 27 = .ok (.aload_n 0, 1) := by decide +kernel
theorem dX11_waysOf_28 : decode cX11_waysOf 28 = .ok (.iload_n 2, 1) := by decide +kernel
theorem dX11_waysOf_29 : decode cX11_waysOf 29 = .ok (.invokevirtual 158, 3) := by decide +kernel
theorem dX11_waysOf_32 : decode cX11_waysOf 32 = .ok (.goto 8, 3) := by decide +kernel
theorem dX11_waysOf_35 : decode cX11_waysOf 35 = .ok (.aload_n 0, 1) := by decide +kernel
theorem dX11_waysOf_36 : decode cX11_waysOf 36 = .ok (.iload_n 1, 1) := by decide +kernel
theorem dX11_waysOf_37 : decode cX11_waysOf 37 = .ok (.invokevirtual 388, 3) := by decide +kernel
theorem dX11_waysOf_40 : decode cX11_waysOf 40 = .ok (.ireturn, 1) := by decide +kernel
theorem dX11_did_0 : decode cX11_did 0 = .ok (.aload_n 0, 1) := by decide +kernel
theorem dX11_did_1 : decode cX11_did 1 = .ok (.invokevirtual 167, 3) := by decide +kernel
theorem dX11_did_4 : decode cX11_did 4 = .ok (.aload_n 0, 1) := by decide +kernel
theorem dX11_did_5 : decode cX11_did 5 = .ok (.aload_n 0, 1) := by decide +kernel
theorem dX11_did_6 : decode cX11_did 6 = .ok (.getfield 26, 3) := by decide +kernel
theorem dX11_did_9 : decode cX11_did 9 = .ok (.iconst 3, 1) := by decide +kernel
theorem dX11_did_10 : decode cX11_did 10 = .ok (.iaload, 1) := by decide +kernel
theorem dX11_did_11 : decode cX11_did 11 = .ok (.invokevirtual 170, 3) := by decide +kernel
theorem dX11_did_14 : decode cX11_did 14 = .ok (.aload_n 0, 1) := by decide +kernel
theorem dX11_did_15 : decode cX11_did 15 = .ok (.iconst 0, 1) := by decide +kernel
theorem dX11_did_16 : decode cX11_did 16 = .ok (.putfield 174, 3) := by decide +kernel
theorem dX11_did_19 : decode cX11_did 19 = .ok (.iconst 1, 1) := by decide +kernel
theorem dX11_did_20 : decode cX11_did 20 = .ok (.ireturn, 1) := by decide +kernel
theorem dX11_rename_0 : decode cX11_rename 0 = .ok (.aload_n 0, 1) := by decide +kernel
theorem dX11_rename_1 : decode cX11_rename 1 = .ok (.invokevirtual 155, 3) := by decide +kernel
theorem dX11_rename_4 : decode cX11_rename 4 = .ok (.aload_n 0, 1) := by decide +kernel
theorem dX11_rename_5 : decode cX11_rename 5 = .ok (.iload_n 1, 1) := by decide +kernel
theorem dX11_rename_6 : decode cX11_rename 6 = .ok (.invokevirtual 391, 3) := by decide +kernel
theorem dX11_rename_9 : decode cX11_rename 9 = .ok (.ifCond .ne 9, 3) := by decide +kernel
theorem dX11_rename_12 : decode cX11_rename 12 = .ok (.aload_n 0, 1) := by decide +kernel
theorem dX11_rename_13 : decode cX11_rename 13 = .ok (.iconst 1, 1) := by decide +kernel
theorem dX11_rename_14 : decode cX11_rename 14 = .ok (.invokevirtual 312, 3) := by decide +kernel
theorem dX11_rename_17 : decode cX11_rename 17 = .ok (.ireturn, 1) := by decide +kernel
theorem dX11_rename_18 : decode cX11_rename 18 = .ok (.iload_n 2, 1) := by decide +kernel
theorem dX11_rename_19 : decode cX11_rename 19 = .ok (.iconst 0, 1) := by decide +kernel
theorem dX11_rename_20 : decode cX11_rename 20 = .ok (.bipush 25, 2) := by decide +kernel
theorem dX11_rename_22 : decode cX11_rename 22 = .ok (.invokestatic 143, 3) := by decide +kernel
theorem dX11_rename_25 : decode cX11_rename 25 = .ok (.ifCond .ne 9, 3) := by decide +kernel
theorem dX11_rename_28 : decode cX11_rename 28 = .ok (.aload_n 0, 1) := by decide +kernel
theorem dX11_rename_29 : decode cX11_rename 29 = .ok (.iconst 2, 1) := by decide +kernel
theorem dX11_rename_30 : decode cX11_rename 30 = .ok (.invokevirtual 312, 3) := by decide +kernel
theorem dX11_rename_33 : decode cX11_rename 33 = .ok (.ireturn, 1) := by decide +kernel
theorem dX11_rename_34 : decode cX11_rename 34 = .ok (.aload_n 0, 1) := by decide +kernel
theorem dX11_rename_35 : decode cX11_rename 35 = .ok (.getfield 20, 3) := by decide +kernel
theorem dX11_rename_38 : decode cX11_rename 38 = .ok (.sipush 295, 3) := by decide +kernel
theorem dX11_rename_41 : decode cX11_rename 41 = .ok (.iload_n 1, 1) := by decide +kernel
theorem dX11_rename_42 : decode cX11_rename 42 = .ok (.iadd, 1) := by decide +kernel
theorem dX11_rename_43 : decode cX11_rename 43 = .ok (.iaload, 1) := by decide +kernel
theorem dX11_rename_44 : decode cX11_rename 44 = .ok (.iload_n 2, 1) := by decide +kernel
theorem dX11_rename_45 : decode cX11_rename 45 = .ok (.if_icmp .ne 9, 3) := by decide +kernel
theorem dX11_rename_48 : decode cX11_rename 48 = .ok (.aload_n 0, 1) := by decide +kernel
theorem dX11_rename_49 : decode cX11_rename 49 = .ok (.iconst 5, 1) := by decide +kernel
theorem dX11_rename_50 : decode cX11_rename 50 = .ok (.invokevirtual 312, 3) := by decide +kernel
theorem dX11_rename_53 : decode cX11_rename 53 = .ok (.ireturn, 1) := by decide +kernel
theorem dX11_rename_54 : decode cX11_rename 54 = .ok (.aload_n 0, 1) := by decide +kernel
theorem dX11_rename_55 : decode cX11_rename 55 = .ok (.getfield 20, 3) := by decide +kernel
theorem dX11_rename_58 : decode cX11_rename 58 = .ok (.sipush 295, 3) := by decide +kernel
theorem dX11_rename_61 : decode cX11_rename 61 = .ok (.iload_n 1, 1) := by decide +kernel
theorem dX11_rename_62 : decode cX11_rename 62 = .ok (.iadd, 1) := by decide +kernel
theorem dX11_rename_63 : decode cX11_rename 63 = .ok (.iload_n 2, 1) := by decide +kernel
theorem dX11_rename_64 : decode cX11_rename 64 = .ok (.iastore, 1) := by decide +kernel
theorem dX11_rename_65 : decode cX11_rename 65 = .ok (.aload_n 0, 1) := by decide +kernel
theorem dX11_rename_66 : decode cX11_rename 66 = .ok (.invokevirtual 394, 3) := by decide +kernel
theorem dX11_rename_69 : decode cX11_rename 69 = .ok (.ireturn, 1) := by decide +kernel
theorem dX11_bar_0 : decode cX11_bar 0 = .ok (.aload_n 0, 1) := by decide +kernel
theorem dX11_bar_1 : decode cX11_bar 1 = .ok (.invokevirtual 155, 3) := by decide +kernel
theorem dX11_bar_4 : decode cX11_bar 4 = .ok (.aload_n 0, 1) := by decide +kernel
theorem dX11_bar_5 : decode cX11_bar 5 = .ok (.iload_n 1, 1) := by decide +kernel
theorem dX11_bar_6 : decode cX11_bar 6 = .ok (.invokevirtual 249, 3) := by decide +kernel
theorem dX11_bar_9 : decode cX11_bar 9 = .ok (.ifCond .ne 9, 3) := by decide +kernel
theorem dX11_bar_12 : decode cX11_bar 12 = .ok (.aload_n 0, 1) := by decide +kernel
theorem dX11_bar_13 : decode cX11_bar 13 = .ok (.iconst 1, 1) := by decide +kernel
theorem dX11_bar_14 : decode cX11_bar 14 = .ok (.invokevirtual 312, 3) := by decide +kernel
theorem dX11_bar_17 : decode cX11_bar 17 = .ok (.ireturn, 1) := by decide +kernel
theorem dX11_bar_18 : decode cX11_bar 18 = .ok (.aload_n 0, 1) := by decide +kernel
theorem dX11_bar_19 : decode cX11_bar 19 = .ok (.getfield 20, 3) := by decide +kernel
theorem dX11_bar_22 : decode cX11_bar 22 = .ok (.sipush 199, 3) := by decide +kernel
theorem dX11_bar_25 : decode cX11_bar 25 = .ok (.iload_n 1, 1) := by decide +kernel
theorem dX11_bar_26 : decode cX11_bar 26 = .ok (.iadd, 1) := by decide +kernel
theorem dX11_bar_27 : decode cX11_bar 27 = .ok (.iaload, 1) := by decide +kernel
theorem dX11_bar_28 : decode cX11_bar 28 = .ok (.iload_n 2, 1) := by decide +kernel
theorem dX11_bar_29 : decode cX11_bar 29 = .ok (.ifCond .eq 7, 3) := by decide +kernel
theorem dX11_bar_32 : decode cX11_bar 32 = .ok (.iconst 1, 1) := by decide +kernel
theorem dX11_bar_33 : decode cX11_bar 33 = .ok (.goto 4, 3) := by decide +kernel
theorem dX11_bar_36 : decode cX11_bar 36 = .ok (.iconst 0, 1) := by decide +kernel
theorem dX11_bar_37 : decode cX11_bar 37 = .ok (.if_icmp .ne 9, 3) := by decide +kernel
theorem dX11_bar_40 : decode cX11_bar 40 = .ok (.aload_n 0, 1) := by decide +kernel
theorem dX11_bar_41 : decode cX11_bar 41 = .ok (.iconst 5, 1) := by decide +kernel
theorem dX11_bar_42 : decode cX11_bar 42 = .ok (.invokevirtual 312, 3) := by decide +kernel
theorem dX11_bar_45 : decode cX11_bar 45 = .ok (.ireturn, 1) := by decide +kernel
theorem dX11_bar_46 : decode cX11_bar 46 = .ok (.aload_n 0, 1) := by decide +kernel
theorem dX11_bar_47 : decode cX11_bar 47 = .ok (.getfield 20, 3) := by decide +kernel
theorem dX11_bar_50 : decode cX11_bar 50 = .ok (.sipush 199, 3) := by decide +kernel
theorem dX11_bar_53 : decode cX11_bar 53 = .ok (.iload_n 1, 1) := by decide +kernel
theorem dX11_bar_54 : decode cX11_bar 54 = .ok (.iadd, 1) := by decide +kernel
theorem dX11_bar_55 : decode cX11_bar 55 = .ok (.iload_n 2, 1) := by decide +kernel
theorem dX11_bar_56 : decode cX11_bar 56 = .ok (.ifCond .eq 7, 3) := by decide +kernel
theorem dX11_bar_59 : decode cX11_bar 59 = .ok (.iconst 1, 1) := by decide +kernel
theorem dX11_bar_60 : decode cX11_bar 60 = .ok (.goto 4, 3) := by decide +kernel
theorem dX11_bar_63 : decode cX11_bar 63 = .ok (.iconst 0, 1) := by decide +kernel
theorem dX11_bar_64 : decode cX11_bar 64 = .ok (.iastore, 1) := by decide +kernel
theorem dX11_bar_65 : decode cX11_bar 65 = .ok (.aload_n 0, 1) := by decide +kernel
theorem dX11_bar_66 : decode cX11_bar 66 = .ok (.invokevirtual 394, 3) := by decide +kernel
theorem dX11_bar_69 : decode cX11_bar 69 = .ok (.ireturn, 1) := by decide +kernel
theorem dX11_guest_0 : decode cX11_guest 0 = .ok (.aload_n 0, 1) := by decide +kernel
theorem dX11_guest_1 : decode cX11_guest 1 = .ok (.invokevirtual 155, 3) := by decide +kernel
theorem dX11_guest_4 : decode cX11_guest 4 = .ok (.aload_n 0, 1) := by decide +kernel
theorem dX11_guest_5 : decode cX11_guest 5 = .ok (.iload_n 1, 1) := by decide +kernel
theorem dX11_guest_6 : decode cX11_guest 6 = .ok (.invokevirtual 391, 3) := by decide +kernel
theorem dX11_guest_9 : decode cX11_guest 9 = .ok (.ifCond .eq 16, 3) := by decide +kernel
theorem dX11_guest_12 : decode cX11_guest 12 = .ok (.aload_n 0, 1) := by decide +kernel
theorem dX11_guest_13 : decode cX11_guest 13 = .ok (.getfield 20, 3) := by decide +kernel
theorem dX11_guest_16 : decode cX11_guest 16 = .ok (.sipush 295, 3) := by decide +kernel
theorem dX11_guest_19 : decode cX11_guest 19 = .ok (.iload_n 1, 1) := by decide +kernel
theorem dX11_guest_20 : decode cX11_guest 20 = .ok (.iadd, 1) := by decide +kernel
theorem dX11_guest_21 : decode cX11_guest 21 = .ok (.iaload, 1) := by decide +kernel
theorem dX11_guest_22 : decode cX11_guest 22 = .ok (.goto 8, 3) := by decide +kernel
theorem dX11_guest_25 : decode cX11_guest 25 = .ok (.aload_n 0, 1) := by decide +kernel
theorem dX11_guest_26 : decode cX11_guest 26 = .ok (.iconst 1, 1) := by decide +kernel
theorem dX11_guest_27 : decode cX11_guest 27 = .ok (.invokevirtual 158, 3) := by decide +kernel
theorem dX11_guest_30 : decode cX11_guest 30 = .ok (.ireturn, 1) := by decide +kernel
theorem dX11_led_0 : decode cX11_led 0 = .ok (.iconst 0, 1) := by decide +kernel
theorem dX11_led_1 : decode cX11_led 1 = .ok (.istore_n 2, 1) := by decide +kernel
theorem dX11_led_2 : decode cX11_led 2 = .ok (.iconst 0, 1) := by decide +kernel
theorem dX11_led_3 : decode cX11_led 3 = .ok (.istore_n 3, 1) := by decide +kernel
theorem dX11_led_4 : decode cX11_led 4 = .ok (.aload_n 0, 1) := by decide +kernel
theorem dX11_led_5 : decode cX11_led 5 = .ok (.getfield 164, 3) := by decide +kernel
theorem dX11_led_8 : decode cX11_led 8 = .ok (.ifCond .eq 51, 3) := by decide +kernel
theorem dX11_led_11 : decode cX11_led 11 = .ok (.iload_n 3, 1) := by decide +kernel
theorem dX11_led_12 : decode cX11_led 12 = .ok (.aload_n 0, 1) := by decide +kernel
theorem dX11_led_13 : decode cX11_led 13 = .ok (.getfield 26, 3) := by decide +kernel
theorem dX11_led_16 : decode cX11_led 16 = .ok (.iconst 4, 1) := by decide +kernel
theorem dX11_led_17 : decode cX11_led 17 = .ok (.iaload, 1) := by decide +kernel
theorem dX11_led_18 : decode cX11_led 18 = .ok (.if_icmp .ge 41, 3) := by decide +kernel
theorem dX11_led_21 : decode cX11_led 21 = .ok (.aload_n 0, 1) := by decide +kernel
theorem dX11_led_22 : decode cX11_led 22 = .ok (.getfield 26, 3) := by decide +kernel
theorem dX11_led_25 : decode cX11_led 25 = .ok (.iconst 5, 1) := by decide +kernel
theorem dX11_led_26 : decode cX11_led 26 = .ok (.iaload, 1) := by decide +kernel
theorem dX11_led_27 : decode cX11_led 27 = .ok (.iload_n 3, 1) := by decide +kernel
theorem dX11_led_28 : decode cX11_led 28 = .ok (.ishr, 1) := by decide +kernel
theorem dX11_led_29 : decode cX11_led 29 = .ok (.iconst 1, 1) := by decide +kernel
theorem dX11_led_30 : decode cX11_led 30 = .ok (.iand, 1) := by decide +kernel
theorem dX11_led_31 : decode cX11_led 31 = .ok (.iconst 1, 1) := by decide +kernel
theorem dX11_led_32 : decode cX11_led 32 = .ok (.if_icmp .ne 6, 3) := by decide +kernel
theorem dX11_led_35 : decode cX11_led 35 = .ok (.goto 18, 3) := by decide +kernel
theorem dX11_led_38 : decode cX11_led 38 = .ok (.iload_n 2, 1) := by decide +kernel
theorem dX11_led_39 : decode cX11_led 39 = .ok (.iload_n 1, 1) := by decide +kernel
theorem dX11_led_40 : decode cX11_led 40 = .ok (.if_icmp .ne 10, 3) := by decide +kernel
theorem dX11_led_43 : decode cX11_led 43 = .ok (.aload_n 0, 1) := by decide +kernel
theorem dX11_led_44 : decode cX11_led 44 = .ok (.iconst 0, 1) := by decide +kernel
theorem dX11_led_45 : decode cX11_led 45 = .ok (.putfield 74, 3) := by decide +kernel
theorem dX11_led_48 : decode cX11_led 48 = .ok (.iload_n 3, 1) := by decide +kernel
theorem dX11_led_49 : decode cX11_led 49 = .ok (.ireturn, 1) := by decide +kernel
theorem dX11_led_50 : decode cX11_led 50 = .ok (.iinc 2 1, 3) := by decide +kernel
theorem dX11_led_53 : decode cX11_led 53 = .ok (.iinc 3 1, 3) := by decide +kernel
theorem dX11_led_56 : decode cX11_led 56 = .ok (.goto (-52), 3) := by decide +kernel
theorem dX11_led_59 : decode cX11_led 59 = .ok (.aload_n 0, 1) := by decide +kernel
theorem dX11_led_60 : decode cX11_led 60 = .ok (.iconst 1, 1) := by decide +kernel
theorem dX11_led_61 : decode cX11_led 61 = .ok (.putfield 74, 3) := by decide +kernel
theorem dX11_led_64 : decode cX11_led 64 = .ok (.iconst 0, 1) := by decide +kernel
theorem dX11_led_65 : decode cX11_led 65 = .ok (.ireturn, 1) := by decide +kernel
theorem dX11_size_0 : decode cX11_size 0 = .ok (.aload_n 0, 1) := by decide +kernel
theorem dX11_size_1 : decode cX11_size 1 = .ok (.iconst 0, 1) := by decide +kernel
theorem dX11_size_2 : decode cX11_size 2 = .ok (.putfield 74, 3) := by decide +kernel
theorem dX11_size_5 : decode cX11_size 5 = .ok (.iload_n 1, 1) := by decide +kernel
theorem dX11_size_6 : decode cX11_size 6 = .ok (.bipush 9, 2) := by decide +kernel
theorem dX11_size_8 : decode cX11_size 8 = .ok (.if_icmp .ne 8, 3) := by decide +kernel
theorem dX11_size_11 : decode cX11_size 11 = .ok (.aload_n 0, 1) := by decide +kernel
theorem dX11_size_12 : decode cX11_size 12 = .ok (.getfield 80, 3) := by decide +kernel
theorem dX11_size_15 : decode cX11_size 15 = .ok (.ireturn, 1) := by decide +kernel
theorem dX11_size_16 : decode cX11_size 16 = .ok (.aload_n 0, 1) := by decide +kernel
theorem dX11_size_17 : decode cX11_size 17 = .ok (.getfield 164, 3) := by decide +kernel
theorem dX11_size_20 : decode cX11_size 20 = .ok (.ifCond .ne 19, 3) := by decide +kernel
theorem dX11_size_23 : decode cX11_size 23 = .ok (.iload_n 1, 1) := by decide +kernel
theorem dX11_size_24 : decode cX11_size 24 = .ok (.iconst 0, 1) := by decide +kernel
theorem dX11_size_25 : decode cX11_size 25 = .ok (.bipush 8, 2) := by decide +kernel
theorem dX11_size_27 : decode cX11_size 27 = .ok (.invokestatic 143, 3) := by decide +kernel
theorem dX11_size_30 : decode cX11_size 30 = .ok (.ifCond .eq 7, 3) := by decide +kernel
theorem dX11_size_33 : decode cX11_size 33 = .ok (.iconst 0, 1) := by decide +kernel
theorem dX11_size_34 : decode cX11_size 34 = .ok (.goto 4, 3) := by decide +kernel
theorem dX11_size_37 : decode cX11_size 37 = .ok (.iconst (-1), 1) := by decide +kernel
theorem dX11_size_38 : decode cX11_size 38 = .ok (.ireturn, 1) := by decide +kernel
theorem dX11_size_39 : decode cX11_size 39 = .ok (.iload_n 1, 1) := by decide +kernel
theorem dX11_size_40 : decode cX11_size 40 = .ok (.tableswitch 114 0 8 #[52, 59, 66, 73, 80, 87, 95, 102, 109], 52) := by decide +kernel
theorem dX11_size_92 : decode cX11_size 92 = .ok (.aload_n 0, 1) := by decide +kernel
theorem dX11_size_93 : decode cX11_size 93 = .ok (.getfield 20, 3) := by decide +kernel
theorem dX11_size_96 : decode cX11_size 96 = .ok (.iconst 0, 1) := by decide +kernel
theorem dX11_size_97 : decode cX11_size 97 = .ok (.iaload, 1) := by decide +kernel
theorem dX11_size_98 : decode cX11_size 98 = .ok (.ireturn, 1) := by decide +kernel
theorem dX11_size_99 : decode cX11_size 99 = .ok (.aload_n 0, 1) := by decide +kernel
theorem dX11_size_100 : decode cX11_size 100 = .ok (.getfield 20, 3) := by decide +kernel
theorem dX11_size_103 : decode cX11_size 103 = .ok (.iconst 1, 1) := by decide +kernel
theorem dX11_size_104 : decode cX11_size 104 = .ok (.iaload, 1) := by decide +kernel
theorem dX11_size_105 : decode cX11_size 105 = .ok (.ireturn, 1) := by decide +kernel
theorem dX11_size_106 : decode cX11_size 106 = .ok (.aload_n 0, 1) := by decide +kernel
theorem dX11_size_107 : decode cX11_size 107 = .ok (.getfield 20, 3) := by decide +kernel
theorem dX11_size_110 : decode cX11_size 110 = .ok (.iconst 3, 1) := by decide +kernel
theorem dX11_size_111 : decode cX11_size 111 = .ok (.iaload, 1) := by decide +kernel
theorem dX11_size_112 : decode cX11_size 112 = .ok (.ireturn, 1) := by decide +kernel
theorem dX11_size_113 : decode cX11_size 113 = .ok (.aload_n 0, 1) := by decide +kernel
theorem dX11_size_114 : decode cX11_size 114 = .ok (.getfield 20, 3) := by decide +kernel
theorem dX11_size_117 : decode cX11_size 117 = .ok (.iconst 4, 1) := by decide +kernel
theorem dX11_size_118 : decode cX11_size 118 = .ok (.iaload, 1) := by decide +kernel
theorem dX11_size_119 : decode cX11_size 119 = .ok (.ireturn, 1) := by decide +kernel
theorem dX11_size_120 : decode cX11_size 120 = .ok (.aload_n 0, 1) := by decide +kernel
theorem dX11_size_121 : decode cX11_size 121 = .ok (.getfield 20, 3) := by decide +kernel
theorem dX11_size_124 : decode cX11_size 124 = .ok (.iconst 5, 1) := by decide +kernel
theorem dX11_size_125 : decode cX11_size 125 = .ok (.iaload, 1) := by decide +kernel
theorem dX11_size_126 : decode cX11_size 126 = .ok (.ireturn, 1) := by decide +kernel
theorem dX11_size_127 : decode cX11_size 127 = .ok (.aload_n 0, 1) := by decide +kernel
theorem dX11_size_128 : decode cX11_size 128 = .ok (.getfield 20, 3) := by decide +kernel
theorem dX11_size_131 : decode cX11_size 131 = .ok (.bipush 6, 2) := by decide +kernel
theorem dX11_size_133 : decode cX11_size 133 = .ok (.iaload, 1) := by decide +kernel
theorem dX11_size_134 : decode cX11_size 134 = .ok (.ireturn, 1) := by decide +kernel
theorem dX11_size_135 : decode cX11_size 135 = .ok (.aload_n 0, 1) := by decide +kernel
theorem dX11_size_136 : decode cX11_size 136 = .ok (.getfield 26, 3) := by decide +kernel
theorem dX11_size_139 : decode cX11_size 139 = .ok (.iconst 4, 1) := by decide +kernel
theorem dX11_size_140 : decode cX11_size 140 = .ok (.iaload, 1) := by decide +kernel
theorem dX11_size_141 : decode cX11_size 141 = .ok (.ireturn, 1) := by decide +kernel
theorem dX11_size_142 : decode cX11_size 142 = .ok (.aload_n 0, 1) := by decide +kernel
theorem dX11_size_143 : decode cX11_size 143 = .ok (.getfield 26, 3) := by decide +kernel
theorem dX11_size_146 : decode cX11_size 146 = .ok (.iconst 3, 1) := by decide +kernel
theorem dX11_size_147 : decode cX11_size 147 = .ok (.iaload, 1) := by decide +kernel
theorem dX11_size_148 : decode cX11_size 148 = .ok (.ireturn, 1) := by decide +kernel
theorem dX11_size_149 : decode cX11_size 149 = .ok (.aload_n 0, 1) := by decide +kernel
theorem dX11_size_150 : decode cX11_size 150 = .ok (.getfield 174, 3) := by decide +kernel
theorem dX11_size_153 : decode cX11_size 153 = .ok (.ireturn, 1) := by decide +kernel
theorem dX11_size_154 : decode cX11_size 154 = .ok (.iconst (-1), 1) := by decide +kernel
theorem dX11_size_155 : decode cX11_size 155 = .ok (.ireturn, 1) := by decide +kernel
theorem dX11_trouble_0 : decode cX11_trouble 0 = .ok (.aload_n 0, 1) := by decide +kernel
theorem dX11_trouble_1 : decode cX11_trouble 1 = .ok (.iconst 0, 1) := by decide +kernel
theorem dX11_trouble_2 : decode cX11_trouble 2 = .ok (.putfield 74, 3) := by decide +kernel
theorem dX11_trouble_5 : decode cX11_trouble 5 = .ok (.aload_n 0, 1) := by decide +kernel
theorem dX11_trouble_6 : decode cX11_trouble 6 = .ok (.getfield 77, 3) := by decide +kernel
theorem dX11_trouble_9 : decode cX11_trouble 9 = .ok (.ireturn, 1) := by decide +kernel
theorem dJ6_bitCount_0f7a4_0 : decode cJ6_bitCount_0f7a4 0 = .ok (.iload_n 0, 1) := by decide +kernel
theorem dJ6_bitCount_0f7a4_1 : decode cJ6_bitCount_0f7a4 1 = .ok (.iload_n 0, 1) := by decide +kernel
theorem dJ6_bitCount_0f7a4_2 : decode cJ6_bitCount_0f7a4 2 = .ok (.iconst 1, 1) := by decide +kernel
theorem dJ6_bitCount_0f7a4_3 : decode cJ6_bitCount_0f7a4 3 = .ok (.iushr, 1) := by decide +kernel
theorem dJ6_bitCount_0f7a4_4 : decode cJ6_bitCount_0f7a4 4 = .ok (.ldc_w 265, 3) := by decide +kernel
theorem dJ6_bitCount_0f7a4_7 : decode cJ6_bitCount_0f7a4 7 = .ok (.iand, 1) := by decide +kernel
theorem dJ6_bitCount_0f7a4_8 : decode cJ6_bitCount_0f7a4 8 = .ok (.isub, 1) := by decide +kernel
theorem dJ6_bitCount_0f7a4_9 : decode cJ6_bitCount_0f7a4 9 = .ok (.istore_n 0, 1) := by decide +kernel
theorem dJ6_bitCount_0f7a4_10 : decode cJ6_bitCount_0f7a4 10 = .ok (.iload_n 0, 1) := by decide +kernel
theorem dJ6_bitCount_0f7a4_11 : decode cJ6_bitCount_0f7a4 11 = .ok (.ldc_w 266, 3) := by decide +kernel
theorem dJ6_bitCount_0f7a4_14 : decode cJ6_bitCount_0f7a4 14 = .ok (.iand, 1) := by decide +kernel
theorem dJ6_bitCount_0f7a4_15 : decode cJ6_bitCount_0f7a4 15 = .ok (.iload_n 0, 1) := by decide +kernel
theorem dJ6_bitCount_0f7a4_16 : decode cJ6_bitCount_0f7a4 16 = .ok (.iconst 2, 1) := by decide +kernel
theorem dJ6_bitCount_0f7a4_17 : decode cJ6_bitCount_0f7a4 17 = .ok (.iushr, 1) := by decide +kernel
theorem dJ6_bitCount_0f7a4_18 : decode cJ6_bitCount_0f7a4 18 = .ok (.ldc_w 266, 3) := by decide +kernel
theorem dJ6_bitCount_0f7a4_21 : decode cJ6_bitCount_0f7a4 21 = .ok (.iand, 1) := by decide +kernel
theorem dJ6_bitCount_0f7a4_22 : decode cJ6_bitCount_0f7a4 22 = .ok (.iadd, 1) := by decide +kernel
theorem dJ6_bitCount_0f7a4_23 : decode cJ6_bitCount_0f7a4 23 = .ok (.istore_n 0, 1) := by decide +kernel
theorem dJ6_bitCount_0f7a4_24 : decode cJ6_bitCount_0f7a4 24 = .ok (.iload_n 0, 1) := by decide +kernel
theorem dJ6_bitCount_0f7a4_25 : decode cJ6_bitCount_0f7a4 25 = .ok (.iload_n 0, 1) := by decide +kernel
theorem dJ6_bitCount_0f7a4_26 : decode cJ6_bitCount_0f7a4 26 = .ok (.iconst 4, 1) := by decide +kernel
theorem dJ6_bitCount_0f7a4_27 : decode cJ6_bitCount_0f7a4 27 = .ok (.iushr, 1) := by decide +kernel
theorem dJ6_bitCount_0f7a4_28 : decode cJ6_bitCount_0f7a4 28 = .ok (.iadd, 1) := by decide +kernel
theorem dJ6_bitCount_0f7a4_29 : decode cJ6_bitCount_0f7a4 29 = .ok (.ldc_w 267, 3) := by decide +kernel
theorem dJ6_bitCount_0f7a4_32 : decode cJ6_bitCount_0f7a4 32 = .ok (.iand, 1) := by decide +kernel
theorem dJ6_bitCount_0f7a4_33 : decode cJ6_bitCount_0f7a4 33 = .ok (.istore_n 0, 1) := by decide +kernel
theorem dJ6_bitCount_0f7a4_34 : decode cJ6_bitCount_0f7a4 34 = .ok (.iload_n 0, 1) := by decide +kernel
theorem dJ6_bitCount_0f7a4_35 : decode cJ6_bitCount_0f7a4 35 = .ok (.iload_n 0, 1) := by decide +kernel
theorem dJ6_bitCount_0f7a4_36 : decode cJ6_bitCount_0f7a4 36 = .ok (.bipush 8, 2) := by decide +kernel
theorem dJ6_bitCount_0f7a4_38 : decode cJ6_bitCount_0f7a4 38 = .ok (.iushr, 1) := by decide +kernel
theorem dJ6_bitCount_0f7a4_39 : decode cJ6_bitCount_0f7a4 39 = .ok (.iadd, 1) := by decide +kernel
theorem dJ6_bitCount_0f7a4_40 : decode cJ6_bitCount_0f7a4 40 = .ok (.istore_n 0, 1) := by decide +kernel
theorem dJ6_bitCount_0f7a4_41 : decode cJ6_bitCount_0f7a4 41 = .ok (.iload_n 0, 1) := by decide +kernel
theorem dJ6_bitCount_0f7a4_42 : decode cJ6_bitCount_0f7a4 42 = .ok (.iload_n 0, 1) := by decide +kernel
theorem dJ6_bitCount_0f7a4_43 : decode cJ6_bitCount_0f7a4 43 = .ok (.bipush 16, 2) := by decide +kernel
theorem dJ6_bitCount_0f7a4_45 : decode cJ6_bitCount_0f7a4 45 = .ok (.iushr, 1) := by decide +kernel
theorem dJ6_bitCount_0f7a4_46 : decode cJ6_bitCount_0f7a4 46 = .ok (.iadd, 1) := by decide +kernel
theorem dJ6_bitCount_0f7a4_47 : decode cJ6_bitCount_0f7a4 47 = .ok (.istore_n 0, 1) := by decide +kernel
theorem dJ6_bitCount_0f7a4_48 : decode cJ6_bitCount_0f7a4 48 = .ok (.iload_n 0, 1) := by decide +kernel
theorem dJ6_bitCount_0f7a4_49 : decode cJ6_bitCount_0f7a4 49 = .ok (.bipush 63, 2) := by decide +kernel
theorem dJ6_bitCount_0f7a4_51 : decode cJ6_bitCount_0f7a4 51 = .ok (.iand, 1) := by decide +kernel
theorem dJ6_bitCount_0f7a4_52 : decode cJ6_bitCount_0f7a4 52 = .ok (.ireturn, 1) := by decide +kernel
theorem dJ9_max_7cf53_0 : decode cJ9_max_7cf53 0 = .ok (.iload_n 0, 1) := by decide +kernel
theorem dJ9_max_7cf53_1 : decode cJ9_max_7cf53 1 = .ok (.iload_n 1, 1) := by decide +kernel
theorem dJ9_max_7cf53_2 : decode cJ9_max_7cf53 2 = .ok (.if_icmp .lt 7, 3) := by decide +kernel
theorem dJ9_max_7cf53_5 : decode cJ9_max_7cf53 5 = .ok (.iload_n 0, 1) := by decide +kernel
theorem dJ9_max_7cf53_6 : decode cJ9_max_7cf53 6 = .ok (.goto 4, 3) := by decide +kernel
theorem dJ9_max_7cf53_9 : decode cJ9_max_7cf53 9 = .ok (.iload_n 1, 1) := by decide +kernel
theorem dJ9_max_7cf53_10 : decode cJ9_max_7cf53 10 = .ok (.ireturn, 1) := by decide +kernel
theorem dJ9_min_7cf53_0 : decode cJ9_min_7cf53 0 = .ok (.iload_n 0, 1) := by decide +kernel
theorem dJ9_min_7cf53_1 : decode cJ9_min_7cf53 1 = .ok (.iload_n 1, 1) := by decide +kernel
theorem dJ9_min_7cf53_2 : decode cJ9_min_7cf53 2 = .ok (.if_icmp .gt 7, 3) := by decide +kernel
theorem dJ9_min_7cf53_5 : decode cJ9_min_7cf53 5 = .ok (.iload_n 0, 1) := by decide +kernel
theorem dJ9_min_7cf53_6 : decode cJ9_min_7cf53 6 = .ok (.goto 4, 3) := by decide +kernel
theorem dJ9_min_7cf53_9 : decode cJ9_min_7cf53 9 = .ok (.iload_n 1, 1) := by decide +kernel
theorem dJ9_min_7cf53_10 : decode cJ9_min_7cf53 10 = .ok (.ireturn, 1) := by decide +kernel
theorem dJ0_length_8abf5_0 : decode cJ0_length_8abf5 0 = .ok (.aload_n 0, 1) := by decide +kernel
theorem dJ0_length_8abf5_1 : decode cJ0_length_8abf5 1 = .ok (.getfield 9, 3) := by decide +kernel
theorem dJ0_length_8abf5_4 : decode cJ0_length_8abf5 4 = .ok (.arraylength, 1) := by decide +kernel
theorem dJ0_length_8abf5_5 : decode cJ0_length_8abf5 5 = .ok (.aload_n 0, 1) := by decide +kernel
theorem dJ0_length_8abf5_6 : decode cJ0_length_8abf5 6 = .ok (.invokevirtual 335, 3) := by decide +kernel
theorem dJ0_length_8abf5_9 : decode cJ0_length_8abf5 9 = .ok (.ishr, 1) := by decide +kernel
theorem dJ0_length_8abf5_10 : decode cJ0_length_8abf5 10 = .ok (.ireturn, 1) := by decide +kernel
theorem dJ0_charAt_5068e_0 : decode cJ0_charAt_5068e 0 = .ok (.aload_n 0, 1) := by decide +kernel
theorem dJ0_charAt_5068e_1 : decode cJ0_charAt_5068e 1 = .ok (.invokevirtual 492, 3) := by decide +kernel
theorem dJ0_charAt_5068e_4 : decode cJ0_charAt_5068e 4 = .ok (.ifCond .eq 12, 3) := by decide +kernel
theorem dJ0_charAt_5068e_7 : decode cJ0_charAt_5068e 7 = .ok (.aload_n 0, 1) := by decide +kernel
theorem dJ0_charAt_5068e_8 : decode cJ0_charAt_5068e 8 = .ok (.getfield 9, 3) := by decide +kernel
theorem dJ0_charAt_5068e_11 : decode cJ0_charAt_5068e 11 = .ok (.iload_n 1, 1) := by decide +kernel
theorem dJ0_charAt_5068e_12 : decode cJ0_charAt_5068e 12 = .ok (.invokestatic 495, 3) := by decide +kernel
theorem dJ0_charAt_5068e_15 : decode cJ0_charAt_5068e 15 = .ok (.ireturn, 1) := by decide +kernel
theorem dJ0_charAt_5068e_16 : decode cJ0_charAt_5068e 16 = .ok (.aload_n 0, 1) := by decide +kernel
theorem dJ0_charAt_5068e_17 : decode cJ0_charAt_5068e 17 = .ok (.getfield 9, 3) := by decide +kernel
theorem dJ0_charAt_5068e_20 : decode cJ0_charAt_5068e 20 = .ok (.iload_n 1, 1) := by decide +kernel
theorem dJ0_charAt_5068e_21 : decode cJ0_charAt_5068e 21 = .ok (.invokestatic 498, 3) := by decide +kernel
theorem dJ0_charAt_5068e_24 : decode cJ0_charAt_5068e 24 = .ok (.ireturn, 1) := by decide +kernel
theorem dJ0_coder_7d493_0 : decode cJ0_coder_7d493 0 = .ok (.getstatic 38, 3) := by decide +kernel
theorem dJ0_coder_7d493_3 : decode cJ0_coder_7d493 3 = .ok (.ifCond .eq 10, 3) := by decide +kernel
theorem dJ0_coder_7d493_6 : decode cJ0_coder_7d493 6 = .ok (.aload_n 0, 1) := by decide +kernel
theorem dJ0_coder_7d493_7 : decode cJ0_coder_7d493 7 = .ok (.getfield 15, 3) := by decide +kernel
theorem dJ0_coder_7d493_10 : decode cJ0_coder_7d493 10 = .ok (.goto 4, 3) := by decide +kernel
theorem dJ0_coder_7d493_13 : decode cJ0_coder_7d493 13 = .ok (.iconst 1, 1) := by decide +kernel
theorem dJ0_coder_7d493_14 : decode cJ0_coder_7d493 14 = .ok (.ireturn, 1) := by decide +kernel
theorem dJ0_isLatin1_aae02_0 : decode cJ0_isLatin1_aae02 0 = .ok (.getstatic 38, 3) := by decide +kernel
theorem dJ0_isLatin1_aae02_3 : decode cJ0_isLatin1_aae02 3 = .ok (.ifCond .eq 14, 3) := by decide +kernel
theorem dJ0_isLatin1_aae02_6 : decode cJ0_isLatin1_aae02 6 = .ok (.aload_n 0, 1) := by decide +kernel
theorem dJ0_isLatin1_aae02_7 : decode cJ0_isLatin1_aae02 7 = .ok (.getfield 15, 3) := by decide +kernel
theorem dJ0_isLatin1_aae02_10 : decode cJ0_isLatin1_aae02 10 = .ok (.ifCond .ne 7, 3) := by decide +kernel
theorem dJ0_isLatin1_aae02_13 : decode cJ0_isLatin1_aae02 13 = .ok (.iconst 1, 1) := by decide +kernel
theorem dJ0_isLatin1_aae02_14 : decode cJ0_isLatin1_aae02 14 = .ok (.goto 4, 3) := by decide +kernel
theorem dJ0_isLatin1_aae02_17 : decode cJ0_isLatin1_aae02 17 = .ok (.iconst 0, 1) := by decide +kernel
theorem dJ0_isLatin1_aae02_18 : decode cJ0_isLatin1_aae02 18 = .ok (.ireturn, 1) := by decide +kernel
theorem dJ0_checkIndex_df160_0 : decode cJ0_checkIndex_df160 0 = .ok (.iload_n 0, 1) := by decide +kernel
theorem dJ0_checkIndex_df160_1 : decode cJ0_checkIndex_df160 1 = .ok (.iload_n 1, 1) := by decide +kernel
theorem dJ0_checkIndex_df160_2 : decode cJ0_checkIndex_df160 2 = .ok (.getstatic 1053, 3) := by decide +kernel
theorem dJ0_checkIndex_df160_5 : decode cJ0_checkIndex_df160 5 = .ok (.invokestatic 1059, 3) := by decide +kernel
theorem dJ0_checkIndex_df160_8 : decode cJ0_checkIndex_df160 8 = .ok (.pop, 1) := by decide +kernel
theorem dJ0_checkIndex_df160_9 : decode cJ0_checkIndex_df160 9 = .ok (.return_, 1) := by decide +kernel
theorem dJ1_charAt_3b067_0 : decode cJ1_charAt_3b067 0 = .ok (.iload_n 1, 1) := by decide +kernel
theorem dJ1_charAt_3b067_1 : decode cJ1_charAt_3b067 1 = .ok (.aload_n 0, 1) := by decide +kernel
theorem dJ1_charAt_3b067_2 : decode cJ1_charAt_3b067 2 = .ok (.arraylength, 1) := by decide +kernel
theorem dJ1_charAt_3b067_3 : decode cJ1_charAt_3b067 3 = .ok (.invokestatic 9, 3) := by decide +kernel
theorem dJ1_charAt_3b067_6 : decode cJ1_charAt_3b067 6 = .ok (.aload_n 0, 1) := by decide +kernel
theorem dJ1_charAt_3b067_7 : decode cJ1_charAt_3b067 7 = .ok (.iload_n 1, 1) := by decide +kernel
theorem dJ1_charAt_3b067_8 : decode cJ1_charAt_3b067 8 = .ok (.baload, 1) := by decide +kernel
theorem dJ1_charAt_3b067_9 : decode cJ1_charAt_3b067 9 = .ok (.sipush 255, 3) := by decide +kernel
theorem dJ1_charAt_3b067_12 : decode cJ1_charAt_3b067 12 = .ok (.iand, 1) := by decide +kernel
theorem dJ1_charAt_3b067_13 : decode cJ1_charAt_3b067 13 = .ok (.i2c, 1) := by decide +kernel
theorem dJ1_charAt_3b067_14 : decode cJ1_charAt_3b067 14 = .ok (.ireturn, 1) := by decide +kernel
theorem dJ2_getChar_3b067_0 : decode cJ2_getChar_3b067 0 = .ok (.getstatic 44, 3) := by decide +kernel
theorem dJ2_getChar_3b067_3 : decode cJ2_getChar_3b067 3 = .ok (.ifCond .ne 25, 3) := by decide +kernel
theorem dJ2_getChar_3b067_6 : decode cJ2_getChar_3b067 6 = .ok (.iload_n 1, 1) := by decide +kernel
theorem dJ2_getChar_3b067_7 : decode cJ2_getChar_3b067 7 = .ok (.ifCond .lt 11, 3) := by decide +kernel
theorem dJ2_getChar_3b067_10 : decode cJ2_getChar_3b067 10 = .ok (.iload_n 1, 1) := by decide +kernel
theorem dJ2_getChar_3b067_11 : decode cJ2_getChar_3b067 11 = .ok (.aload_n 0, 1) := by decide +kernel
theorem dJ2_getChar_3b067_12 : decode cJ2_getChar_3b067 12 = .ok (.invokestatic 48, 3) := by decide +kernel
theorem dJ2_getChar_3b067_15 : decode cJ2_getChar_3b067 15 = .ok (.if_icmp .lt 13, 3) := by decide +kernel
theorem dJ2_getChar_3b067_18 : decode cJ2_getChar_3b067 18 = .ok (.new 52, 3) := by decide +kernel
theorem dJ2_getChar_3b067_21 : decode cJ2_getChar_3b067 21 = .ok (.dup, 1) := by decide +kernel
theorem dJ2_getChar_3b067_22 : decode cJ2_getChar_3b067 22 = .ok (.ldc 54, 2) := by decide +kernel
theorem dJ2_getChar_3b067_24 : decode cJ2_getChar_3b067 24 = .ok (.invokespecial 56, 3) := by decide +kernel
theorem dJ2_getChar_3b067_27 : decode cJ2_getChar_3b067 27 = .ok (.athrow, 1) := by decide +kernel
theorem dJ2_getChar_3b067_28 : decode cJ2_getChar_3b067 28 = .ok (.iload_n 1, 1) := by decide +kernel
theorem dJ2_getChar_3b067_29 : decode cJ2_getChar_3b067 29 = .ok (.iconst 1, 1) := by decide +kernel
theorem dJ2_getChar_3b067_30 : decode cJ2_getChar_3b067 30 = .ok (.ishl, 1) := by decide +kernel
theorem dJ2_getChar_3b067_31 : decode cJ2_getChar_3b067 31 = .ok (.istore_n 1, 1) := by decide +kernel
theorem dJ2_getChar_3b067_32 : decode cJ2_getChar_3b067 32 = .ok (.aload_n 0, 1) := by decide +kernel
theorem dJ2_getChar_3b067_33 : decode cJ2_getChar_3b067 33 = .ok (.iload_n 1, 1) := by decide +kernel
theorem dJ2_getChar_3b067_34 : decode cJ2_getChar_3b067 34 = .ok (.iinc 1 1, 3) := by decide +kernel
theorem dJ2_getChar_3b067_37 : decode cJ2_getChar_3b067 37 = .ok (.baload, 1) := by decide +kernel
theorem dJ2_getChar_3b067_38 : decode cJ2_getChar_3b067 38 = .ok (.sipush 255, 3) := by decide +kernel
theorem dJ2_getChar_3b067_41 : decode cJ2_getChar_3b067 41 = .ok (.iand, 1) := by decide +kernel
theorem dJ2_getChar_3b067_42 : decode cJ2_getChar_3b067 42 = .ok (.getstatic 59, 3) := by decide +kernel
theorem dJ2_getChar_3b067_45 : decode cJ2_getChar_3b067 45 = .ok (.ishl, 1) := by decide +kernel
theorem dJ2_getChar_3b067_46 : decode cJ2_getChar_3b067 46 = .ok (.aload_n 0, 1) := by decide +kernel
theorem dJ2_getChar_3b067_47 : decode cJ2_getChar_3b067 47 = .ok (.iload_n 1, 1) := by decide +kernel
theorem dJ2_getChar_3b067_48 : decode cJ2_getChar_3b067 48 = .ok (.baload, 1) := by decide +kernel
theorem dJ2_getChar_3b067_49 : decode cJ2_getChar_3b067 49 = .ok (.sipush 255, 3) := by decide +kernel
theorem dJ2_getChar_3b067_52 : decode cJ2_getChar_3b067 52 = .ok (.iand, 1) := by decide +kernel
theorem dJ2_getChar_3b067_53 : decode cJ2_getChar_3b067 53 = .ok (.getstatic 63, 3) := by decide +kernel
theorem dJ2_getChar_3b067_56 : decode cJ2_getChar_3b067 56 = .ok (.ishl, 1) := by decide +kernel
theorem dJ2_getChar_3b067_57 : decode cJ2_getChar_3b067 57 = .ok (.ior, 1) := by decide +kernel
theorem dJ2_getChar_3b067_58 : decode cJ2_getChar_3b067 58 = .ok (.i2c, 1) := by decide +kernel
theorem dJ2_getChar_3b067_59 : decode cJ2_getChar_3b067 59 = .ok (.ireturn, 1) := by decide +kernel
theorem dJ2_length_9d52b_0 : decode cJ2_length_9d52b 0 = .ok (.aload_n 0, 1) := by decide +kernel
theorem dJ2_length_9d52b_1 : decode cJ2_length_9d52b 1 = .ok (.arraylength, 1) := by decide +kernel
theorem dJ2_length_9d52b_2 : decode cJ2_length_9d52b 2 = .ok (.iconst 1, 1) := by decide +kernel
theorem dJ2_length_9d52b_3 : decode cJ2_length_9d52b 3 = .ok (.ishr, 1) := by decide +kernel
theorem dJ2_length_9d52b_4 : decode cJ2_length_9d52b 4 = .ok (.ireturn, 1) := by decide +kernel
theorem dJ2_charAt_3b067_0 : decode cJ2_charAt_3b067 0 = .ok (.iload_n 1, 1) := by decide +kernel
theorem dJ2_charAt_3b067_1 : decode cJ2_charAt_3b067 1 = .ok (.aload_n 0, 1) := by decide +kernel
theorem dJ2_charAt_3b067_2 : decode cJ2_charAt_3b067 2 = .ok (.invokestatic 67, 3) := by decide +kernel
theorem dJ2_charAt_3b067_5 : decode cJ2_charAt_3b067 5 = .ok (.aload_n 0, 1) := by decide +kernel
theorem dJ2_charAt_3b067_6 : decode cJ2_charAt_3b067 6 = .ok (.iload_n 1, 1) := by decide +kernel
theorem dJ2_charAt_3b067_7 : decode cJ2_charAt_3b067 7 = .ok (.invokestatic 71, 3) := by decide +kernel
theorem dJ2_charAt_3b067_10 : decode cJ2_charAt_3b067 10 = .ok (.ireturn, 1) := by decide +kernel
theorem dJ2_checkIndex_2214a_0 : decode cJ2_checkIndex_2214a 0 = .ok (.iload_n 0, 1) := by decide +kernel
theorem dJ2_checkIndex_2214a_1 : decode cJ2_checkIndex_2214a 1 = .ok (.aload_n 1, 1) := by decide +kernel
theorem dJ2_checkIndex_2214a_2 : decode cJ2_checkIndex_2214a 2 = .ok (.invokestatic 48, 3) := by decide +kernel
theorem dJ2_checkIndex_2214a_5 : decode cJ2_checkIndex_2214a 5 = .ok (.invokestatic 414, 3) := by decide +kernel
theorem dJ2_checkIndex_2214a_8 : decode cJ2_checkIndex_2214a 8 = .ok (.return_, 1) := by decide +kernel
theorem dJ7_fill_53178_0 : decode cJ7_fill_53178 0 = .ok (.iconst 0, 1) := by decide +kernel
theorem dJ7_fill_53178_1 : decode cJ7_fill_53178 1 = .ok (.istore_n 2, 1) := by decide +kernel
theorem dJ7_fill_53178_2 : decode cJ7_fill_53178 2 = .ok (.aload_n 0, 1) := by decide +kernel
theorem dJ7_fill_53178_3 : decode cJ7_fill_53178 3 = .ok (.arraylength, 1) := by decide +kernel
theorem dJ7_fill_53178_4 : decode cJ7_fill_53178 4 = .ok (.istore_n 3, 1) := by decide +kernel
theorem dJ7_fill_53178_5 : decode cJ7_fill_53178 5 = .ok (.iload_n 2, 1) := by decide +kernel
theorem dJ7_fill_53178_6 : decode cJ7_fill_53178 6 = .ok (.iload_n 3, 1) := by decide +kernel
theorem dJ7_fill_53178_7 : decode cJ7_fill_53178 7 = .ok (.if_icmp .ge 13, 3) := by decide +kernel
theorem dJ7_fill_53178_10 : decode cJ7_fill_53178 10 = .ok (.aload_n 0, 1) := by decide +kernel
theorem dJ7_fill_53178_11 : decode cJ7_fill_53178 11 = .ok (.iload_n 2, 1) := by decide +kernel
theorem dJ7_fill_53178_12 : decode cJ7_fill_53178 12 = .ok (.iload_n 1, 1) := by decide +kernel
theorem dJ7_fill_53178_13 : decode cJ7_fill_53178 13 = .ok (.iastore, 1) := by decide +kernel
theorem dJ7_fill_53178_14 : decode cJ7_fill_53178 14 = .ok (.iinc 2 1, 3) := by decide +kernel
theorem dJ7_fill_53178_17 : decode cJ7_fill_53178 17 = .ok (.goto (-12), 3) := by decide +kernel
theorem dJ7_fill_53178_20 : decode cJ7_fill_53178 20 = .ok (.return_, 1) := by decide +kernel
theorem dJ3_checkIndex_8e157_0 : decode cJ3_checkIndex_8e157 0 = .ok (.iload_n 0, 1) := by decide +kernel
theorem dJ3_checkIndex_8e157_1 : decode cJ3_checkIndex_8e157 1 = .ok (.ifCond .lt 8, 3) := by decide +kernel
theorem dJ3_checkIndex_8e157_4 : decode cJ3_checkIndex_8e157 4 = .ok (.iload_n 0, 1) := by decide +kernel
theorem dJ3_checkIndex_8e157_5 : decode cJ3_checkIndex_8e157 5 = .ok (.iload_n 1, 1) := by decide +kernel
theorem dJ3_checkIndex_8e157_6 : decode cJ3_checkIndex_8e157 6 = .ok (.if_icmp .lt 10, 3) := by decide +kernel
theorem dJ3_checkIndex_8e157_9 : decode cJ3_checkIndex_8e157 9 = .ok (.aload_n 2, 1) := by decide +kernel
theorem dJ3_checkIndex_8e157_10 : decode cJ3_checkIndex_8e157 10 = .ok (.iload_n 0, 1) := by decide +kernel
theorem dJ3_checkIndex_8e157_11 : decode cJ3_checkIndex_8e157 11 = .ok (.iload_n 1, 1) := by decide +kernel
theorem dJ3_checkIndex_8e157_12 : decode cJ3_checkIndex_8e157 12 = .ok (.invokestatic 95, 3) := by decide +kernel
theorem dJ3_checkIndex_8e157_15 : decode cJ3_checkIndex_8e157 15 = .ok (.athrow, 1) := by decide +kernel
theorem dJ3_checkIndex_8e157_16 : decode cJ3_checkIndex_8e157 16 = .ok (.iload_n 0, 1) := by decide +kernel
theorem dJ3_checkIndex_8e157_17 : decode cJ3_checkIndex_8e157 17 = .ok (.ireturn, 1) := by decide +kernel
theorem dL_led_0 : decode cL_led 0 = .ok (.aload_n 2, 1) := by decide +kernel
theorem dL_led_1 : decode cL_led 1 = .ok (.iconst 0, 1) := by decide +kernel
theorem dL_led_2 : decode cL_led 2 = .ok (.aload_n 0, 1) := by decide +kernel
theorem dL_led_3 : decode cL_led 3 = .ok (.iload_n 1, 1) := by decide +kernel
theorem dL_led_4 : decode cL_led 4 = .ok (.invokevirtual 7, 3) := by decide +kernel
theorem dL_led_7 : decode cL_led 7 = .ok (.i2l, 1) := by decide +kernel
theorem dL_led_8 : decode cL_led 8 = .ok (.lastore, 1) := by decide +kernel
theorem dL_led_9 : decode cL_led 9 = .ok (.goto 6, 3) := by decide +kernel
theorem dL_led_12 : decode cL_led 12 = .ok (.astore_n 3, 1) := by decide +kernel
theorem dL_led_13 : decode cL_led 13 = .ok (.iconst 1, 1) := by decide +kernel
theorem dL_led_14 : decode cL_led 14 = .ok (.ireturn, 1) := by decide +kernel
theorem dL_led_15 : decode cL_led 15 = .ok (.iconst 0, 1) := by decide +kernel
theorem dL_led_16 : decode cL_led 16 = .ok (.ireturn, 1) := by decide +kernel
theorem dL_law_0 : decode cL_law 0 = .ok (.new 8, 3) := by decide +kernel
theorem dL_law_3 : decode cL_law 3 = .ok (.dup, 1) := by decide +kernel
theorem dL_law_4 : decode cL_law 4 = .ok (.invokespecial 15, 3) := by decide +kernel
theorem dL_law_7 : decode cL_law 7 = .ok (.astore_n 1, 1) := by decide +kernel
theorem dL_law_8 : decode cL_law 8 = .ok (.new 16, 3) := by decide +kernel
theorem dL_law_11 : decode cL_law 11 = .ok (.dup, 1) := by decide +kernel
theorem dL_law_12 : decode cL_law 12 = .ok (.invokespecial 18, 3) := by decide +kernel
theorem dL_law_15 : decode cL_law 15 = .ok (.astore_n 2, 1) := by decide +kernel
theorem dL_law_16 : decode cL_law 16 = .ok (.iconst 1, 1) := by decide +kernel
theorem dL_law_17 : decode cL_law 17 = .ok (.newarray .long, 2) := by decide +kernel
theorem dL_law_19 : decode cL_law 19 = .ok (.astore_n 3, 1) := by decide +kernel
theorem dL_law_20 : decode cL_law 20 = .ok (.iconst 0, 1) := by decide +kernel
theorem dL_law_21 : decode cL_law 21 = .ok (.istore 4, 2) := by decide +kernel
theorem dL_law_23 : decode cL_law 23 = .ok (.iload 4, 2) := by decide +kernel
theorem dL_law_25 : decode cL_law 25 = .ok (.aload_n 0, 1) := by decide +kernel
theorem dL_law_26 : decode cL_law 26 = .ok (.arraylength, 1) := by decide +kernel
theorem dL_law_27 : decode cL_law 27 = .ok (.bipush 6, 2) := by decide +kernel
theorem dL_law_29 : decode cL_law 29 = .ok (.isub, 1) := by decide +kernel
theorem dL_law_30 : decode cL_law 30 = .ok (.if_icmp .gt 1389, 3) := by decide +kernel
theorem dL_law_33 : decode cL_law 33 = .ok (.aload_n 0, 1) := by decide +kernel
theorem dL_law_34 : decode cL_law 34 = .ok (.iload 4, 2) := by decide +kernel
theorem dL_law_36 : decode cL_law 36 = .ok (.iaload, 1) := by decide +kernel
theorem dL_law_37 : decode cL_law 37 = .ok (.bipush 63, 2) := by decide +kernel
theorem dL_law_39 : decode cL_law 39 = .ok (.iand, 1) := by decide +kernel
theorem dL_law_40 : decode cL_law 40 = .ok (.tableswitch 1373 0 44 #[196, 269, 294, 307, 320, 357, 394, 431, 456, 493, 542, 567, 580, 593, 618, 631, 644, 657, 682, 707, 732, 757, 794, 807, 820, 845, 858, 871, 896, 957, 970, 995, 1049, 1062, 1075, 1088, 1113, 1126, 1139, 1164, 1201, 1254, 1279, 1335, 1360], 196) := by decide +kernel
theorem dL_law_236 : decode cL_law 236 = .ok (.aload_n 1, 1) := by decide +kernel
theorem dL_law_237 : decode cL_law 237 = .ok (.aload_n 0, 1) := by decide +kernel
theorem dL_law_238 : decode cL_law 238 = .ok (.iload 4, 2) := by decide +kernel
theorem dL_law_240 : decode cL_law 240 = .ok (.iconst 1, 1) := by decide +kernel
theorem dL_law_241 : decode cL_law 241 = .ok (.iadd, 1) := by decide +kernel
theorem dL_law_242 : decode cL_law 242 = .ok (.iaload, 1) := by decide +kernel
theorem dL_law_243 : decode cL_law 243 = .ok (.aload_n 0, 1) := by decide +kernel
theorem dL_law_244 : decode cL_law 244 = .ok (.iload 4, 2) := by decide +kernel
theorem dL_law_246 : decode cL_law 246 = .ok (.iconst 2, 1) := by decide +kernel
theorem dL_law_247 : decode cL_law 247 = .ok (.iadd, 1) := by decide +kernel
theorem dL_law_248 : decode cL_law 248 = .ok (.iaload, 1) := by decide +kernel
theorem dL_law_249 : decode cL_law 249 = .ok (.aload_n 0, 1) := by decide +kernel
theorem dL_law_250 : decode cL_law 250 = .ok (.iload 4, 2) := by decide +kernel
theorem dL_law_252 : decode cL_law 252 = .ok (.iconst 3, 1) := by decide +kernel
theorem dL_law_253 : decode cL_law 253 = .ok (.iadd, 1) := by decide +kernel
theorem dL_law_254 : decode cL_law 254 = .ok (.iaload, 1) := by decide +kernel
theorem dL_law_255 : decode cL_law 255 = .ok (.aload_n 0, 1) := by decide +kernel
theorem dL_law_256 : decode cL_law 256 = .ok (.iload 4, 2) := by decide +kernel
theorem dL_law_258 : decode cL_law 258 = .ok (.iconst 4, 1) := by decide +kernel
theorem dL_law_259 : decode cL_law 259 = .ok (.iadd, 1) := by decide +kernel
theorem dL_law_260 : decode cL_law 260 = .ok (.iaload, 1) := by decide +kernel
theorem dL_law_261 : decode cL_law 261 = .ok (.aload_n 0, 1) := by decide +kernel
theorem dL_law_262 : decode cL_law 262 = .ok (.iload 4, 2) := by decide +kernel
theorem dL_law_264 : decode cL_law 264 = .ok (.iconst 5, 1) := by decide +kernel
theorem dL_law_265 : decode cL_law 265 = .ok (.iadd, 1) := by decide +kernel
theorem dL_law_266 : decode cL_law 266 = .ok (.iaload, 1) := by decide +kernel
theorem dL_law_267 : decode cL_law 267 = .ok (.invokevirtual 19, 3) := by decide +kernel
theorem dL_law_270 : decode cL_law 270 = .ok (.aload_n 2, 1) := by decide +kernel
theorem dL_law_271 : decode cL_law 271 = .ok (.aload_n 0, 1) := by decide +kernel
theorem dL_law_272 : decode cL_law 272 = .ok (.iload 4, 2) := by decide +kernel
theorem dL_law_274 : decode cL_law 274 = .ok (.iconst 1, 1) := by decide +kernel
theorem dL_law_275 : decode cL_law 275 = .ok (.iadd, 1) := by decide +kernel
theorem dL_law_276 : decode cL_law 276 = .ok (.iaload, 1) := by decide +kernel
theorem dL_law_277 : decode cL_law 277 = .ok (.aload_n 0, 1) := by decide +kernel
theorem dL_law_278 : decode cL_law 278 = .ok (.iload 4, 2) := by decide +kernel
theorem dL_law_280 : decode cL_law 280 = .ok (.iconst 2, 1) := by decide +kernel
theorem dL_law_281 : decode cL_law 281 = .ok (.iadd, 1) := by decide +kernel
theorem dL_law_282 : decode cL_law 282 = .ok (.iaload, 1) := by decide +kernel
theorem dL_law_283 : decode cL_law 283 = .ok (.aload_n 0, 1) := by decide +kernel
theorem dL_law_284 : decode cL_law 284 = .ok (.iload 4, 2) := by decide +kernel
theorem dL_law_286 : decode cL_law 286 = .ok (.iconst 3, 1) := by decide +kernel
theorem dL_law_287 : decode cL_law 287 = .ok (.iadd, 1) := by decide +kernel
theorem dL_law_288 : decode cL_law 288 = .ok (.iaload, 1) := by decide +kernel
theorem dL_law_289 : decode cL_law 289 = .ok (.aload_n 0, 1) := by decide +kernel
theorem dL_law_290 : decode cL_law 290 = .ok (.iload 4, 2) := by decide +kernel
theorem dL_law_292 : decode cL_law 292 = .ok (.iconst 4, 1) := by decide +kernel
theorem dL_law_293 : decode cL_law 293 = .ok (.iadd, 1) := by decide +kernel
theorem dL_law_294 : decode cL_law 294 = .ok (.iaload, 1) := by decide +kernel
theorem dL_law_295 : decode cL_law 295 = .ok (.aload_n 0, 1) := by decide +kernel
theorem dL_law_296 : decode cL_law 296 = .ok (.iload 4, 2) := by decide +kernel
theorem dL_law_298 : decode cL_law 298 = .ok (.iconst 5, 1) := by decide +kernel
theorem dL_law_299 : decode cL_law 299 = .ok (.iadd, 1) := by decide +kernel
theorem dL_law_300 : decode cL_law 300 = .ok (.iaload, 1) := by decide +kernel
theorem dL_law_301 : decode cL_law 301 = .ok (.invokevirtual 23, 3) := by decide +kernel
theorem dL_law_304 : decode cL_law 304 = .ok (.if_icmp .eq 1109, 3) := by decide +kernel
theorem dL_law_307 : decode cL_law 307 = .ok (.iconst 0, 1) := by decide +kernel
theorem dL_law_308 : decode cL_law 308 = .ok (.ireturn, 1) := by decide +kernel
theorem dL_law_309 : decode cL_law 309 = .ok (.aload_n 1, 1) := by decide +kernel
theorem dL_law_310 : decode cL_law 310 = .ok (.aload_n 0, 1) := by decide +kernel
theorem dL_law_311 : decode cL_law 311 = .ok (.iload 4, 2) := by decide +kernel
theorem dL_law_313 : decode cL_law 313 = .ok (.iconst 1, 1) := by decide +kernel
theorem dL_law_314 : decode cL_law 314 = .ok (.iadd, 1) := by decide +kernel
theorem dL_law_315 : decode cL_law 315 = .ok (.iaload, 1) := by decide +kernel
theorem dL_law_316 : decode cL_law 316 = .ok (.invokevirtual 24, 3) := by decide +kernel
theorem dL_law_319 : decode cL_law 319 = .ok (.aload_n 2, 1) := by decide +kernel
theorem dL_law_320 : decode cL_law 320 = .ok (.aload_n 0, 1) := by decide +kernel
theorem dL_law_321 : decode cL_law 321 = .ok (.iload 4, 2) := by decide +kernel
theorem dL_law_323 : decode cL_law 323 = .ok (.iconst 1, 1) := by decide +kernel
theorem dL_law_324 : decode cL_law 324 = .ok (.iadd, 1) := by decide +kernel
theorem dL_law_325 : decode cL_law 325 = .ok (.iaload, 1) := by decide +kernel
theorem dL_law_326 : decode cL_law 326 = .ok (.invokevirtual 27, 3) := by decide +kernel
theorem dL_law_329 : decode cL_law 329 = .ok (.if_icmp .eq 1084, 3) := by decide +kernel
theorem dL_law_332 : decode cL_law 332 = .ok (.iconst 0, 1) := by decide +kernel
theorem dL_law_333 : decode cL_law 333 = .ok (.ireturn, 1) := by decide +kernel
theorem dL_law_334 : decode cL_law 334 = .ok (.aload_n 1, 1) := by decide +kernel
theorem dL_law_335 : decode cL_law 335 = .ok (.invokevirtual 28, 3) := by decide +kernel
theorem dL_law_338 : decode cL_law 338 = .ok (.aload_n 2, 1) := by decide +kernel
theorem dL_law_339 : decode cL_law 339 = .ok (.invokevirtual 32, 3) := by decide +kernel
theorem dL_law_342 : decode cL_law 342 = .ok (.if_icmp .eq 1071, 3) := by decide +kernel
theorem dL_law_345 : decode cL_law 345 = .ok (.iconst 0, 1) := by decide +kernel
theorem dL_law_346 : decode cL_law 346 = .ok (.ireturn, 1) := by decide +kernel
theorem dL_law_347 : decode cL_law 347 = .ok (.aload_n 1, 1) := by decide +kernel
theorem dL_law_348 : decode cL_law 348 = .ok (.invokevirtual 33, 3) := by decide +kernel
theorem dL_law_351 : decode cL_law 351 = .ok (.aload_n 2, 1) := by decide +kernel
theorem dL_law_352 : decode cL_law 352 = .ok (.invokevirtual 36, 3) := by decide +kernel
theorem dL_law_355 : decode cL_law 355 = .ok (.if_icmp .eq 1058, 3) := by decide +kernel
theorem dL_law_358 : decode cL_law 358 = .ok (.iconst 0, 1) := by decide +kernel
theorem dL_law_359 : decode cL_law 359 = .ok (.ireturn, 1) := by decide +kernel
theorem dL_law_360 : decode cL_law 360 = .ok (.aload_n 1, 1) := by decide +kernel
theorem dL_law_361 : decode cL_law 361 = .ok (.aload_n 0, 1) := by decide +kernel
theorem dL_law_362 : decode cL_law 362 = .ok (.iload 4, 2) := by decide +kernel
theorem dL_law_364 : decode cL_law 364 = .ok (.iconst 1, 1) := by decide +kernel
theorem dL_law_365 : decode cL_law 365 = .ok (.iadd, 1) := by decide +kernel
theorem dL_law_366 : decode cL_law 366 = .ok (.iaload, 1) := by decide +kernel
theorem dL_law_367 : decode cL_law 367 = .ok (.aload_n 0, 1) := by decide +kernel
theorem dL_law_368 : decode cL_law 368 = .ok (.iload 4, 2) := by decide +kernel
theorem dL_law_370 : decode cL_law 370 = .ok (.iconst 2, 1) := by decide +kernel
theorem dL_law_371 : decode cL_law 371 = .ok (.iadd, 1) := by decide +kernel
theorem dL_law_372 : decode cL_law 372 = .ok (.iaload, 1) := by decide +kernel
theorem dL_law_373 : decode cL_law 373 = .ok (.invokevirtual 37, 3) := by decide +kernel
theorem dL_law_376 : decode cL_law 376 = .ok (.aload_n 2, 1) := by decide +kernel
theorem dL_law_377 : decode cL_law 377 = .ok (.aload_n 0, 1) := by decide +kernel
theorem dL_law_378 : decode cL_law 378 = .ok (.iload 4, 2) := by decide +kernel
theorem dL_law_380 : decode cL_law 380 = .ok (.iconst 1, 1) := by decide +kernel
theorem dL_law_381 : decode cL_law 381 = .ok (.iadd, 1) := by decide +kernel
theorem dL_law_382 : decode cL_law 382 = .ok (.iaload, 1) := by decide +kernel
theorem dL_law_383 : decode cL_law 383 = .ok (.aload_n 0, 1) := by decide +kernel
theorem dL_law_384 : decode cL_law 384 = .ok (.iload 4, 2) := by decide +kernel
theorem dL_law_386 : decode cL_law 386 = .ok (.iconst 2, 1) := by decide +kernel
theorem dL_law_387 : decode cL_law 387 = .ok (.iadd, 1) := by decide +kernel
theorem dL_law_388 : decode cL_law 388 = .ok (.iaload, 1) := by decide +kernel
theorem dL_law_389 : decode cL_law 389 = .ok (.invokevirtual 41, 3) := by decide +kernel
theorem dL_law_392 : decode cL_law 392 = .ok (.if_icmp .eq 1021, 3) := by decide +kernel
theorem dL_law_395 : decode cL_law 395 = .ok (.iconst 0, 1) := by decide +kernel
theorem dL_law_396 : decode cL_law 396 = .ok (.ireturn, 1) := by decide +kernel
theorem dL_law_397 : decode cL_law 397 = .ok (.aload_n 1, 1) := by decide +kernel
theorem dL_law_398 : decode cL_law 398 = .ok (.aload_n 0, 1) := by decide +kernel
theorem dL_law_399 : decode cL_law 399 = .ok (.iload 4, 2) := by decide +kernel
theorem dL_law_401 : decode cL_law 401 = .ok (.iconst 1, 1) := by decide +kernel
theorem dL_law_402 : decode cL_law 402 = .ok (.iadd, 1) := by decide +kernel
theorem dL_law_403 : decode cL_law 403 = .ok (.iaload, 1) := by decide +kernel
theorem dL_law_404 : decode cL_law 404 = .ok (.aload_n 0, 1) := by decide +kernel
theorem dL_law_405 : decode cL_law 405 = .ok (.iload 4, 2) := by decide +kernel
theorem dL_law_407 : decode cL_law 407 = .ok (.iconst 2, 1) := by decide +kernel
theorem dL_law_408 : decode cL_law 408 = .ok (.iadd, 1) := by decide +kernel
theorem dL_law_409 : decode cL_law 409 = .ok (.iaload, 1) := by decide +kernel
theorem dL_law_410 : decode cL_law 410 = .ok (.invokevirtual 42, 3) := by decide +kernel
theorem dL_law_413 : decode cL_law 413 = .ok (.aload_n 2, 1) := by decide +kernel
theorem dL_law_414 : decode cL_law 414 = .ok (.aload_n 0, 1) := by decide +kernel
theorem dL_law_415 : decode cL_law 415 = .ok (.iload 4, 2) := by decide +kernel
theorem dL_law_417 : decode cL_law 417 = .ok (.iconst 1, 1) := by decide +kernel
theorem dL_law_418 : decode cL_law 418 = .ok (.iadd, 1) := by decide +kernel
theorem dL_law_419 : decode cL_law 419 = .ok (.iaload, 1) := by decide +kernel
theorem dL_law_420 : decode cL_law 420 = .ok (.aload_n 0, 1) := by decide +kernel
theorem dL_law_421 : decode cL_law 421 = .ok (.iload 4, 2) := by decide +kernel
theorem dL_law_423 : decode cL_law 423 = .ok (.iconst 2, 1) := by decide +kernel
theorem dL_law_424 : decode cL_law 424 = .ok (.iadd, 1) := by decide +kernel
theorem dL_law_425 : decode cL_law 425 = .ok (.iaload, 1) := by decide +kernel
theorem dL_law_426 : decode cL_law 426 = .ok (.invokevirtual 45, 3) := by decide +kernel
theorem dL_law_429 : decode cL_law 429 = .ok (.if_icmp .eq 984, 3) := by decide +kernel
theorem dL_law_432 : decode cL_law 432 = .ok (.iconst 0, 1) := by decide +kernel
theorem dL_law_433 : decode cL_law 433 = .ok (.ireturn, 1) := by decide +kernel
theorem dL_law_434 : decode cL_law 434 = .ok (.aload_n 1, 1) := by decide +kernel
theorem dL_law_435 : decode cL_law 435 = .ok (.aload_n 0, 1) := by decide +kernel
theorem dL_law_436 : decode cL_law 436 = .ok (.iload 4, 2) := by decide +kernel
theorem dL_law_438 : decode cL_law 438 = .ok (.iconst 1, 1) := by decide +kernel
theorem dL_law_439 : decode cL_law 439 = .ok (.iadd, 1) := by decide +kernel
theorem dL_law_440 : decode cL_law 440 = .ok (.iaload, 1) := by decide +kernel
theorem dL_law_441 : decode cL_law 441 = .ok (.aload_n 0, 1) := by decide +kernel
theorem dL_law_442 : decode cL_law 442 = .ok (.iload 4, 2) := by decide +kernel
theorem dL_law_444 : decode cL_law 444 = .ok (.iconst 2, 1) := by decide +kernel
theorem dL_law_445 : decode cL_law 445 = .ok (.iadd, 1) := by decide +kernel
theorem dL_law_446 : decode cL_law 446 = .ok (.iaload, 1) := by decide +kernel
theorem dL_law_447 : decode cL_law 447 = .ok (.invokevirtual 46, 3) := by decide +kernel
theorem dL_law_450 : decode cL_law 450 = .ok (.aload_n 2, 1) := by decide +kernel
theorem dL_law_451 : decode cL_law 451 = .ok (.aload_n 0, 1) := by decide +kernel
theorem dL_law_452 : decode cL_law 452 = .ok (.iload 4, 2) := by decide +kernel
theorem dL_law_454 : decode cL_law 454 = .ok (.iconst 1, 1) := by decide +kernel
theorem dL_law_455 : decode cL_law 455 = .ok (.iadd, 1) := by decide +kernel
theorem dL_law_456 : decode cL_law 456 = .ok (.iaload, 1) := by decide +kernel
theorem dL_law_457 : decode cL_law 457 = .ok (.aload_n 0, 1) := by decide +kernel
theorem dL_law_458 : decode cL_law 458 = .ok (.iload 4, 2) := by decide +kernel
theorem dL_law_460 : decode cL_law 460 = .ok (.iconst 2, 1) := by decide +kernel
theorem dL_law_461 : decode cL_law 461 = .ok (.iadd, 1) := by decide +kernel
theorem dL_law_462 : decode cL_law 462 = .ok (.iaload, 1) := by decide +kernel
theorem dL_law_463 : decode cL_law 463 = .ok (.invokevirtual 49, 3) := by decide +kernel
theorem dL_law_466 : decode cL_law 466 = .ok (.if_icmp .eq 947, 3) := by decide +kernel
theorem dL_law_469 : decode cL_law 469 = .ok (.iconst 0, 1) := by decide +kernel
theorem dL_law_470 : decode cL_law 470 = .ok (.ireturn, 1) := by decide +kernel
theorem dL_law_471 : decode cL_law 471 = .ok (.aload_n 1, 1) := by decide +kernel
theorem dL_law_472 : decode cL_law 472 = .ok (.aload_n 0, 1) := by decide +kernel
theorem dL_law_473 : decode cL_law 473 = .ok (.iload 4, 2) := by decide +kernel
theorem dL_law_475 : decode cL_law 475 = .ok (.iconst 1, 1) := by decide +kernel
theorem dL_law_476 : decode cL_law 476 = .ok (.iadd, 1) := by decide +kernel
theorem dL_law_477 : decode cL_law 477 = .ok (.iaload, 1) := by decide +kernel
theorem dL_law_478 : decode cL_law 478 = .ok (.invokevirtual 50, 3) := by decide +kernel
theorem dL_law_481 : decode cL_law 481 = .ok (.aload_n 2, 1) := by decide +kernel
theorem dL_law_482 : decode cL_law 482 = .ok (.aload_n 0, 1) := by decide +kernel
theorem dL_law_483 : decode cL_law 483 = .ok (.iload 4, 2) := by decide +kernel
theorem dL_law_485 : decode cL_law 485 = .ok (.iconst 1, 1) := by decide +kernel
theorem dL_law_486 : decode cL_law 486 = .ok (.iadd, 1) := by decide +kernel
theorem dL_law_487 : decode cL_law 487 = .ok (.iaload, 1) := by decide +kernel
theorem dL_law_488 : decode cL_law 488 = .ok (.invokevirtual 53, 3) := by decide +kernel
theorem dL_law_491 : decode cL_law 491 = .ok (.if_icmp .eq 922, 3) := by decide +kernel
theorem dL_law_494 : decode cL_law 494 = .ok (.iconst 0, 1) := by decide +kernel
theorem dL_law_495 : decode cL_law 495 = .ok (.ireturn, 1) := by decide +kernel
theorem dL_law_496 : decode cL_law 496 = .ok (.aload_n 1, 1) := by decide +kernel
theorem dL_law_497 : decode cL_law 497 = .ok (.aload_n 0, 1) := by decide +kernel
theorem dL_law_498 : decode cL_law 498 = .ok (.iload 4, 2) := by decide +kernel
theorem dL_law_500 : decode cL_law 500 = .ok (.iconst 1, 1) := by decide +kernel
theorem dL_law_501 : decode cL_law 501 = .ok (.iadd, 1) := by decide +kernel
theorem dL_law_502 : decode cL_law 502 = .ok (.iaload, 1) := by decide +kernel
theorem dL_law_503 : decode cL_law 503 = .ok (.aload_n 0, 1) := by decide +kernel
theorem dL_law_504 : decode cL_law 504 = .ok (.iload 4, 2) := by decide +kernel
theorem dL_law_506 : decode cL_law 506 = .ok (.iconst 2, 1) := by decide +kernel
theorem dL_law_507 : decode cL_law 507 = .ok (.iadd, 1) := by decide +kernel
theorem dL_law_508 : decode cL_law 508 = .ok (.iaload, 1) := by decide +kernel
theorem dL_law_509 : decode cL_law 509 = .ok (.invokevirtual 54, 3) := by decide +kernel
theorem dL_law_512 : decode cL_law 512 = .ok (.aload_n 2, 1) := by decide +kernel
theorem dL_law_513 : decode cL_law 513 = .ok (.aload_n 0, 1) := by decide +kernel
theorem dL_law_514 : decode cL_law 514 = .ok (.iload 4, 2) := by decide +kernel
theorem dL_law_516 : decode cL_law 516 = .ok (.iconst 1, 1) := by decide +kernel
theorem dL_law_517 : decode cL_law 517 = .ok (.iadd, 1) := by decide +kernel
theorem dL_law_518 : decode cL_law 518 = .ok (.iaload, 1) := by decide +kernel
theorem dL_law_519 : decode cL_law 519 = .ok (.aload_n 0, 1) := by decide +kernel
theorem dL_law_520 : decode cL_law 520 = .ok (.iload 4, 2) := by decide +kernel
theorem dL_law_522 : decode cL_law 522 = .ok (.iconst 2, 1) := by decide +kernel
theorem dL_law_523 : decode cL_law 523 = .ok (.iadd, 1) := by decide +kernel
theorem dL_law_524 : decode cL_law 524 = .ok (.iaload, 1) := by decide +kernel
theorem dL_law_525 : decode cL_law 525 = .ok (.invokevirtual 57, 3) := by decide +kernel
theorem dL_law_528 : decode cL_law 528 = .ok (.if_icmp .eq 885, 3) := by decide +kernel
theorem dL_law_531 : decode cL_law 531 = .ok (.iconst 0, 1) := by decide +kernel
theorem dL_law_532 : decode cL_law 532 = .ok (.ireturn, 1) := by decide +kernel
theorem dL_law_533 : decode cL_law 533 = .ok (.aload_n 1, 1) := by decide +kernel
theorem dL_law_534 : decode cL_law 534 = .ok (.aload_n 0, 1) := by decide +kernel
theorem dL_law_535 : decode cL_law 535 = .ok (.iload 4, 2) := by decide +kernel
theorem dL_law_537 : decode cL_law 537 = .ok (.iconst 1, 1) := by decide +kernel
theorem dL_law_538 : decode cL_law 538 = .ok (.iadd, 1) := by decide +kernel
theorem dL_law_539 : decode cL_law 539 = .ok (.iaload, 1) := by decide +kernel
theorem dL_law_540 : decode cL_law 540 = .ok (.aload_n 0, 1) := by decide +kernel
theorem dL_law_541 : decode cL_law 541 = .ok (.iload 4, 2) := by decide +kernel
theorem dL_law_543 : decode cL_law 543 = .ok (.iconst 2, 1) := by decide +kernel
theorem dL_law_544 : decode cL_law 544 = .ok (.iadd, 1) := by decide +kernel
theorem dL_law_545 : decode cL_law 545 = .ok (.iaload, 1) := by decide +kernel
theorem dL_law_546 : decode cL_law 546 = .ok (.aload_n 0, 1) := by decide +kernel
theorem dL_law_547 : decode cL_law 547 = .ok (.iload 4, 2) := by decide +kernel
theorem dL_law_549 : decode cL_law 549 = .ok (.iconst 3, 1) := by decide +kernel
theorem dL_law_550 : decode cL_law 550 = .ok (.iadd, 1) := by decide +kernel
theorem dL_law_551 : decode cL_law 551 = .ok (.iaload, 1) := by decide +kernel
theorem dL_law_552 : decode cL_law 552 = .ok (.invokevirtual 58, 3) := by decide +kernel
theorem dL_law_555 : decode cL_law 555 = .ok (.aload_n 2, 1) := by decide +kernel
theorem dL_law_556 : decode cL_law 556 = .ok (.aload_n 0, 1) := by decide +kernel
theorem dL_law_557 : decode cL_law 557 = .ok (.iload 4, 2) := by decide +kernel
theorem dL_law_559 : decode cL_law 559 = .ok (.iconst 1, 1) := by decide +kernel
theorem dL_law_560 : decode cL_law 560 = .ok (.iadd, 1) := by decide +kernel
theorem dL_law_561 : decode cL_law 561 = .ok (.iaload, 1) := by decide +kernel
theorem dL_law_562 : decode cL_law 562 = .ok (.aload_n 0, 1) := by decide +kernel
theorem dL_law_563 : decode cL_law 563 = .ok (.iload 4, 2) := by decide +kernel
theorem dL_law_565 : decode cL_law 565 = .ok (.iconst 2, 1) := by decide +kernel
theorem dL_law_566 : decode cL_law 566 = .ok (.iadd, 1) := by decide +kernel
theorem dL_law_567 : decode cL_law 567 = .ok (.iaload, 1) := by decide +kernel
theorem dL_law_568 : decode cL_law 568 = .ok (.aload_n 0, 1) := by decide +kernel
theorem dL_law_569 : decode cL_law 569 = .ok (.iload 4, 2) := by decide +kernel
theorem dL_law_571 : decode cL_law 571 = .ok (.iconst 3, 1) := by decide +kernel
theorem dL_law_572 : decode cL_law 572 = .ok (.iadd, 1) := by decide +kernel
theorem dL_law_573 : decode cL_law 573 = .ok (.iaload, 1) := by decide +kernel
theorem dL_law_574 : decode cL_law 574 = .ok (.invokevirtual 62, 3) := by decide +kernel
theorem dL_law_577 : decode cL_law 577 = .ok (.if_icmp .eq 836, 3) := by decide +kernel
theorem dL_law_580 : decode cL_law 580 = .ok (.iconst 0, 1) := by decide +kernel
theorem dL_law_581 : decode cL_law 581 = .ok (.ireturn, 1) := by decide +kernel
theorem dL_law_582 : decode cL_law 582 = .ok (.aload_n 1, 1) := by decide +kernel
theorem dL_law_583 : decode cL_law 583 = .ok (.aload_n 0, 1) := by decide +kernel
theorem dL_law_584 : decode cL_law 584 = .ok (.iload 4, 2) := by decide +kernel
theorem dL_law_586 : decode cL_law 586 = .ok (.iconst 1, 1) := by decide +kernel
theorem dL_law_587 : decode cL_law 587 = .ok (.iadd, 1) := by decide +kernel
theorem dL_law_588 : decode cL_law 588 = .ok (.iaload, 1) := by decide +kernel
theorem dL_law_589 : decode cL_law 589 = .ok (.invokevirtual 63, 3) := by decide +kernel
theorem dL_law_592 : decode cL_law 592 = .ok (.aload_n 2, 1) := by decide +kernel
theorem dL_law_593 : decode cL_law 593 = .ok (.aload_n 0, 1) := by decide +kernel
theorem dL_law_594 : decode cL_law 594 = .ok (.iload 4, 2) := by decide +kernel
theorem dL_law_596 : decode cL_law 596 = .ok (.iconst 1, 1) := by decide +kernel
theorem dL_law_597 : decode cL_law 597 = .ok (.iadd, 1) := by decide +kernel
theorem dL_law_598 : decode cL_law 598 = .ok (.iaload, 1) := by decide +kernel
theorem dL_law_599 : decode cL_law 599 = .ok (.invokevirtual 66, 3) := by decide +kernel
theorem dL_law_602 : decode cL_law 602 = .ok (.if_icmp .eq 811, 3) := by decide +kernel
theorem dL_law_605 : decode cL_law 605 = .ok (.iconst 0, 1) := by decide +kernel
theorem dL_law_606 : decode cL_law 606 = .ok (.ireturn, 1) := by decide +kernel
theorem dL_law_607 : decode cL_law 607 = .ok (.aload_n 1, 1) := by decide +kernel
theorem dL_law_608 : decode cL_law 608 = .ok (.invokevirtual 67, 3) := by decide +kernel
theorem dL_law_611 : decode cL_law 611 = .ok (.aload_n 2, 1) := by decide +kernel
theorem dL_law_612 : decode cL_law 612 = .ok (.invokevirtual 70, 3) := by decide +kernel
theorem dL_law_615 : decode cL_law 615 = .ok (.if_icmp .eq 798, 3) := by decide +kernel
theorem dL_law_618 : decode cL_law 618 = .ok (.iconst 0, 1) := by decide +kernel
theorem dL_law_619 : decode cL_law 619 = .ok (.ireturn, 1) := by decide +kernel
theorem dL_law_620 : decode cL_law 620 = .ok (.aload_n 1, 1) := by decide +kernel
theorem dL_law_621 : decode cL_law 621 = .ok (.invokevirtual 71, 3) := by decide +kernel
theorem dL_law_624 : decode cL_law 624 = .ok (.aload_n 2, 1) := by decide +kernel
theorem dL_law_625 : decode cL_law 625 = .ok (.invokevirtual 74, 3) := by decide +kernel
theorem dL_law_628 : decode cL_law 628 = .ok (.if_icmp .eq 785, 3) := by decide +kernel
theorem dL_law_631 : decode cL_law 631 = .ok (.iconst 0, 1) := by decide +kernel
theorem dL_law_632 : decode cL_law 632 = .ok (.ireturn, 1) := by decide +kernel
theorem dL_law_633 : decode cL_law 633 = .ok (.aload_n 1, 1) := by decide +kernel
theorem dL_law_634 : decode cL_law 634 = .ok (.aload_n 0, 1) := by decide +kernel
theorem dL_law_635 : decode cL_law 635 = .ok (.iload 4, 2) := by decide +kernel
theorem dL_law_637 : decode cL_law 637 = .ok (.iconst 1, 1) := by decide +kernel
theorem dL_law_638 : decode cL_law 638 = .ok (.iadd, 1) := by decide +kernel
theorem dL_law_639 : decode cL_law 639 = .ok (.iaload, 1) := by decide +kernel
theorem dL_law_640 : decode cL_law 640 = .ok (.invokevirtual 75, 3) := by decide +kernel
theorem dL_law_643 : decode cL_law 643 = .ok (.aload_n 2, 1) := by decide +kernel
theorem dL_law_644 : decode cL_law 644 = .ok (.aload_n 0, 1) := by decide +kernel
theorem dL_law_645 : decode cL_law 645 = .ok (.iload 4, 2) := by decide +kernel
theorem dL_law_647 : decode cL_law 647 = .ok (.iconst 1, 1) := by decide +kernel
theorem dL_law_648 : decode cL_law 648 = .ok (.iadd, 1) := by decide +kernel
theorem dL_law_649 : decode cL_law 649 = .ok (.iaload, 1) := by decide +kernel
theorem dL_law_650 : decode cL_law 650 = .ok (.invokevirtual 78, 3) := by decide +kernel
theorem dL_law_653 : decode cL_law 653 = .ok (.if_icmp .eq 760, 3) := by decide +kernel
theorem dL_law_656 : decode cL_law 656 = .ok (.iconst 0, 1) := by decide +kernel
theorem dL_law_657 : decode cL_law 657 = .ok (.ireturn, 1) := by decide +kernel
theorem dL_law_658 : decode cL_law 658 = .ok (.aload_n 1, 1) := by decide +kernel
theorem dL_law_659 : decode cL_law 659 = .ok (.invokevirtual 79, 3) := by decide +kernel
theorem dL_law_662 : decode cL_law 662 = .ok (.aload_n 2, 1) := by decide +kernel
theorem dL_law_663 : decode cL_law 663 = .ok (.invokevirtual 82, 3) := by decide +kernel
theorem dL_law_666 : decode cL_law 666 = .ok (.if_icmp .eq 747, 3) := by decide +kernel
theorem dL_law_669 : decode cL_law 669 = .ok (.iconst 0, 1) := by decide +kernel
theorem dL_law_670 : decode cL_law 670 = .ok (.ireturn, 1) := by decide +kernel
theorem dL_law_671 : decode cL_law 671 = .ok (.aload_n 1, 1) := by decide +kernel
theorem dL_law_672 : decode cL_law 672 = .ok (.invokevirtual 83, 3) := by decide +kernel
theorem dL_law_675 : decode cL_law 675 = .ok (.aload_n 2, 1) := by decide +kernel
theorem dL_law_676 : decode cL_law 676 = .ok (.invokevirtual 86, 3) := by decide +kernel
theorem dL_law_679 : decode cL_law 679 = .ok (.if_icmp .eq 734, 3) := by decide +kernel
theorem dL_law_682 : decode cL_law 682 = .ok (.iconst 0, 1) := by decide +kernel
theorem dL_law_683 : decode cL_law 683 = .ok (.ireturn, 1) := by decide +kernel
theorem dL_law_684 : decode cL_law 684 = .ok (.aload_n 1, 1) := by decide +kernel
theorem dL_law_685 : decode cL_law 685 = .ok (.invokevirtual 87, 3) := by decide +kernel
theorem dL_law_688 : decode cL_law 688 = .ok (.aload_n 2, 1) := by decide +kernel
theorem dL_law_689 : decode cL_law 689 = .ok (.invokevirtual 90, 3) := by decide +kernel
theorem dL_law_692 : decode cL_law 692 = .ok (.if_icmp .eq 721, 3) := by decide +kernel
theorem dL_law_695 : decode cL_law 695 = .ok (.iconst 0, 1) := by decide +kernel
theorem dL_law_696 : decode cL_law 696 = .ok (.ireturn, 1) := by decide +kernel
theorem dL_law_697 : decode cL_law 697 = .ok (.aload_n 1, 1) := by decide +kernel
theorem dL_law_698 : decode cL_law 698 = .ok (.aload_n 0, 1) := by decide +kernel
theorem dL_law_699 : decode cL_law 699 = .ok (.iload 4, 2) := by decide +kernel
theorem dL_law_701 : decode cL_law 701 = .ok (.iconst 1, 1) := by decide +kernel
theorem dL_law_702 : decode cL_law 702 = .ok (.iadd, 1) := by decide +kernel
theorem dL_law_703 : decode cL_law 703 = .ok (.iaload, 1) := by decide +kernel
theorem dL_law_704 : decode cL_law 704 = .ok (.invokevirtual 91, 3) := by decide +kernel
theorem dL_law_707 : decode cL_law 707 = .ok (.aload_n 2, 1) := by decide +kernel
theorem dL_law_708 : decode cL_law 708 = .ok (.aload_n 0, 1) := by decide +kernel
theorem dL_law_709 : decode cL_law 709 = .ok (.iload 4, 2) := by decide +kernel
theorem dL_law_711 : decode cL_law 711 = .ok (.iconst 1, 1) := by decide +kernel
theorem dL_law_712 : decode cL_law 712 = .ok (.iadd, 1) := by decide +kernel
theorem dL_law_713 : decode cL_law 713 = .ok (.iaload, 1) := by decide +kernel
theorem dL_law_714 : decode cL_law 714 = .ok (.invokevirtual 94, 3) := by decide +kernel
theorem dL_law_717 : decode cL_law 717 = .ok (.if_icmp .eq 696, 3) := by decide +kernel
theorem dL_law_720 : decode cL_law 720 = .ok (.iconst 0, 1) := by decide +kernel
theorem dL_law_721 : decode cL_law 721 = .ok (.ireturn, 1) := by decide +kernel
theorem dL_law_722 : decode cL_law 722 = .ok (.aload_n 1, 1) := by decide +kernel
theorem dL_law_723 : decode cL_law 723 = .ok (.aload_n 0, 1) := by decide +kernel
theorem dL_law_724 : decode cL_law 724 = .ok (.iload 4, 2) := by decide +kernel
theorem dL_law_726 : decode cL_law 726 = .ok (.iconst 1, 1) := by decide +kernel
theorem dL_law_727 : decode cL_law 727 = .ok (.iadd, 1) := by decide +kernel
theorem dL_law_728 : decode cL_law 728 = .ok (.iaload, 1) := by decide +kernel
theorem dL_law_729 : decode cL_law 729 = .ok (.invokevirtual 95, 3) := by decide +kernel
theorem dL_law_732 : decode cL_law 732 = .ok (.aload_n 2, 1) := by decide +kernel
theorem dL_law_733 : decode cL_law 733 = .ok (.aload_n 0, 1) := by decide +kernel
theorem dL_law_734 : decode cL_law 734 = .ok (.iload 4, 2) := by decide +kernel
theorem dL_law_736 : decode cL_law 736 = .ok (.iconst 1, 1) := by decide +kernel
theorem dL_law_737 : decode cL_law 737 = .ok (.iadd, 1) := by decide +kernel
theorem dL_law_738 : decode cL_law 738 = .ok (.iaload, 1) := by decide +kernel
theorem dL_law_739 : decode cL_law 739 = .ok (.invokevirtual 98, 3) := by decide +kernel
theorem dL_law_742 : decode cL_law 742 = .ok (.if_icmp .eq 671, 3) := by decide +kernel
theorem dL_law_745 : decode cL_law 745 = .ok (.iconst 0, 1) := by decide +kernel
theorem dL_law_746 : decode cL_law 746 = .ok (.ireturn, 1) := by decide +kernel
theorem dL_law_747 : decode cL_law 747 = .ok (.aload_n 1, 1) := by decide +kernel
theorem dL_law_748 : decode cL_law 748 = .ok (.aload_n 0, 1) := by decide +kernel
theorem dL_law_749 : decode cL_law 749 = .ok (.iload 4, 2) := by decide +kernel
theorem dL_law_751 : decode cL_law 751 = .ok (.iconst 1, 1) := by decide +kernel
theorem dL_law_752 : decode cL_law 752 = .ok (.iadd, 1) := by decide +kernel
theorem dL_law_753 : decode cL_law 753 = .ok (.iaload, 1) := by decide +kernel
theorem dL_law_754 : decode cL_law 754 = .ok (.invokevirtual 99, 3) := by decide +kernel
theorem dL_law_757 : decode cL_law 757 = .ok (.aload_n 2, 1) := by decide +kernel
theorem dL_law_758 : decode cL_law 758 = .ok (.aload_n 0, 1) := by decide +kernel
theorem dL_law_759 : decode cL_law 759 = .ok (.iload 4, 2) := by decide +kernel
theorem dL_law_761 : decode cL_law 761 = .ok (.iconst 1, 1) := by decide +kernel
theorem dL_law_762 : decode cL_law 762 = .ok (.iadd, 1) := by decide +kernel
theorem dL_law_763 : decode cL_law 763 = .ok (.iaload, 1) := by decide +kernel
theorem dL_law_764 : decode cL_law 764 = .ok (.invokevirtual 103, 3) := by decide +kernel
theorem dL_law_767 : decode cL_law 767 = .ok (.if_icmp .eq 646, 3) := by decide +kernel
theorem dL_law_770 : decode cL_law 770 = .ok (.iconst 0, 1) := by decide +kernel
theorem dL_law_771 : decode cL_law 771 = .ok (.ireturn, 1) := by decide +kernel
theorem dL_law_772 : decode cL_law 772 = .ok (.aload_n 1, 1) := by decide +kernel
theorem dL_law_773 : decode cL_law 773 = .ok (.aload_n 0, 1) := by decide +kernel
theorem dL_law_774 : decode cL_law 774 = .ok (.iload 4, 2) := by decide +kernel
theorem dL_law_776 : decode cL_law 776 = .ok (.iconst 1, 1) := by decide +kernel
theorem dL_law_777 : decode cL_law 777 = .ok (.iadd, 1) := by decide +kernel
theorem dL_law_778 : decode cL_law 778 = .ok (.iaload, 1) := by decide +kernel
theorem dL_law_779 : decode cL_law 779 = .ok (.invokevirtual 104, 3) := by decide +kernel
theorem dL_law_782 : decode cL_law 782 = .ok (.aload_n 2, 1) := by decide +kernel
theorem dL_law_783 : decode cL_law 783 = .ok (.aload_n 0, 1) := by decide +kernel
theorem dL_law_784 : decode cL_law 784 = .ok (.iload 4, 2) := by decide +kernel
theorem dL_law_786 : decode cL_law 786 = .ok (.iconst 1, 1) := by decide +kernel
theorem dL_law_787 : decode cL_law 787 = .ok (.iadd, 1) := by decide +kernel
theorem dL_law_788 : decode cL_law 788 = .ok (.iaload, 1) := by decide +kernel
theorem dL_law_789 : decode cL_law 789 = .ok (.invokevirtual 107, 3) := by decide +kernel
theorem dL_law_792 : decode cL_law 792 = .ok (.if_icmp .eq 621, 3) := by decide +kernel
theorem dL_law_795 : decode cL_law 795 = .ok (.iconst 0, 1) := by decide +kernel
theorem dL_law_796 : decode cL_law 796 = .ok (.ireturn, 1) := by decide +kernel
theorem dL_law_797 : decode cL_law 797 = .ok (.aload_n 1, 1) := by decide +kernel
theorem dL_law_798 : decode cL_law 798 = .ok (.aload_n 0, 1) := by decide +kernel
theorem dL_law_799 : decode cL_law 799 = .ok (.iload 4, 2) := by decide +kernel
theorem dL_law_801 : decode cL_law 801 = .ok (.iconst 1, 1) := by decide +kernel
theorem dL_law_802 : decode cL_law 802 = .ok (.iadd, 1) := by decide +kernel
theorem dL_law_803 : decode cL_law 803 = .ok (.iaload, 1) := by decide +kernel
theorem dL_law_804 : decode cL_law 804 = .ok (.aload_n 0, 1) := by decide +kernel
theorem dL_law_805 : decode cL_law 805 = .ok (.iload 4, 2) := by decide +kernel
theorem dL_law_807 : decode cL_law 807 = .ok (.iconst 2, 1) := by decide +kernel
theorem dL_law_808 : decode cL_law 808 = .ok (.iadd, 1) := by decide +kernel
theorem dL_law_809 : decode cL_law 809 = .ok (.iaload, 1) := by decide +kernel
theorem dL_law_810 : decode cL_law 810 = .ok (.invokevirtual 108, 3) := by decide +kernel
theorem dL_law_813 : decode cL_law 813 = .ok (.aload_n 2, 1) := by decide +kernel
theorem dL_law_814 : decode cL_law 814 = .ok (.aload_n 0, 1) := by decide +kernel
theorem dL_law_815 : decode cL_law 815 = .ok (.iload 4, 2) := by decide +kernel
theorem dL_law_817 : decode cL_law 817 = .ok (.iconst 1, 1) := by decide +kernel
theorem dL_law_818 : decode cL_law 818 = .ok (.iadd, 1) := by decide +kernel
theorem dL_law_819 : decode cL_law 819 = .ok (.iaload, 1) := by decide +kernel
theorem dL_law_820 : decode cL_law 820 = .ok (.aload_n 0, 1) := by decide +kernel
theorem dL_law_821 : decode cL_law 821 = .ok (.iload 4, 2) := by decide +kernel
theorem dL_law_823 : decode cL_law 823 = .ok (.iconst 2, 1) := by decide +kernel
theorem dL_law_824 : decode cL_law 824 = .ok (.iadd, 1) := by decide +kernel
theorem dL_law_825 : decode cL_law 825 = .ok (.iaload, 1) := by decide +kernel
theorem dL_law_826 : decode cL_law 826 = .ok (.invokevirtual 112, 3) := by decide +kernel
theorem dL_law_829 : decode cL_law 829 = .ok (.if_icmp .eq 584, 3) := by decide +kernel
theorem dL_law_832 : decode cL_law 832 = .ok (.iconst 0, 1) := by decide +kernel
theorem dL_law_833 : decode cL_law 833 = .ok (.ireturn, 1) := by decide +kernel
theorem dL_law_834 : decode cL_law 834 = .ok (.aload_n 1, 1) := by decide +kernel
theorem dL_law_835 : decode cL_law 835 = .ok (.invokevirtual 113, 3) := by decide +kernel
theorem dL_law_838 : decode cL_law 838 = .ok (.aload_n 2, 1) := by decide +kernel
theorem dL_law_839 : decode cL_law 839 = .ok (.invokevirtual 117, 3) := by decide +kernel
theorem dL_law_842 : decode cL_law 842 = .ok (.if_icmp .eq 571, 3) := by decide +kernel
theorem dL_law_845 : decode cL_law 845 = .ok (.iconst 0, 1) := by decide +kernel
theorem dL_law_846 : decode cL_law 846 = .ok (.ireturn, 1) := by decide +kernel
theorem dL_law_847 : decode cL_law 847 = .ok (.aload_n 1, 1) := by decide +kernel
theorem dL_law_848 : decode cL_law 848 = .ok (.invokevirtual 118, 3) := by decide +kernel
theorem dL_law_851 : decode cL_law 851 = .ok (.aload_n 2, 1) := by decide +kernel
theorem dL_law_852 : decode cL_law 852 = .ok (.invokevirtual 121, 3) := by decide +kernel
theorem dL_law_855 : decode cL_law 855 = .ok (.if_icmp .eq 558, 3) := by decide +kernel
theorem dL_law_858 : decode cL_law 858 = .ok (.iconst 0, 1) := by decide +kernel
theorem dL_law_859 : decode cL_law 859 = .ok (.ireturn, 1) := by decide +kernel
theorem dL_law_860 : decode cL_law 860 = .ok (.aload_n 1, 1) := by decide +kernel
theorem dL_law_861 : decode cL_law 861 = .ok (.aload_n 0, 1) := by decide +kernel
theorem dL_law_862 : decode cL_law 862 = .ok (.iload 4, 2) := by decide +kernel
theorem dL_law_864 : decode cL_law 864 = .ok (.iconst 1, 1) := by decide +kernel
theorem dL_law_865 : decode cL_law 865 = .ok (.iadd, 1) := by decide +kernel
theorem dL_law_866 : decode cL_law 866 = .ok (.iaload, 1) := by decide +kernel
theorem dL_law_867 : decode cL_law 867 = .ok (.invokevirtual 122, 3) := by decide +kernel
theorem dL_law_870 : decode cL_law 870 = .ok (.aload_n 2, 1) := by decide +kernel
theorem dL_law_871 : decode cL_law 871 = .ok (.aload_n 0, 1) := by decide +kernel
theorem dL_law_872 : decode cL_law 872 = .ok (.iload 4, 2) := by decide +kernel
theorem dL_law_874 : decode cL_law 874 = .ok (.iconst 1, 1) := by decide +kernel
theorem dL_law_875 : decode cL_law 875 = .ok (.iadd, 1) := by decide +kernel
theorem dL_law_876 : decode cL_law 876 = .ok (.iaload, 1) := by decide +kernel
theorem dL_law_877 : decode cL_law 877 = .ok (.invokevirtual 125, 3) := by decide +kernel
theorem dL_law_880 : decode cL_law 880 = .ok (.if_icmp .eq 533, 3) := by decide +kernel
theorem dL_law_883 : decode cL_law 883 = .ok (.iconst 0, 1) := by decide +kernel
theorem dL_law_884 : decode cL_law 884 = .ok (.ireturn, 1) := by decide +kernel
theorem dL_law_885 : decode cL_law 885 = .ok (.aload_n 1, 1) := by decide +kernel
theorem dL_law_886 : decode cL_law 886 = .ok (.invokevirtual 126, 3) := by decide +kernel
theorem dL_law_889 : decode cL_law 889 = .ok (.aload_n 2, 1) := by decide +kernel
theorem dL_law_890 : decode cL_law 890 = .ok (.invokevirtual 129, 3) := by decide +kernel
theorem dL_law_893 : decode cL_law 893 = .ok (.if_icmp .eq 520, 3) := by decide +kernel
theorem dL_law_896 : decode cL_law 896 = .ok (.iconst 0, 1) := by decide +kernel
theorem dL_law_897 : decode cL_law 897 = .ok (.ireturn, 1) := by decide +kernel
theorem dL_law_898 : decode cL_law 898 = .ok (.aload_n 1, 1) := by decide +kernel
theorem dL_law_899 : decode cL_law 899 = .ok (.invokevirtual 130, 3) := by decide +kernel
theorem dL_law_902 : decode cL_law 902 = .ok (.aload_n 2, 1) := by decide +kernel
theorem dL_law_903 : decode cL_law 903 = .ok (.invokevirtual 133, 3) := by decide +kernel
theorem dL_law_906 : decode cL_law 906 = .ok (.if_icmp .eq 507, 3) := by decide +kernel
theorem dL_law_909 : decode cL_law 909 = .ok (.iconst 0, 1) := by decide +kernel
theorem dL_law_910 : decode cL_law 910 = .ok (.ireturn, 1) := by decide +kernel
theorem dL_law_911 : decode cL_law 911 = .ok (.aload_n 1, 1) := by decide +kernel
theorem dL_law_912 : decode cL_law 912 = .ok (.aload_n 0, 1) := by decide +kernel
theorem dL_law_913 : decode cL_law 913 = .ok (.iload 4, 2) := by decide +kernel
theorem dL_law_915 : decode cL_law 915 = .ok (.iconst 1, 1) := by decide +kernel
theorem dL_law_916 : decode cL_law 916 = .ok (.iadd, 1) := by decide +kernel
theorem dL_law_917 : decode cL_law 917 = .ok (.iaload, 1) := by decide +kernel
theorem dL_law_918 : decode cL_law 918 = .ok (.invokevirtual 134, 3) := by decide +kernel
theorem dL_law_921 : decode cL_law 921 = .ok (.aload_n 2, 1) := by decide +kernel
theorem dL_law_922 : decode cL_law 922 = .ok (.aload_n 0, 1) := by decide +kernel
theorem dL_law_923 : decode cL_law 923 = .ok (.iload 4, 2) := by decide +kernel
theorem dL_law_925 : decode cL_law 925 = .ok (.iconst 1, 1) := by decide +kernel
theorem dL_law_926 : decode cL_law 926 = .ok (.iadd, 1) := by decide +kernel
theorem dL_law_927 : decode cL_law 927 = .ok (.iaload, 1) := by decide +kernel
theorem dL_law_928 : decode cL_law 928 = .ok (.invokevirtual 137, 3) := by decide +kernel
theorem dL_law_931 : decode cL_law 931 = .ok (.if_icmp .eq 482, 3) := by decide +kernel
theorem dL_law_934 : decode cL_law 934 = .ok (.iconst 0, 1) := by decide +kernel
theorem dL_law_935 : decode cL_law 935 = .ok (.ireturn, 1) := by decide +kernel
theorem dL_law_936 : decode cL_law 936 = .ok (.aload_n 1, 1) := by decide +kernel
theorem dL_law_937 : decode cL_law 937 = .ok (.aload_n 0, 1) := by decide +kernel
theorem dL_law_938 : decode cL_law 938 = .ok (.iload 4, 2) := by decide +kernel
theorem dL_law_940 : decode cL_law 940 = .ok (.iconst 1, 1) := by decide +kernel
theorem dL_law_941 : decode cL_law 941 = .ok (.iadd, 1) := by decide +kernel
theorem dL_law_942 : decode cL_law 942 = .ok (.iaload, 1) := by decide +kernel
theorem dL_law_943 : decode cL_law 943 = .ok (.aload_n 0, 1) := by decide +kernel
theorem dL_law_944 : decode cL_law 944 = .ok (.iload 4, 2) := by decide +kernel
theorem dL_law_946 : decode cL_law 946 = .ok (.iconst 2, 1) := by decide +kernel
theorem dL_law_947 : decode cL_law 947 = .ok (.iadd, 1) := by decide +kernel
theorem dL_law_948 : decode cL_law 948 = .ok (.iaload, 1) := by decide +kernel
theorem dL_law_949 : decode cL_law 949 = .ok (.aload_n 0, 1) := by decide +kernel
theorem dL_law_950 : decode cL_law 950 = .ok (.iload 4, 2) := by decide +kernel
theorem dL_law_952 : decode cL_law 952 = .ok (.iconst 3, 1) := by decide +kernel
theorem dL_law_953 : decode cL_law 953 = .ok (.iadd, 1) := by decide +kernel
theorem dL_law_954 : decode cL_law 954 = .ok (.iaload, 1) := by decide +kernel
theorem dL_law_955 : decode cL_law 955 = .ok (.aload_n 0, 1) := by decide +kernel
theorem dL_law_956 : decode cL_law 956 = .ok (.iload 4, 2) := by decide +kernel
theorem dL_law_958 : decode cL_law 958 = .ok (.iconst 4, 1) := by decide +kernel
theorem dL_law_959 : decode cL_law 959 = .ok (.iadd, 1) := by decide +kernel
theorem dL_law_960 : decode cL_law 960 = .ok (.iaload, 1) := by decide +kernel
theorem dL_law_961 : decode cL_law 961 = .ok (.invokevirtual 138, 3) := by decide +kernel
theorem dL_law_964 : decode cL_law 964 = .ok (.aload_n 2, 1) := by decide +kernel
theorem dL_law_965 : decode cL_law 965 = .ok (.aload_n 0, 1) := by decide +kernel
theorem dL_law_966 : decode cL_law 966 = .ok (.iload 4, 2) := by decide +kernel
theorem dL_law_968 : decode cL_law 968 = .ok (.iconst 1, 1) := by decide +kernel
theorem dL_law_969 : decode cL_law 969 = .ok (.iadd, 1) := by decide +kernel
theorem dL_law_970 : decode cL_law 970 = .ok (.iaload, 1) := by decide +kernel
theorem dL_law_971 : decode cL_law 971 = .ok (.aload_n 0, 1) := by decide +kernel
theorem dL_law_972 : decode cL_law 972 = .ok (.iload 4, 2) := by decide +kernel
theorem dL_law_974 : decode cL_law 974 = .ok (.iconst 2, 1) := by decide +kernel
theorem dL_law_975 : decode cL_law 975 = .ok (.iadd, 1) := by decide +kernel
theorem dL_law_976 : decode cL_law 976 = .ok (.iaload, 1) := by decide +kernel
theorem dL_law_977 : decode cL_law 977 = .ok (.aload_n 0, 1) := by decide +kernel
theorem dL_law_978 : decode cL_law 978 = .ok (.iload 4, 2) := by decide +kernel
theorem dL_law_980 : decode cL_law 980 = .ok (.iconst 3, 1) := by decide +kernel
theorem dL_law_981 : decode cL_law 981 = .ok (.iadd, 1) := by decide +kernel
theorem dL_law_982 : decode cL_law 982 = .ok (.iaload, 1) := by decide +kernel
theorem dL_law_983 : decode cL_law 983 = .ok (.aload_n 0, 1) := by decide +kernel
theorem dL_law_984 : decode cL_law 984 = .ok (.iload 4, 2) := by decide +kernel
theorem dL_law_986 : decode cL_law 986 = .ok (.iconst 4, 1) := by decide +kernel
theorem dL_law_987 : decode cL_law 987 = .ok (.iadd, 1) := by decide +kernel
theorem dL_law_988 : decode cL_law 988 = .ok (.iaload, 1) := by decide +kernel
theorem dL_law_989 : decode cL_law 989 = .ok (.invokevirtual 142, 3) := by decide +kernel
theorem dL_law_992 : decode cL_law 992 = .ok (.if_icmp .eq 421, 3) := by decide +kernel
theorem dL_law_995 : decode cL_law 995 = .ok (.iconst 0, 1) := by decide +kernel
theorem dL_law_996 : decode cL_law 996 = .ok (.ireturn, 1) := by decide +kernel
theorem dL_law_997 : decode cL_law 997 = .ok (.aload_n 1, 1) := by decide +kernel
theorem dL_law_998 : decode cL_law 998 = .ok (.invokevirtual 143, 3) := by decide +kernel
theorem dL_law_1001 : decode cL_law 1001 = .ok (.aload_n 2, 1) := by decide +kernel
theorem dL_law_1002 : decode cL_law 1002 = .ok (.invokevirtual 146, 3) := by decide +kernel
theorem dL_law_1005 : decode cL_law 1005 = .ok (.if_icmp .eq 408, 3) := by decide +kernel
theorem dL_law_1008 : decode cL_law 1008 = .ok (.iconst 0, 1) := by decide +kernel
theorem dL_law_1009 : decode cL_law 1009 = .ok (.ireturn, 1) := by decide +kernel
theorem dL_law_1010 : decode cL_law 1010 = .ok (.aload_n 1, 1) := by decide +kernel
theorem dL_law_1011 : decode cL_law 1011 = .ok (.aload_n 0, 1) := by decide +kernel
theorem dL_law_1012 : decode cL_law 1012 = .ok (.iload 4, 2) := by decide +kernel
theorem dL_law_1014 : decode cL_law 1014 = .ok (.iconst 1, 1) := by decide +kernel
theorem dL_law_1015 : decode cL_law 1015 = .ok (.iadd, 1) := by decide +kernel
theorem dL_law_1016 : decode cL_law 1016 = .ok (.iaload, 1) := by decide +kernel
theorem dL_law_1017 : decode cL_law 1017 = .ok (.invokevirtual 147, 3) := by decide +kernel
theorem dL_law_1020 : decode cL_law 1020 = .ok (.aload_n 2, 1) := by decide +kernel
theorem dL_law_1021 : decode cL_law 1021 = .ok (.aload_n 0, 1) := by decide +kernel
theorem dL_law_1022 : decode cL_law 1022 = .ok (.iload 4, 2) := by decide +kernel
theorem dL_law_1024 : decode cL_law 1024 = .ok (.iconst 1, 1) := by decide +kernel
theorem dL_law_1025 : decode cL_law 1025 = .ok (.iadd, 1) := by decide +kernel
theorem dL_law_1026 : decode cL_law 1026 = .ok (.iaload, 1) := by decide +kernel
theorem dL_law_1027 : decode cL_law 1027 = .ok (.invokevirtual 150, 3) := by decide +kernel
theorem dL_law_1030 : decode cL_law 1030 = .ok (.if_icmp .eq 383, 3) := by decide +kernel
theorem dL_law_1033 : decode cL_law 1033 = .ok (.iconst 0, 1) := by decide +kernel
theorem dL_law_1034 : decode cL_law 1034 = .ok (.ireturn, 1) := by decide +kernel
theorem dL_law_1035 : decode cL_law 1035 = .ok (.aload_n 1, 1) := by decide +kernel
theorem dL_law_1036 : decode cL_law 1036 = .ok (.aload_n 0, 1) := by decide +kernel
theorem dL_law_1037 : decode cL_law 1037 = .ok (.iload 4, 2) := by decide +kernel
theorem dL_law_1039 : decode cL_law 1039 = .ok (.iconst 1, 1) := by decide +kernel
theorem dL_law_1040 : decode cL_law 1040 = .ok (.iadd, 1) := by decide +kernel
theorem dL_law_1041 : decode cL_law 1041 = .ok (.iaload, 1) := by decide +kernel
theorem dL_law_1042 : decode cL_law 1042 = .ok (.aload_n 0, 1) := by decide +kernel
theorem dL_law_1043 : decode cL_law 1043 = .ok (.iload 4, 2) := by decide +kernel
theorem dL_law_1045 : decode cL_law 1045 = .ok (.iconst 2, 1) := by decide +kernel
theorem dL_law_1046 : decode cL_law 1046 = .ok (.iadd, 1) := by decide +kernel
theorem dL_law_1047 : decode cL_law 1047 = .ok (.iaload, 1) := by decide +kernel
theorem dL_law_1048 : decode cL_law 1048 = .ok (.ifCond .eq 7, 3) := by decide +kernel
theorem dL_law_1051 : decode cL_law 1051 = .ok (.iconst 1, 1) := by decide +kernel
theorem dL_law_1052 : decode cL_law 1052 = .ok (.goto 4, 3) := by decide +kernel
theorem dL_law_1055 : decode cL_law 1055 = .ok (.iconst 0, 1) := by decide +kernel
theorem dL_law_1056 : decode cL_law 1056 = .ok (.invokevirtual 151, 3) := by decide +kernel
theorem dL_law_1059 : decode cL_law 1059 = .ok (.aload_n 2, 1) := by decide +kernel
theorem dL_law_1060 : decode cL_law 1060 = .ok (.aload_n 0, 1) := by decide +kernel
theorem dL_law_1061 : decode cL_law 1061 = .ok (.iload 4, 2) := by decide +kernel
theorem dL_law_1063 : decode cL_law 1063 = .ok (.iconst 1, 1) := by decide +kernel
theorem dL_law_1064 : decode cL_law 1064 = .ok (.iadd, 1) := by decide +kernel
theorem dL_law_1065 : decode cL_law 1065 = .ok (.iaload, 1) := by decide +kernel
theorem dL_law_1066 : decode cL_law 1066 = .ok (.aload_n 0, 1) := by decide +kernel
theorem dL_law_1067 : decode cL_law 1067 = .ok (.iload 4, 2) := by decide +kernel
theorem dL_law_1069 : decode cL_law 1069 = .ok (.iconst 2, 1) := by decide +kernel
theorem dL_law_1070 : decode cL_law 1070 = .ok (.iadd, 1) := by decide +kernel
theorem dL_law_1071 : decode cL_law 1071 = .ok (.iaload, 1) := by decide +kernel
theorem dL_law_1072 : decode cL_law 1072 = .ok (.ifCond .eq 7, 3) := by decide +kernel
theorem dL_law_1075 : decode cL_law 1075 = .ok (.iconst 1, 1) := by decide +kernel
theorem dL_law_1076 : decode cL_law 1076 = .ok (.goto 4, 3) := by decide +kernel
theorem dL_law_1079 : decode cL_law 1079 = .ok (.iconst 0, 1) := by decide +kernel
theorem dL_law_1080 : decode cL_law 1080 = .ok (.invokevirtual 155, 3) := by decide +kernel
theorem dL_law_1083 : decode cL_law 1083 = .ok (.lcmp, 1) := by decide +kernel
theorem dL_law_1084 : decode cL_law 1084 = .ok (.ifCond .eq 329, 3) := by decide +kernel
theorem dL_law_1087 : decode cL_law 1087 = .ok (.iconst 0, 1) := by decide +kernel
theorem dL_law_1088 : decode cL_law 1088 = .ok (.ireturn, 1) := by decide +kernel
theorem dL_law_1089 : decode cL_law 1089 = .ok (.aload_n 1, 1) := by decide +kernel
theorem dL_law_1090 : decode cL_law 1090 = .ok (.invokevirtual 156, 3) := by decide +kernel
theorem dL_law_1093 : decode cL_law 1093 = .ok (.aload_n 2, 1) := by decide +kernel
theorem dL_law_1094 : decode cL_law 1094 = .ok (.invokevirtual 159, 3) := by decide +kernel
theorem dL_law_1097 : decode cL_law 1097 = .ok (.if_icmp .eq 316, 3) := by decide +kernel
theorem dL_law_1100 : decode cL_law 1100 = .ok (.iconst 0, 1) := by decide +kernel
theorem dL_law_1101 : decode cL_law 1101 = .ok (.ireturn, 1) := by decide +kernel
theorem dL_law_1102 : decode cL_law 1102 = .ok (.aload_n 1, 1) := by decide +kernel
theorem dL_law_1103 : decode cL_law 1103 = .ok (.invokevirtual 160, 3) := by decide +kernel
theorem dL_law_1106 : decode cL_law 1106 = .ok (.aload_n 2, 1) := by decide +kernel
theorem dL_law_1107 : decode cL_law 1107 = .ok (.invokevirtual 163, 3) := by decide +kernel
theorem dL_law_1110 : decode cL_law 1110 = .ok (.if_icmp .eq 303, 3) := by decide +kernel
theorem dL_law_1113 : decode cL_law 1113 = .ok (.iconst 0, 1) := by decide +kernel
theorem dL_law_1114 : decode cL_law 1114 = .ok (.ireturn, 1) := by decide +kernel
theorem dL_law_1115 : decode cL_law 1115 = .ok (.aload_n 1, 1) := by decide +kernel
theorem dL_law_1116 : decode cL_law 1116 = .ok (.invokevirtual 164, 3) := by decide +kernel
theorem dL_law_1119 : decode cL_law 1119 = .ok (.aload_n 2, 1) := by decide +kernel
theorem dL_law_1120 : decode cL_law 1120 = .ok (.invokevirtual 167, 3) := by decide +kernel
theorem dL_law_1123 : decode cL_law 1123 = .ok (.if_icmp .eq 290, 3) := by decide +kernel
theorem dL_law_1126 : decode cL_law 1126 = .ok (.iconst 0, 1) := by decide +kernel
theorem dL_law_1127 : decode cL_law 1127 = .ok (.ireturn, 1) := by decide +kernel
theorem dL_law_1128 : decode cL_law 1128 = .ok (.aload_n 1, 1) := by decide +kernel
theorem dL_law_1129 : decode cL_law 1129 = .ok (.aload_n 0, 1) := by decide +kernel
theorem dL_law_1130 : decode cL_law 1130 = .ok (.iload 4, 2) := by decide +kernel
theorem dL_law_1132 : decode cL_law 1132 = .ok (.iconst 1, 1) := by decide +kernel
theorem dL_law_1133 : decode cL_law 1133 = .ok (.iadd, 1) := by decide +kernel
theorem dL_law_1134 : decode cL_law 1134 = .ok (.iaload, 1) := by decide +kernel
theorem dL_law_1135 : decode cL_law 1135 = .ok (.invokevirtual 168, 3) := by decide +kernel
theorem dL_law_1138 : decode cL_law 1138 = .ok (.aload_n 2, 1) := by decide +kernel
theorem dL_law_1139 : decode cL_law 1139 = .ok (.aload_n 0, 1) := by decide +kernel
theorem dL_law_1140 : decode cL_law 1140 = .ok (.iload 4, 2) := by decide +kernel
theorem dL_law_1142 : decode cL_law 1142 = .ok (.iconst 1, 1) := by decide +kernel
theorem dL_law_1143 : decode cL_law 1143 = .ok (.iadd, 1) := by decide +kernel
theorem dL_law_1144 : decode cL_law 1144 = .ok (.iaload, 1) := by decide +kernel
theorem dL_law_1145 : decode cL_law 1145 = .ok (.invokevirtual 171, 3) := by decide +kernel
theorem dL_law_1148 : decode cL_law 1148 = .ok (.if_icmp .eq 265, 3) := by decide +kernel
theorem dL_law_1151 : decode cL_law 1151 = .ok (.iconst 0, 1) := by decide +kernel
theorem dL_law_1152 : decode cL_law 1152 = .ok (.ireturn, 1) := by decide +kernel
theorem dL_law_1153 : decode cL_law 1153 = .ok (.aload_n 1, 1) := by decide +kernel
theorem dL_law_1154 : decode cL_law 1154 = .ok (.invokevirtual 172, 3) := by decide +kernel
theorem dL_law_1157 : decode cL_law 1157 = .ok (.aload_n 2, 1) := by decide +kernel
theorem dL_law_1158 : decode cL_law 1158 = .ok (.invokevirtual 175, 3) := by decide +kernel
theorem dL_law_1161 : decode cL_law 1161 = .ok (.if_icmp .eq 252, 3) := by decide +kernel
theorem dL_law_1164 : decode cL_law 1164 = .ok (.iconst 0, 1) := by decide +kernel
theorem dL_law_1165 : decode cL_law 1165 = .ok (.ireturn, 1) := by decide +kernel
theorem dL_law_1166 : decode cL_law 1166 = .ok (.aload_n 1, 1) := by decide +kernel
theorem dL_law_1167 : decode cL_law 1167 = .ok (.invokevirtual 176, 3) := by decide +kernel
theorem dL_law_1170 : decode cL_law 1170 = .ok (.aload_n 2, 1) := by decide +kernel
theorem dL_law_1171 : decode cL_law 1171 = .ok (.invokevirtual 179, 3) := by decide +kernel
theorem dL_law_1174 : decode cL_law 1174 = .ok (.if_icmp .eq 239, 3) := by decide +kernel
theorem dL_law_1177 : decode cL_law 1177 = .ok (.iconst 0, 1) := by decide +kernel
theorem dL_law_1178 : decode cL_law 1178 = .ok (.ireturn, 1) := by decide +kernel
theorem dL_law_1179 : decode cL_law 1179 = .ok (.aload_n 1, 1) := by decide +kernel
theorem dL_law_1180 : decode cL_law 1180 = .ok (.aload_n 0, 1) := by decide +kernel
theorem dL_law_1181 : decode cL_law 1181 = .ok (.iload 4, 2) := by decide +kernel
theorem dL_law_1183 : decode cL_law 1183 = .ok (.iconst 1, 1) := by decide +kernel
theorem dL_law_1184 : decode cL_law 1184 = .ok (.iadd, 1) := by decide +kernel
theorem dL_law_1185 : decode cL_law 1185 = .ok (.iaload, 1) := by decide +kernel
theorem dL_law_1186 : decode cL_law 1186 = .ok (.invokevirtual 180, 3) := by decide +kernel
theorem dL_law_1189 : decode cL_law 1189 = .ok (.aload_n 2, 1) := by decide +kernel
theorem dL_law_1190 : decode cL_law 1190 = .ok (.aload_n 0, 1) := by decide +kernel
theorem dL_law_1191 : decode cL_law 1191 = .ok (.iload 4, 2) := by decide +kernel
theorem dL_law_1193 : decode cL_law 1193 = .ok (.iconst 1, 1) := by decide +kernel
theorem dL_law_1194 : decode cL_law 1194 = .ok (.iadd, 1) := by decide +kernel
theorem dL_law_1195 : decode cL_law 1195 = .ok (.iaload, 1) := by decide +kernel
theorem dL_law_1196 : decode cL_law 1196 = .ok (.invokevirtual 183, 3) := by decide +kernel
theorem dL_law_1199 : decode cL_law 1199 = .ok (.if_icmp .eq 214, 3) := by decide +kernel
theorem dL_law_1202 : decode cL_law 1202 = .ok (.iconst 0, 1) := by decide +kernel
theorem dL_law_1203 : decode cL_law 1203 = .ok (.ireturn, 1) := by decide +kernel
theorem dL_law_1204 : decode cL_law 1204 = .ok (.aload_n 1, 1) := by decide +kernel
theorem dL_law_1205 : decode cL_law 1205 = .ok (.aload_n 0, 1) := by decide +kernel
theorem dL_law_1206 : decode cL_law 1206 = .ok (.iload 4, 2) := by decide +kernel
theorem dL_law_1208 : decode cL_law 1208 = .ok (.iconst 1, 1) := by decide +kernel
theorem dL_law_1209 : decode cL_law 1209 = .ok (.iadd, 1) := by decide +kernel
theorem dL_law_1210 : decode cL_law 1210 = .ok (.iaload, 1) := by decide +kernel
theorem dL_law_1211 : decode cL_law 1211 = .ok (.aload_n 0, 1) := by decide +kernel
theorem dL_law_1212 : decode cL_law 1212 = .ok (.iload 4, 2) := by decide +kernel
theorem dL_law_1214 : decode cL_law 1214 = .ok (.iconst 2, 1) := by decide +kernel
theorem dL_law_1215 : decode cL_law 1215 = .ok (.iadd, 1) := by decide +kernel
theorem dL_law_1216 : decode cL_law 1216 = .ok (.iaload, 1) := by decide +kernel
theorem dL_law_1217 : decode cL_law 1217 = .ok (.invokevirtual 184, 3) := by decide +kernel
theorem dL_law_1220 : decode cL_law 1220 = .ok (.aload_n 2, 1) := by decide +kernel
theorem dL_law_1221 : decode cL_law 1221 = .ok (.aload_n 0, 1) := by decide +kernel
theorem dL_law_1222 : decode cL_law 1222 = .ok (.iload 4, 2) := by decide +kernel
theorem dL_law_1224 : decode cL_law 1224 = .ok (.iconst 1, 1) := by decide +kernel
theorem dL_law_1225 : decode cL_law 1225 = .ok (.iadd, 1) := by decide +kernel
theorem dL_law_1226 : decode cL_law 1226 = .ok (.iaload, 1) := by decide +kernel
theorem dL_law_1227 : decode cL_law 1227 = .ok (.aload_n 0, 1) := by decide +kernel
theorem dL_law_1228 : decode cL_law 1228 = .ok (.iload 4, 2) := by decide +kernel
theorem dL_law_1230 : decode cL_law 1230 = .ok (.iconst 2, 1) := by decide +kernel
theorem dL_law_1231 : decode cL_law 1231 = .ok (.iadd, 1) := by decide +kernel
theorem dL_law_1232 : decode cL_law 1232 = .ok (.iaload, 1) := by decide +kernel
theorem dL_law_1233 : decode cL_law 1233 = .ok (.invokevirtual 187, 3) := by decide +kernel
theorem dL_law_1236 : decode cL_law 1236 = .ok (.if_icmp .eq 177, 3) := by decide +kernel
theorem dL_law_1239 : decode cL_law 1239 = .ok (.iconst 0, 1) := by decide +kernel
theorem dL_law_1240 : decode cL_law 1240 = .ok (.ireturn, 1) := by decide +kernel
theorem dL_law_1241 : decode cL_law 1241 = .ok (.aload_n 1, 1) := by decide +kernel
theorem dL_law_1242 : decode cL_law 1242 = .ok (.aload_n 0, 1) := by decide +kernel
theorem dL_law_1243 : decode cL_law 1243 = .ok (.iload 4, 2) := by decide +kernel
theorem dL_law_1245 : decode cL_law 1245 = .ok (.iconst 1, 1) := by decide +kernel
theorem dL_law_1246 : decode cL_law 1246 = .ok (.iadd, 1) := by decide +kernel
theorem dL_law_1247 : decode cL_law 1247 = .ok (.iaload, 1) := by decide +kernel
theorem dL_law_1248 : decode cL_law 1248 = .ok (.aload_n 0, 1) := by decide +kernel
theorem dL_law_1249 : decode cL_law 1249 = .ok (.iload 4, 2) := by decide +kernel
theorem dL_law_1251 : decode cL_law 1251 = .ok (.iconst 2, 1) := by decide +kernel
theorem dL_law_1252 : decode cL_law 1252 = .ok (.iadd, 1) := by decide +kernel
theorem dL_law_1253 : decode cL_law 1253 = .ok (.iaload, 1) := by decide +kernel
theorem dL_law_1254 : decode cL_law 1254 = .ok (.ifCond .eq 7, 3) := by decide +kernel
theorem dL_law_1257 : decode cL_law 1257 = .ok (.iconst 1, 1) := by decide +kernel
theorem dL_law_1258 : decode cL_law 1258 = .ok (.goto 4, 3) := by decide +kernel
theorem dL_law_1261 : decode cL_law 1261 = .ok (.iconst 0, 1) := by decide +kernel
theorem dL_law_1262 : decode cL_law 1262 = .ok (.invokevirtual 188, 3) := by decide +kernel
theorem dL_law_1265 : decode cL_law 1265 = .ok (.aload_n 2, 1) := by decide +kernel
theorem dL_law_1266 : decode cL_law 1266 = .ok (.aload_n 0, 1) := by decide +kernel
theorem dL_law_1267 : decode cL_law 1267 = .ok (.iload 4, 2) := by decide +kernel
theorem dL_law_1269 : decode cL_law 1269 = .ok (.iconst 1, 1) := by decide +kernel
theorem dL_law_1270 : decode cL_law 1270 = .ok (.iadd, 1) := by decide +kernel
theorem dL_law_1271 : decode cL_law 1271 = .ok (.iaload, 1) := by decide +kernel
theorem dL_law_1272 : decode cL_law 1272 = .ok (.aload_n 0, 1) := by decide +kernel
theorem dL_law_1273 : decode cL_law 1273 = .ok (.iload 4, 2) := by decide +kernel
theorem dL_law_1275 : decode cL_law 1275 = .ok (.iconst 2, 1) := by decide +kernel
theorem dL_law_1276 : decode cL_law 1276 = .ok (.iadd, 1) := by decide +kernel
theorem dL_law_1277 : decode cL_law 1277 = .ok (.iaload, 1) := by decide +kernel
theorem dL_law_1278 : decode cL_law 1278 = .ok (.ifCond .eq 7, 3) := by decide +kernel
theorem dL_law_1281 : decode cL_law 1281 = .ok (.iconst 1, 1) := by decide +kernel
theorem dL_law_1282 : decode cL_law 1282 = .ok (.goto 4, 3) := by decide +kernel
theorem dL_law_1285 : decode cL_law 1285 = .ok (.iconst 0, 1) := by decide +kernel
theorem dL_law_1286 : decode cL_law 1286 = .ok (.invokevirtual 192, 3) := by decide +kernel
theorem dL_law_1289 : decode cL_law 1289 = .ok (.if_icmp .eq 124, 3) := by decide +kernel
theorem dL_law_1292 : decode cL_law 1292 = .ok (.iconst 0, 1) := by decide +kernel
theorem dL_law_1293 : decode cL_law 1293 = .ok (.ireturn, 1) := by decide +kernel
theorem dL_law_1294 : decode cL_law 1294 = .ok (.aload_n 1, 1) := by decide +kernel
theorem dL_law_1295 : decode cL_law 1295 = .ok (.aload_n 0, 1) := by decide +kernel
theorem dL_law_1296 : decode cL_law 1296 = .ok (.iload 4, 2) := by decide +kernel
theorem dL_law_1298 : decode cL_law 1298 = .ok (.iconst 1, 1) := by decide +kernel
theorem dL_law_1299 : decode cL_law 1299 = .ok (.iadd, 1) := by decide +kernel
theorem dL_law_1300 : decode cL_law 1300 = .ok (.iaload, 1) := by decide +kernel
theorem dL_law_1301 : decode cL_law 1301 = .ok (.invokevirtual 193, 3) := by decide +kernel
theorem dL_law_1304 : decode cL_law 1304 = .ok (.aload_n 2, 1) := by decide +kernel
theorem dL_law_1305 : decode cL_law 1305 = .ok (.aload_n 0, 1) := by decide +kernel
theorem dL_law_1306 : decode cL_law 1306 = .ok (.iload 4, 2) := by decide +kernel
theorem dL_law_1308 : decode cL_law 1308 = .ok (.iconst 1, 1) := by decide +kernel
theorem dL_law_1309 : decode cL_law 1309 = .ok (.iadd, 1) := by decide +kernel
theorem dL_law_1310 : decode cL_law 1310 = .ok (.iaload, 1) := by decide +kernel
theorem dL_law_1311 : decode cL_law 1311 = .ok (.invokevirtual 196, 3) := by decide +kernel
theorem dL_law_1314 : decode cL_law 1314 = .ok (.if_icmp .eq 99, 3) := by decide +kernel
theorem dL_law_1317 : decode cL_law 1317 = .ok (.iconst 0, 1) := by decide +kernel
theorem dL_law_1318 : decode cL_law 1318 = .ok (.ireturn, 1) := by decide +kernel
theorem dL_law_1319 : decode cL_law 1319 = .ok (.aload_n 1, 1) := by decide +kernel
theorem dL_law_1320 : decode cL_law 1320 = .ok (.aload_n 0, 1) := by decide +kernel
theorem dL_law_1321 : decode cL_law 1321 = .ok (.iload 4, 2) := by decide +kernel
theorem dL_law_1323 : decode cL_law 1323 = .ok (.iconst 1, 1) := by decide +kernel
theorem dL_law_1324 : decode cL_law 1324 = .ok (.iadd, 1) := by decide +kernel
theorem dL_law_1325 : decode cL_law 1325 = .ok (.iaload, 1) := by decide +kernel
theorem dL_law_1326 : decode cL_law 1326 = .ok (.aload_n 3, 1) := by decide +kernel
theorem dL_law_1327 : decode cL_law 1327 = .ok (.invokestatic 197, 3) := by decide +kernel
theorem dL_law_1330 : decode cL_law 1330 = .ok (.istore 5, 2) := by decide +kernel
theorem dL_law_1332 : decode cL_law 1332 = .ok (.aload_n 2, 1) := by decide +kernel
theorem dL_law_1333 : decode cL_law 1333 = .ok (.aload_n 0, 1) := by decide +kernel
theorem dL_law_1334 : decode cL_law 1334 = .ok (.iload 4, 2) := by decide +kernel
theorem dL_law_1336 : decode cL_law 1336 = .ok (.iconst 1, 1) := by decide +kernel
theorem dL_law_1337 : decode cL_law 1337 = .ok (.iadd, 1) := by decide +kernel
theorem dL_law_1338 : decode cL_law 1338 = .ok (.iaload, 1) := by decide +kernel
theorem dL_law_1339 : decode cL_law 1339 = .ok (.invokevirtual 202, 3) := by decide +kernel
theorem dL_law_1342 : decode cL_law 1342 = .ok (.istore 6, 2) := by decide +kernel
theorem dL_law_1344 : decode cL_law 1344 = .ok (.aload_n 2, 1) := by decide +kernel
theorem dL_law_1345 : decode cL_law 1345 = .ok (.invokevirtual 203, 3) := by decide +kernel
theorem dL_law_1348 : decode cL_law 1348 = .ok (.iload 5, 2) := by decide +kernel
theorem dL_law_1350 : decode cL_law 1350 = .ok (.if_icmp .eq 5, 3) := by decide +kernel
theorem dL_law_1353 : decode cL_law 1353 = .ok (.iconst 0, 1) := by decide +kernel
theorem dL_law_1354 : decode cL_law 1354 = .ok (.ireturn, 1) := by decide +kernel
theorem dL_law_1355 : decode cL_law 1355 = .ok (.iload 5, 2) := by decide +kernel
theorem dL_law_1357 : decode cL_law 1357 = .ok (.ifCond .ne 15, 3) := by decide +kernel
theorem dL_law_1360 : decode cL_law 1360 = .ok (.aload_n 3, 1) := by decide +kernel
theorem dL_law_1361 : decode cL_law 1361 = .ok (.iconst 0, 1) := by decide +kernel
theorem dL_law_1362 : decode cL_law 1362 = .ok (.laload, 1) := by decide +kernel
theorem dL_law_1363 : decode cL_law 1363 = .ok (.iload 6, 2) := by decide +kernel
theorem dL_law_1365 : decode cL_law 1365 = .ok (.i2l, 1) := by decide +kernel
theorem dL_law_1366 : decode cL_law 1366 = .ok (.lcmp, 1) := by decide +kernel
theorem dL_law_1367 : decode cL_law 1367 = .ok (.ifCond .eq 5, 3) := by decide +kernel
theorem dL_law_1370 : decode cL_law 1370 = .ok (.iconst 0, 1) := by decide +kernel
theorem dL_law_1371 : decode cL_law 1371 = .ok (.ireturn, 1) := by decide +kernel
theorem dL_law_1372 : decode cL_law 1372 = .ok (.goto 41, 3) := by decide +kernel
theorem dL_law_1375 : decode cL_law 1375 = .ok (.aload_n 1, 1) := by decide +kernel
theorem dL_law_1376 : decode cL_law 1376 = .ok (.aload_n 0, 1) := by decide +kernel
theorem dL_law_1377 : decode cL_law 1377 = .ok (.iload 4, 2) := by decide +kernel
theorem dL_law_1379 : decode cL_law 1379 = .ok (.iconst 1, 1) := by decide +kernel
theorem dL_law_1380 : decode cL_law 1380 = .ok (.iadd, 1) := by decide +kernel
theorem dL_law_1381 : decode cL_law 1381 = .ok (.iaload, 1) := by decide +kernel
theorem dL_law_1382 : decode cL_law 1382 = .ok (.invokevirtual 206, 3) := by decide +kernel
theorem dL_law_1385 : decode cL_law 1385 = .ok (.aload_n 2, 1) := by decide +kernel
theorem dL_law_1386 : decode cL_law 1386 = .ok (.aload_n 0, 1) := by decide +kernel
theorem dL_law_1387 : decode cL_law 1387 = .ok (.iload 4, 2) := by decide +kernel
theorem dL_law_1389 : decode cL_law 1389 = .ok (.iconst 1, 1) := by decide +kernel
theorem dL_law_1390 : decode cL_law 1390 = .ok (.iadd, 1) := by decide +kernel
theorem dL_law_1391 : decode cL_law 1391 = .ok (.iaload, 1) := by decide +kernel
theorem dL_law_1392 : decode cL_law 1392 = .ok (.invokevirtual 209, 3) := by decide +kernel
theorem dL_law_1395 : decode cL_law 1395 = .ok (.if_icmp .eq 18, 3) := by decide +kernel
theorem dL_law_1398 : decode cL_law 1398 = .ok (.iconst 0, 1) := by decide +kernel
theorem dL_law_1399 : decode cL_law 1399 = .ok (.ireturn, 1) := by decide +kernel
theorem dL_law_1400 : decode cL_law 1400 = .ok (.aload_n 1, 1) := by decide +kernel
theorem dL_law_1401 : decode cL_law 1401 = .ok (.invokevirtual 210, 3) := by decide +kernel
theorem dL_law_1404 : decode cL_law 1404 = .ok (.aload_n 2, 1) := by decide +kernel
theorem dL_law_1405 : decode cL_law 1405 = .ok (.invokevirtual 213, 3) := by decide +kernel
theorem dL_law_1408 : decode cL_law 1408 = .ok (.if_icmp .eq 5, 3) := by decide +kernel
theorem dL_law_1411 : decode cL_law 1411 = .ok (.iconst 0, 1) := by decide +kernel
theorem dL_law_1412 : decode cL_law 1412 = .ok (.ireturn, 1) := by decide +kernel
theorem dL_law_1413 : decode cL_law 1413 = .ok (.iinc 4 6, 3) := by decide +kernel
theorem dL_law_1416 : decode cL_law 1416 = .ok (.goto (-1393), 3) := by decide +kernel
theorem dL_law_1419 : decode cL_law 1419 = .ok (.iconst 1, 1) := by decide +kernel
theorem dL_law_1420 : decode cL_law 1420 = .ok (.ireturn, 1) := by decide +kernel
