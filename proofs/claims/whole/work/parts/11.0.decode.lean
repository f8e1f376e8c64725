theorem dX10_init_0 : decode cX10_init 0 = .ok (.aload_n 0, 1) := by decide +kernel
theorem dX10_init_1 : decode cX10_init 1 = .ok (.invokespecial 1, 3) := by decide +kernel
theorem dX10_init_4 : decode cX10_init 4 = .ok (.aload_n 0, 1) := by decide +kernel
theorem dX10_init_5 : decode cX10_init 5 = .ok (.sipush 926, 3) := by decide +kernel
theorem dX10_init_8 : decode cX10_init 8 = .ok (.newarray .int, 2) := by decide +kernel
theorem dX10_init_10 : decode cX10_init 10 = .ok (.putfield 7, 3) := by decide +kernel
theorem dX10_init_13 : decode cX10_init 13 = .ok (.aload_n 0, 1) := by decide +kernel
theorem dX10_init_14 : decode cX10_init 14 = .ok (.sipush 926, 3) := by decide +kernel
theorem dX10_init_17 : decode cX10_init 17 = .ok (.newarray .int, 2) := by decide +kernel
theorem dX10_init_19 : decode cX10_init 19 = .ok (.putfield 13, 3) := by decide +kernel
theorem dX10_init_22 : decode cX10_init 22 = .ok (.aload_n 0, 1) := by decide +kernel
theorem dX10_init_23 : decode cX10_init 23 = .ok (.sipush 926, 3) := by decide +kernel
theorem dX10_init_26 : decode cX10_init 26 = .ok (.newarray .int, 2) := by decide +kernel
theorem dX10_init_28 : decode cX10_init 28 = .ok (.putfield 16, 3) := by decide +kernel
theorem dX10_init_31 : decode cX10_init 31 = .ok (.aload_n 0, 1) := by decide +kernel
theorem dX10_init_32 : decode cX10_init 32 = .ok (.sipush 7408, 3) := by decide +kernel
theorem dX10_init_35 : decode cX10_init 35 = .ok (.newarray .int, 2) := by decide +kernel
theorem dX10_init_37 : decode cX10_init 37 = .ok (.putfield 19, 3) := by decide +kernel
theorem dX10_init_40 : decode cX10_init 40 = .ok (.aload_n 0, 1) := by decide +kernel
theorem dX10_init_41 : decode cX10_init 41 = .ok (.bipush 28, 2) := by decide +kernel
theorem dX10_init_43 : decode cX10_init 43 = .ok (.newarray .int, 2) := by decide +kernel
theorem dX10_init_45 : decode cX10_init 45 = .ok (.putfield 22, 3) := by decide +kernel
theorem dX10_init_48 : decode cX10_init 48 = .ok (.aload_n 0, 1) := by decide +kernel
theorem dX10_init_49 : decode cX10_init 49 = .ok (.iconst (-1), 1) := by decide +kernel
theorem dX10_init_50 : decode cX10_init 50 = .ok (.putfield 25, 3) := by decide +kernel
theorem dX10_init_53 : decode cX10_init 53 = .ok (.aload_n 0, 1) := by decide +kernel
theorem dX10_init_54 : decode cX10_init 54 = .ok (.bipush 60, 2) := by decide +kernel
theorem dX10_init_56 : decode cX10_init 56 = .ok (.newarray .int, 2) := by decide +kernel
theorem dX10_init_58 : decode cX10_init 58 = .ok (.putfield 29, 3) := by decide +kernel
theorem dX10_init_61 : decode cX10_init 61 = .ok (.aload_n 0, 1) := by decide +kernel
theorem dX10_init_62 : decode cX10_init 62 = .ok (.sipush 180, 3) := by decide +kernel
theorem dX10_init_65 : decode cX10_init 65 = .ok (.newarray .int, 2) := by decide +kernel
theorem dX10_init_67 : decode cX10_init 67 = .ok (.putfield 32, 3) := by decide +kernel
theorem dX10_init_70 : decode cX10_init 70 = .ok (.aload_n 0, 1) := by decide +kernel
theorem dX10_init_71 : decode cX10_init 71 = .ok (.getfield 7, 3) := by decide +kernel
theorem dX10_init_74 : decode cX10_init 74 = .ok (.iconst 0, 1) := by decide +kernel
theorem dX10_init_75 : decode cX10_init 75 = .ok (.sipush 1000, 3) := by decide +kernel
theorem dX10_init_78 : decode cX10_init 78 = .ok (.iastore, 1) := by decide +kernel
theorem dX10_init_79 : decode cX10_init 79 = .ok (.aload_n 0, 1) := by decide +kernel
theorem dX10_init_80 : decode cX10_init 80 = .ok (.getfield 7, 3) := by decide +kernel
theorem dX10_init_83 : decode cX10_init 83 = .ok (.iconst 1, 1) := by decide +kernel
theorem dX10_init_84 : decode cX10_init 84 = .ok (.bipush 15, 2) := by decide +kernel
theorem dX10_init_86 : decode cX10_init 86 = .ok (.iastore, 1) := by decide +kernel
theorem dX10_init_87 : decode cX10_init 87 = .ok (.aload_n 0, 1) := by decide +kernel
theorem dX10_init_88 : decode cX10_init 88 = .ok (.getfield 7, 3) := by decide +kernel
theorem dX10_init_91 : decode cX10_init 91 = .ok (.iconst 2, 1) := by decide +kernel
theorem dX10_init_92 : decode cX10_init 92 = .ok (.iconst 3, 1) := by decide +kernel
theorem dX10_init_93 : decode cX10_init 93 = .ok (.iastore, 1) := by decide +kernel
theorem dX10_init_94 : decode cX10_init 94 = .ok (.aload_n 0, 1) := by decide +kernel
theorem dX10_init_95 : decode cX10_init 95 = .ok (.getfield 7, 3) := by decide +kernel
theorem dX10_init_98 : decode cX10_init 98 = .ok (.iconst 3, 1) := by decide +kernel
theorem dX10_init_99 : decode cX10_init 99 = .ok (.iconst 2, 1) := by decide +kernel
theorem dX10_init_100 : decode cX10_init 100 = .ok (.iastore, 1) := by decide +kernel
theorem dX10_init_101 : decode cX10_init 101 = .ok (.aload_n 0, 1) := by decide +kernel
theorem dX10_init_102 : decode cX10_init 102 = .ok (.getfield 7, 3) := by decide +kernel
theorem dX10_init_105 : decode cX10_init 105 = .ok (.iconst 4, 1) := by decide +kernel
theorem dX10_init_106 : decode cX10_init 106 = .ok (.iconst 5, 1) := by decide +kernel
theorem dX10_init_107 : decode cX10_init 107 = .ok (.iastore, 1) := by decide +kernel
theorem dX10_init_108 : decode cX10_init 108 = .ok (.aload_n 0, 1) := by decide +kernel
theorem dX10_init_109 : decode cX10_init 109 = .ok (.getfield 7, 3) := by decide +kernel
theorem dX10_init_112 : decode cX10_init 112 = .ok (.iconst 5, 1) := by decide +kernel
theorem dX10_init_113 : decode cX10_init 113 = .ok (.iconst 5, 1) := by decide +kernel
theorem dX10_init_114 : decode cX10_init 114 = .ok (.iastore, 1) := by decide +kernel
theorem dX10_init_115 : decode cX10_init 115 = .ok (.aload_n 0, 1) := by decide +kernel
theorem dX10_init_116 : decode cX10_init 116 = .ok (.getfield 7, 3) := by decide +kernel
theorem dX10_init_119 : decode cX10_init 119 = .ok (.bipush 6, 2) := by decide +kernel
theorem dX10_init_121 : decode cX10_init 121 = .ok (.bipush 16, 2) := by decide +kernel
theorem dX10_init_123 : decode cX10_init 123 = .ok (.iastore, 1) := by decide +kernel
theorem dX10_init_124 : decode cX10_init 124 = .ok (.return_, 1) := by decide +kernel
theorem dX10_thrown_0 : decode cX10_thrown 0 = .ok (.aload_n 0, 1) := by decide +kernel
theorem dX10_thrown_1 : decode cX10_thrown 1 = .ok (.getfield 35, 3) := by decide +kernel
theorem dX10_thrown_4 : decode cX10_thrown 4 = .ok (.ireturn, 1) := by decide +kernel
theorem dX10_fails_0 : decode cX10_fails 0 = .ok (.aload_n 0, 1) := by decide +kernel
theorem dX10_fails_1 : decode cX10_fails 1 = .ok (.iload_n 1, 1) := by decide +kernel
theorem dX10_fails_2 : decode cX10_fails 2 = .ok (.putfield 35, 3) := by decide +kernel
theorem dX10_fails_5 : decode cX10_fails 5 = .ok (.iconst 0, 1) := by decide +kernel
theorem dX10_fails_6 : decode cX10_fails 6 = .ok (.ireturn, 1) := by decide +kernel
theorem dX10_refuses_0 : decode cX10_refuses 0 = .ok (.aload_n 0, 1) := by decide +kernel
theorem dX10_refuses_1 : decode cX10_refuses 1 = .ok (.iload_n 2, 1) := by decide +kernel
theorem dX10_refuses_2 : decode cX10_refuses 2 = .ok (.putfield 38, 3) := by decide +kernel
theorem dX10_refuses_5 : decode cX10_refuses 5 = .ok (.aload_n 0, 1) := by decide +kernel
theorem dX10_refuses_6 : decode cX10_refuses 6 = .ok (.iconst 0, 1) := by decide +kernel
theorem dX10_refuses_7 : decode cX10_refuses 7 = .ok (.putfield 41, 3) := by decide +kernel
theorem dX10_refuses_10 : decode cX10_refuses 10 = .ok (.aload_n 0, 1) := by decide +kernel
theorem dX10_refuses_11 : decode cX10_refuses 11 = .ok (.iload_n 1, 1) := by decide +kernel
theorem dX10_refuses_12 : decode cX10_refuses 12 = .ok (.invokevirtual 44, 3) := by decide +kernel
theorem dX10_refuses_15 : decode cX10_refuses 15 = .ok (.ireturn, 1) := by decide +kernel
theorem dX10_in_0 : decode cX10_in 0 = .ok (.iload_n 0, 1) := by decide +kernel
theorem dX10_in_1 : decode cX10_in 1 = .ok (.iload_n 1, 1) := by decide +kernel
theorem dX10_in_2 : decode cX10_in 2 = .ok (.if_icmp .lt 12, 3) := by decide +kernel
theorem dX10_in_5 : decode cX10_in 5 = .ok (.iload_n 0, 1) := by decide +kernel
theorem dX10_in_6 : decode cX10_in 6 = .ok (.iload_n 2, 1) := by decide +kernel
theorem dX10_in_7 : decode cX10_in 7 = .ok (.if_icmp .gt 7, 3) := by decide +kernel
theorem dX10_in_10 : decode cX10_in 10 = .ok (.iconst 1, 1) := by decide +kernel
theorem dX10_in_11 : decode cX10_in 11 = .ok (.goto 4, 3) := by decide +kernel
theorem dX10_in_14 : decode cX10_in 14 = .ok (.iconst 0, 1) := by decide +kernel
theorem dX10_in_15 : decode cX10_in 15 = .ok (.ireturn, 1) := by decide +kernel
theorem dX10_isTrack_0 : decode cX10_isTrack 0 = .ok (.iload_n 0, 1) := by decide +kernel
theorem dX10_isTrack_1 : decode cX10_isTrack 1 = .ok (.iconst 0, 1) := by decide +kernel
theorem dX10_isTrack_2 : decode cX10_isTrack 2 = .ok (.iconst 1, 1) := by decide +kernel
theorem dX10_isTrack_3 : decode cX10_isTrack 3 = .ok (.invokestatic 48, 3) := by decide +kernel
theorem dX10_isTrack_6 : decode cX10_isTrack 6 = .ok (.ireturn, 1) := by decide +kernel
theorem dX10_isCaption_0 : decode cX10_isCaption 0 = .ok (.iload_n 1, 1) := by decide +kernel
theorem dX10_isCaption_1 : decode cX10_isCaption 1 = .ok (.invokestatic 52, 3) := by decide +kernel
theorem dX10_isCaption_4 : decode cX10_isCaption 4 = .ok (.ifCond .eq 26, 3) := by decide +kernel
theorem dX10_isCaption_7 : decode cX10_isCaption 7 = .ok (.iload_n 2, 1) := by decide +kernel
theorem dX10_isCaption_8 : decode cX10_isCaption 8 = .ok (.iconst 0, 1) := by decide +kernel
theorem dX10_isCaption_9 : decode cX10_isCaption 9 = .ok (.aload_n 0, 1) := by decide +kernel
theorem dX10_isCaption_10 : decode cX10_isCaption 10 = .ok (.getfield 7, 3) := by decide +kernel
theorem dX10_isCaption_13 : decode cX10_isCaption 13 = .ok (.bipush 28, 2) := by decide +kernel
theorem dX10_isCaption_15 : decode cX10_isCaption 15 = .ok (.iload_n 1, 1) := by decide +kernel
theorem dX10_isCaption_16 : decode cX10_isCaption 16 = .ok (.iadd, 1) := by decide +kernel
theorem dX10_isCaption_17 : decode cX10_isCaption 17 = .ok (.iaload, 1) := by decide +kernel
theorem dX10_isCaption_18 : decode cX10_isCaption 18 = .ok (.iconst 1, 1) := by decide +kernel
theorem dX10_isCaption_19 : decode cX10_isCaption 19 = .ok (.isub, 1) := by decide +kernel
theorem dX10_isCaption_20 : decode cX10_isCaption 20 = .ok (.invokestatic 48, 3) := by decide +kernel
theorem dX10_isCaption_23 : decode cX10_isCaption 23 = .ok (.ifCond .eq 7, 3) := by decide +kernel
theorem dX10_isCaption_26 : decode cX10_isCaption 26 = .ok (.iconst 1, 1) := by decide +kernel
theorem dX10_isCaption_27 : decode cX10_isCaption 27 = .ok (.goto 4, 3) := by decide +kernel
theorem dX10_isCaption_30 : decode cX10_isCaption 30 = .ok (.iconst 0, 1) := by decide +kernel
theorem dX10_isCaption_31 : decode cX10_isCaption 31 = .ok (.ireturn, 1) := by decide +kernel
theorem dX10_at_0 : decode cX10_at 0 = .ok (.bipush 30, 2) := by decide +kernel
theorem dX10_at_2 : decode cX10_at 2 = .ok (.bipush 28, 2) := by decide +kernel
theorem dX10_at_4 : decode cX10_at 4 = .ok (.bipush 16, 2) := by decide +kernel
theorem dX10_at_6 : decode cX10_at 6 = .ok (.iload_n 0, 1) := by decide +kernel
theorem dX10_at_7 : decode cX10_at 7 = .ok (.imul, 1) := by decide +kernel
theorem dX10_at_8 : decode cX10_at 8 = .ok (.iload_n 1, 1) := by decide +kernel
theorem dX10_at_9 : decode cX10_at 9 = .ok (.iadd, 1) := by decide +kernel
theorem dX10_at_10 : decode cX10_at 10 = .ok (.imul, 1) := by decide +kernel
theorem dX10_at_11 : decode cX10_at 11 = .ok (.iadd, 1) := by decide +kernel
theorem dX10_at_12 : decode cX10_at 12 = .ok (.iload_n 2, 1) := by decide +kernel
theorem dX10_at_13 : decode cX10_at 13 = .ok (.iadd, 1) := by decide +kernel
theorem dX10_at_14 : decode cX10_at 14 = .ok (.ireturn, 1) := by decide +kernel
theorem dX10_first_0 : decode cX10_first 0 = .ok (.aload_n 0, 1) := by decide +kernel
theorem dX10_first_1 : decode cX10_first 1 = .ok (.getfield 7, 3) := by decide +kernel
theorem dX10_first_4 : decode cX10_first 4 = .ok (.iload_n 1, 1) := by decide +kernel
theorem dX10_first_5 : decode cX10_first 5 = .ok (.iload_n 2, 1) := by decide +kernel
theorem dX10_first_6 : decode cX10_first 6 = .ok (.iconst 0, 1) := by decide +kernel
theorem dX10_first_7 : decode cX10_first 7 = .ok (.invokestatic 56, 3) := by decide +kernel
theorem dX10_first_10 : decode cX10_first 10 = .ok (.iaload, 1) := by decide +kernel
theorem dX10_first_11 : decode cX10_first 11 = .ok (.ireturn, 1) := by decide +kernel
theorem dX10_end_0 : decode cX10_end 0 = .ok (.aload_n 0, 1) := by decide +kernel
theorem dX10_end_1 : decode cX10_end 1 = .ok (.getfield 7, 3) := by decide +kernel
theorem dX10_end_4 : decode cX10_end 4 = .ok (.iload_n 1, 1) := by decide +kernel
theorem dX10_end_5 : decode cX10_end 5 = .ok (.iload_n 2, 1) := by decide +kernel
theorem dX10_end_6 : decode cX10_end 6 = .ok (.iconst 1, 1) := by decide +kernel
theorem dX10_end_7 : decode cX10_end 7 = .ok (.invokestatic 56, 3) := by decide +kernel
theorem dX10_end_10 : decode cX10_end 10 = .ok (.iaload, 1) := by decide +kernel
theorem dX10_end_11 : decode cX10_end 11 = .ok (.ireturn, 1) := by decide +kernel
theorem dX10_copies_0 : decode cX10_copies 0 = .ok (.iconst 0, 1) := by decide +kernel
theorem dX10_copies_1 : decode cX10_copies 1 = .ok (.istore 4, 2) := by decide +kernel
theorem dX10_copies_3 : decode cX10_copies 3 = .ok (.iload 4, 2) := by decide +kernel
theorem dX10_copies_5 : decode cX10_copies 5 = .ok (.sipush 926, 3) := by decide +kernel
theorem dX10_copies_8 : decode cX10_copies 8 = .ok (.if_icmp .ge 21, 3) := by decide +kernel
theorem dX10_copies_11 : decode cX10_copies 11 = .ok (.aload_n 2, 1) := by decide +kernel
theorem dX10_copies_12 : decode cX10_copies 12 = .ok (.iload_n 3, 1) := by decide +kernel
theorem dX10_copies_13 : decode cX10_copies 13 = .ok (.iload 4, 2) := by decide +kernel
theorem dX10_copies_15 : decode cX10_copies 15 = .ok (.iadd, 1) := by decide +kernel
theorem dX10_copies_16 : decode cX10_copies 16 = .ok (.aload_n 0, 1) := by decide +kernel
theorem dX10_copies_17 : decode cX10_copies 17 = .ok (.iload_n 1, 1) := by decide +kernel
theorem dX10_copies_18 : decode cX10_copies 18 = .ok (.iload 4, 2) := by decide +kernel
theorem dX10_copies_20 : decode cX10_copies 20 = .ok (.iadd, 1) := by decide +kernel
theorem dX10_copies_21 : decode cX10_copies 21 = .ok (.iaload, 1) := by decide +kernel
theorem dX10_copies_22 : decode cX10_copies 22 = .ok (.iastore, 1) := by decide +kernel
theorem dX10_copies_23 : decode cX10_copies 23 = .ok (.iinc 4 1, 3) := by decide +kernel
theorem dX10_copies_26 : decode cX10_copies 26 = .ok (.goto (-23), 3) := by decide +kernel
theorem dX10_copies_29 : decode cX10_copies 29 = .ok (.return_, 1) := by decide +kernel
theorem dX10_changes_0 : decode cX10_changes 0 = .ok (.aload_n 0, 1) := by decide +kernel
theorem dX10_changes_1 : decode cX10_changes 1 = .ok (.getfield 60, 3) := by decide +kernel
theorem dX10_changes_4 : decode cX10_changes 4 = .ok (.bipush 8, 2) := by decide +kernel
theorem dX10_changes_6 : decode cX10_changes 6 = .ok (.if_icmp .ne 44, 3) := by decide +kernel
theorem dX10_changes_9 : decode cX10_changes 9 = .ok (.iconst 0, 1) := by decide +kernel
theorem dX10_changes_10 : decode cX10_changes 10 = .ok (.istore_n 2, 1) := by decide +kernel
theorem dX10_changes_11 : decode cX10_changes 11 = .ok (.iload_n 2, 1) := by decide +kernel
theorem dX10_changes_12 : decode cX10_changes 12 = .ok (.sipush 6482, 3) := by decide +kernel
theorem dX10_changes_15 : decode cX10_changes 15 = .ok (.if_icmp .ge 25, 3) := by decide +kernel
theorem dX10_changes_18 : decode cX10_changes 18 = .ok (.aload_n 0, 1) := by decide +kernel
theorem dX10_changes_19 : decode cX10_changes 19 = .ok (.getfield 19, 3) := by decide +kernel
theorem dX10_changes_22 : decode cX10_changes 22 = .ok (.iload_n 2, 1) := by decide +kernel
theorem dX10_changes_23 : decode cX10_changes 23 = .ok (.aload_n 0, 1) := by decide +kernel
theorem dX10_changes_24 : decode cX10_changes 24 = .ok (.getfield 19, 3) := by decide +kernel
theorem dX10_changes_27 : decode cX10_changes 27 = .ok (.iload_n 2, 1) := by decide +kernel
theorem dX10_changes_28 : decode cX10_changes 28 = .ok (.sipush 926, 3) := by decide +kernel
theorem dX10_changes_31 : decode cX10_changes 31 = .ok (.iadd, 1) := by decide +kernel
theorem dX10_changes_32 : decode cX10_changes 32 = .ok (.iaload, 1) := by decide +kernel
theorem dX10_changes_33 : decode cX10_changes 33 = .ok (.iastore, 1) := by decide +kernel
theorem dX10_changes_34 : decode cX10_changes 34 = .ok (.iinc 2 1, 3) := by decide +kernel
theorem dX10_changes_37 : decode cX10_changes 37 = .ok (.goto (-26), 3) := by decide +kernel
theorem dX10_changes_40 : decode cX10_changes 40 = .ok (.aload_n 0, 1) := by decide +kernel
theorem dX10_changes_41 : decode cX10_changes 41 = .ok (.dup, 1) := by decide +kernel
theorem dX10_changes_42 : decode cX10_changes 42 = .ok (.getfield 60, 3) := by decide +kernel
theorem dX10_changes_45 : decode cX10_changes 45 = .ok (.iconst 1, 1) := by decide +kernel
theorem dX10_changes_46 : decode cX10_changes 46 = .ok (.isub, 1) := by decide +kernel
theorem dX10_changes_47 : decode cX10_changes 47 = .ok (.putfield 60, 3) := by decide +kernel
theorem dX10_changes_50 : decode cX10_changes 50 = .ok (.aload_n 1, 1) := by decide +kernel
theorem dX10_changes_51 : decode cX10_changes 51 = .ok (.iconst 0, 1) := by decide +kernel
theorem dX10_changes_52 : decode cX10_changes 52 = .ok (.aload_n 0, 1) := by decide +kernel
theorem dX10_changes_53 : decode cX10_changes 53 = .ok (.getfield 19, 3) := by decide +kernel
theorem dX10_changes_56 : decode cX10_changes 56 = .ok (.sipush 926, 3) := by decide +kernel
theorem dX10_changes_59 : decode cX10_changes 59 = .ok (.aload_n 0, 1) := by decide +kernel
theorem dX10_changes_60 : decode cX10_changes 60 = .ok (.getfield 60, 3) := by decide +kernel
theorem dX10_changes_63 : decode cX10_changes 63 = .ok (.imul, 1) := by decide +kernel
theorem dX10_changes_64 : decode cX10_changes 64 = .ok (.invokestatic 63, 3) := by decide +kernel
theorem dX10_changes_67 : decode cX10_changes 67 = .ok (.aload_n 0, 1) := by decide +kernel
theorem dX10_changes_68 : decode cX10_changes 68 = .ok (.dup, 1) := by decide +kernel
theorem dX10_changes_69 : decode cX10_changes 69 = .ok (.getfield 60, 3) := by decide +kernel
theorem dX10_changes_72 : decode cX10_changes 72 = .ok (.iconst 1, 1) := by decide +kernel
theorem dX10_changes_73 : decode cX10_changes 73 = .ok (.iadd, 1) := by decide +kernel
theorem dX10_changes_74 : decode cX10_changes 74 = .ok (.putfield 60, 3) := by decide +kernel
theorem dX10_changes_77 : decode cX10_changes 77 = .ok (.return_, 1) := by decide +kernel
theorem dX10_undo_0 : decode cX10_undo 0 = .ok (.aload_n 0, 1) := by decide +kernel
theorem dX10_undo_1 : decode cX10_undo 1 = .ok (.aload_n 0, 1) := by decide +kernel
theorem dX10_undo_2 : decode cX10_undo 2 = .ok (.getfield 60, 3) := by decide +kernel
theorem dX10_undo_5 : decode cX10_undo 5 = .ok (.ifCond .ne 7, 3) := by decide +kernel
theorem dX10_undo_8 : decode cX10_undo 8 = .ok (.iconst 1, 1) := by decide +kernel
theorem dX10_undo_9 : decode cX10_undo 9 = .ok (.goto 4, 3) := by decide +kernel
theorem dX10_undo_12 : decode cX10_undo 12 = .ok (.iconst 0, 1) := by decide +kernel
theorem dX10_undo_13 : decode cX10_undo 13 = .ok (.putfield 35, 3) := by decide +kernel
theorem dX10_undo_16 : decode cX10_undo 16 = .ok (.aload_n 0, 1) := by decide +kernel
theorem dX10_undo_17 : decode cX10_undo 17 = .ok (.getfield 35, 3) := by decide +kernel
theorem dX10_undo_20 : decode cX10_undo 20 = .ok (.ifCond .le 5, 3) := by decide +kernel
theorem dX10_undo_23 : decode cX10_undo 23 = .ok (.iconst 0, 1) := by decide +kernel
theorem dX10_undo_24 : decode cX10_undo 24 = .ok (.ireturn, 1) := by decide +kernel
theorem dX10_undo_25 : decode cX10_undo 25 = .ok (.aload_n 0, 1) := by decide +kernel
theorem dX10_undo_26 : decode cX10_undo 26 = .ok (.dup, 1) := by decide +kernel
theorem dX10_undo_27 : decode cX10_undo 27 = .ok (.getfield 60, 3) := by decide +kernel
theorem dX10_undo_30 : decode cX10_undo 30 = .ok (.iconst 1, 1) := by decide +kernel
theorem dX10_undo_31 : decode cX10_undo 31 = .ok (.isub, 1) := by decide +kernel
theorem dX10_undo_32 : decode cX10_undo 32 = .ok (.putfield 60, 3) := by decide +kernel
theorem dX10_undo_35 : decode cX10_undo 35 = .ok (.aload_n 0, 1) := by decide +kernel
theorem dX10_undo_36 : decode cX10_undo 36 = .ok (.getfield 19, 3) := by decide +kernel
theorem dX10_undo_39 : decode cX10_undo 39 = .ok (.sipush 926, 3) := by decide +kernel
theorem dX10_undo_42 : decode cX10_undo 42 = .ok (.aload_n 0, 1) := by decide +kernel
theorem dX10_undo_43 : decode cX10_undo 43 = .ok (.getfield 60, 3) := by decide +kernel
theorem dX10_undo_46 : decode cX10_undo 46 = .ok (.imul, 1) := by decide +kernel
theorem dX10_undo_47 : decode cX10_undo 47 = .ok (.aload_n 0, 1) := by decide +kernel
theorem dX10_undo_48 : decode cX10_undo 48 = .ok (.getfield 7, 3) := by decide +kernel
theorem dX10_undo_51 : decode cX10_undo 51 = .ok (.iconst 0, 1) := by decide +kernel
theorem dX10_undo_52 : decode cX10_undo 52 = .ok (.invokestatic 63, 3) := by decide +kernel
theorem dX10_undo_55 : decode cX10_undo 55 = .ok (.aload_n 0, 1) := by decide +kernel
theorem dX10_undo_56 : decode cX10_undo 56 = .ok (.getfield 60, 3) := by decide +kernel
theorem dX10_undo_59 : decode cX10_undo 59 = .ok (.ireturn, 1) := by decide +kernel
theorem dX10_saveSnapshot_0 : decode cX10_saveSnapshot 0 = .ok (.aload_n 0, 1) := by decide +kernel
theorem dX10_saveSnapshot_1 : decode cX10_saveSnapshot 1 = .ok (.iconst 0, 1) := by decide +kernel
theorem dX10_saveSnapshot_2 : decode cX10_saveSnapshot 2 = .ok (.putfield 35, 3) := by decide +kernel
theorem dX10_saveSnapshot_5 : decode cX10_saveSnapshot 5 = .ok (.aload_n 0, 1) := by decide +kernel
theorem dX10_saveSnapshot_6 : decode cX10_saveSnapshot 6 = .ok (.iconst 1, 1) := by decide +kernel
theorem dX10_saveSnapshot_7 : decode cX10_saveSnapshot 7 = .ok (.putfield 67, 3) := by decide +kernel
theorem dX10_saveSnapshot_10 : decode cX10_saveSnapshot 10 = .ok (.aload_n 0, 1) := by decide +kernel
theorem dX10_saveSnapshot_11 : decode cX10_saveSnapshot 11 = .ok (.getfield 7, 3) := by decide +kernel
theorem dX10_saveSnapshot_14 : decode cX10_saveSnapshot 14 = .ok (.iconst 0, 1) := by decide +kernel
theorem dX10_saveSnapshot_15 : decode cX10_saveSnapshot 15 = .ok (.aload_n 0, 1) := by decide +kernel
theorem dX10_saveSnapshot_16 : decode cX10_saveSnapshot 16 = .ok (.getfield 13, 3) := by decide +kernel
theorem dX10_saveSnapshot_19 : decode cX10_saveSnapshot 19 = .ok (.iconst 0, 1) := by decide +kernel
theorem dX10_saveSnapshot_20 : decode cX10_saveSnapshot 20 = .ok (.invokestatic 63, 3) := by decide +kernel
theorem dX10_saveSnapshot_23 : decode cX10_saveSnapshot 23 = .ok (.aload_n 0, 1) := by decide +kernel
theorem dX10_saveSnapshot_24 : decode cX10_saveSnapshot 24 = .ok (.getfield 7, 3) := by decide +kernel
theorem dX10_saveSnapshot_27 : decode cX10_saveSnapshot 27 = .ok (.bipush 28, 2) := by decide +kernel
theorem dX10_saveSnapshot_29 : decode cX10_saveSnapshot 29 = .ok (.iaload, 1) := by decide +kernel
theorem dX10_saveSnapshot_30 : decode cX10_saveSnapshot 30 = .ok (.aload_n 0, 1) := by decide +kernel
theorem dX10_saveSnapshot_31 : decode cX10_saveSnapshot 31 = .ok (.getfield 7, 3) := by decide +kernel
theorem dX10_saveSnapshot_34 : decode cX10_saveSnapshot 34 = .ok (.bipush 29, 2) := by decide +kernel
theorem dX10_saveSnapshot_36 : decode cX10_saveSnapshot 36 = .ok (.iaload, 1) := by decide +kernel
theorem dX10_saveSnapshot_37 : decode cX10_saveSnapshot 37 = .ok (.iadd, 1) := by decide +kernel
theorem dX10_saveSnapshot_38 : decode cX10_saveSnapshot 38 = .ok (.ireturn, 1) := by decide +kernel
theorem dX10_restoreSnapshot_0 : decode cX10_restoreSnapshot 0 = .ok (.aload_n 0, 1) := by decide +kernel
theorem dX10_restoreSnapshot_1 : decode cX10_restoreSnapshot 1 = .ok (.aload_n 0, 1) := by decide +kernel
theorem dX10_restoreSnapshot_2 : decode cX10_restoreSnapshot 2 = .ok (.getfield 67, 3) := by decide +kernel
theorem dX10_restoreSnapshot_5 : decode cX10_restoreSnapshot 5 = .ok (.ifCond .eq 7, 3) := by decide +kernel
theorem dX10_restoreSnapshot_8 : decode cX10_restoreSnapshot 8 = .ok (.iconst 0, 1) := by decide +kernel
theorem dX10_restoreSnapshot_9 : decode cX10_restoreSnapshot 9 = .ok (.goto 4, 3) := by decide +kernel
theorem dX10_restoreSnapshot_12 : decode cX10_restoreSnapshot 12 = .ok (.iconst 1, 1) := by decide +kernel
theorem dX10_restoreSnapshot_13 : decode cX10_restoreSnapshot 13 = .ok (.putfield 35, 3) := by decide +kernel
theorem dX10_restoreSnapshot_16 : decode cX10_restoreSnapshot 16 = .ok (.aload_n 0, 1) := by decide +kernel
theorem dX10_restoreSnapshot_17 : decode cX10_restoreSnapshot 17 = .ok (.getfield 67, 3) := by decide +kernel
theorem dX10_restoreSnapshot_20 : decode cX10_restoreSnapshot 20 = .ok (.ifCond .ne 5, 3) := by decide +kernel
theorem dX10_restoreSnapshot_23 : decode cX10_restoreSnapshot 23 = .ok (.iconst 0, 1) := by decide +kernel
theorem dX10_restoreSnapshot_24 : decode cX10_restoreSnapshot 24 = .ok (.ireturn, 1) := by decide +kernel
theorem dX10_restoreSnapshot_25 : decode cX10_restoreSnapshot 25 = .ok (.aload_n 0, 1) := by decide +kernel
theorem dX10_restoreSnapshot_26 : decode cX10_restoreSnapshot 26 = .ok (.getfield 13, 3) := by decide +kernel
theorem dX10_restoreSnapshot_29 : decode cX10_restoreSnapshot 29 = .ok (.iconst 0, 1) := by decide +kernel
theorem dX10_restoreSnapshot_30 : decode cX10_restoreSnapshot 30 = .ok (.aload_n 0, 1) := by decide +kernel
theorem dX10_restoreSnapshot_31 : decode cX10_restoreSnapshot 31 = .ok (.getfield 7, 3) := by decide +kernel
theorem dX10_restoreSnapshot_34 : decode cX10_restoreSnapshot 34 = .ok (.iconst 0, 1) := by decide +kernel
theorem dX10_restoreSnapshot_35 : decode cX10_restoreSnapshot 35 = .ok (.invokestatic 63, 3) := by decide +kernel
theorem dX10_restoreSnapshot_38 : decode cX10_restoreSnapshot 38 = .ok (.aload_n 0, 1) := by decide +kernel
theorem dX10_restoreSnapshot_39 : decode cX10_restoreSnapshot 39 = .ok (.iconst 0, 1) := by decide +kernel
theorem dX10_restoreSnapshot_40 : decode cX10_restoreSnapshot 40 = .ok (.putfield 60, 3) := by decide +kernel
theorem dX10_restoreSnapshot_43 : decode cX10_restoreSnapshot 43 = .ok (.aload_n 0, 1) := by decide +kernel
theorem dX10_restoreSnapshot_44 : decode cX10_restoreSnapshot 44 = .ok (.getfield 7, 3) := by decide +kernel
theorem dX10_restoreSnapshot_47 : decode cX10_restoreSnapshot 47 = .ok (.bipush 28, 2) := by decide +kernel
theorem dX10_restoreSnapshot_49 : decode cX10_restoreSnapshot 49 = .ok (.iaload, 1) := by decide +kernel
theorem dX10_restoreSnapshot_50 : decode cX10_restoreSnapshot 50 = .ok (.aload_n 0, 1) := by decide +kernel
theorem dX10_restoreSnapshot_51 : decode cX10_restoreSnapshot 51 = .ok (.getfield 7, 3) := by decide +kernel
theorem dX10_restoreSnapshot_54 : decode cX10_restoreSnapshot 54 = .ok (.bipush 29, 2) := by decide +kernel
theorem dX10_restoreSnapshot_56 : decode cX10_restoreSnapshot 56 = .ok (.iaload, 1) := by decide +kernel
theorem dX10_restoreSnapshot_57 : decode cX10_restoreSnapshot 57 = .ok (.iadd, 1) := by decide +kernel
theorem dX10_restoreSnapshot_58 : decode cX10_restoreSnapshot 58 = .ok (.ireturn, 1) := by decide +kernel
theorem dX10_film_0 : decode cX10_film 0 = .ok (.aload_n 0, 1) := by decide +kernel
theorem dX10_film_1 : decode cX10_film 1 = .ok (.iload_n 1, 1) := by decide +kernel
theorem dX10_film_2 : decode cX10_film 2 = .ok (.bipush 100, 2) := by decide +kernel
theorem dX10_film_4 : decode cX10_film 4 = .ok (.sipush 9999, 3) := by decide +kernel
theorem dX10_film_7 : decode cX10_film 7 = .ok (.invokestatic 48, 3) := by decide +kernel
theorem dX10_film_10 : decode cX10_film 10 = .ok (.ifCond .eq 7, 3) := by decide +kernel
theorem dX10_film_13 : decode cX10_film 13 = .ok (.iconst 0, 1) := by decide +kernel
theorem dX10_film_14 : decode cX10_film 14 = .ok (.goto 4, 3) := by decide +kernel
theorem dX10_film_17 : decode cX10_film 17 = .ok (.iconst 1, 1) := by decide +kernel
theorem dX10_film_18 : decode cX10_film 18 = .ok (.putfield 35, 3) := by decide +kernel
theorem dX10_film_21 : decode cX10_film 21 = .ok (.aload_n 0, 1) := by decide +kernel
theorem dX10_film_22 : decode cX10_film 22 = .ok (.getfield 35, 3) := by decide +kernel
theorem dX10_film_25 : decode cX10_film 25 = .ok (.ifCond .le 5, 3) := by decide +kernel
theorem dX10_film_28 : decode cX10_film 28 = .ok (.iconst 0, 1) := by decide +kernel
theorem dX10_film_29 : decode cX10_film 29 = .ok (.ireturn, 1) := by decide +kernel
theorem dX10_film_30 : decode cX10_film 30 = .ok (.aload_n 0, 1) := by decide +kernel
theorem dX10_film_31 : decode cX10_film 31 = .ok (.getfield 7, 3) := by decide +kernel
theorem dX10_film_34 : decode cX10_film 34 = .ok (.bipush 7, 2) := by decide +kernel
theorem dX10_film_36 : decode cX10_film 36 = .ok (.iaload, 1) := by decide +kernel
theorem dX10_film_37 : decode cX10_film 37 = .ok (.ifCond .eq 24, 3) := by decide +kernel
theorem dX10_film_40 : decode cX10_film 40 = .ok (.aload_n 0, 1) := by decide +kernel
theorem dX10_film_41 : decode cX10_film 41 = .ok (.getfield 7, 3) := by decide +kernel
theorem dX10_film_44 : decode cX10_film 44 = .ok (.bipush 8, 2) := by decide +kernel
theorem dX10_film_46 : decode cX10_film 46 = .ok (.aload_n 0, 1) := by decide +kernel
theorem dX10_film_47 : decode cX10_film 47 = .ok (.getfield 7, 3) := by decide +kernel
theorem dX10_film_50 : decode cX10_film 50 = .ok (.bipush 7, 2) := by decide +kernel
theorem dX10_film_52 : decode cX10_film 52 = .ok (.iaload, 1) := by decide +kernel
theorem dX10_film_53 : decode cX10_film 53 = .ok (.iadd, 1) := by decide +kernel
theorem dX10_film_54 : decode cX10_film 54 = .ok (.iconst 1, 1) := by decide +kernel
theorem dX10_film_55 : decode cX10_film 55 = .ok (.isub, 1) := by decide +kernel
theorem dX10_film_56 : decode cX10_film 56 = .ok (.iaload, 1) := by decide +kernel
theorem dX10_film_57 : decode cX10_film 57 = .ok (.iload_n 1, 1) := by decide +kernel
theorem dX10_film_58 : decode cX10_film 58 = .ok (.if_icmp .ge 7, 3) := by decide +kernel
theorem dX10_film_61 : decode cX10_film 61 = .ok (.iconst 1, 1) := by decide +kernel
theorem dX10_film_62 : decode cX10_film 62 = .ok (.goto 4, 3) := by decide +kernel
theorem dX10_film_65 : decode cX10_film 65 = .ok (.iconst 0, 1) := by decide +kernel
theorem dX10_film_66 : decode cX10_film 66 = .ok (.istore_n 2, 1) := by decide +kernel
theorem dX10_film_67 : decode cX10_film 67 = .ok (.iconst 0, 1) := by decide +kernel
theorem dX10_film_68 : decode cX10_film 68 = .ok (.istore_n 3, 1) := by decide +kernel
theorem dX10_film_69 : decode cX10_film 69 = .ok (.iload_n 3, 1) := by decide +kernel
theorem dX10_film_70 : decode cX10_film 70 = .ok (.iconst 2, 1) := by decide +kernel
theorem dX10_film_71 : decode cX10_film 71 = .ok (.if_icmp .ge 51, 3) := by decide +kernel
theorem dX10_film_74 : decode cX10_film 74 = .ok (.iload_n 2, 1) := by decide +kernel
theorem dX10_film_75 : decode cX10_film 75 = .ok (.ifCond .eq 39, 3) := by decide +kernel
theorem dX10_film_78 : decode cX10_film 78 = .ok (.aload_n 0, 1) := by decide +kernel
theorem dX10_film_79 : decode cX10_film 79 = .ok (.getfield 7, 3) := by decide +kernel
theorem dX10_film_82 : decode cX10_film 82 = .ok (.bipush 28, 2) := by decide +kernel
theorem dX10_film_84 : decode cX10_film 84 = .ok (.iload_n 3, 1) := by decide +kernel
theorem dX10_film_85 : decode cX10_film 85 = .ok (.iadd, 1) := by decide +kernel
theorem dX10_film_86 : decode cX10_film 86 = .ok (.iaload, 1) := by decide +kernel
theorem dX10_film_87 : decode cX10_film 87 = .ok (.ifCond .eq 23, 3) := by decide +kernel
theorem dX10_film_90 : decode cX10_film 90 = .ok (.aload_n 0, 1) := by decide +kernel
theorem dX10_film_91 : decode cX10_film 91 = .ok (.iload_n 3, 1) := by decide +kernel
theorem dX10_film_92 : decode cX10_film 92 = .ok (.aload_n 0, 1) := by decide +kernel
theorem dX10_film_93 : decode cX10_film 93 = .ok (.getfield 7, 3) := by decide +kernel
theorem dX10_film_96 : decode cX10_film 96 = .ok (.bipush 28, 2) := by decide +kernel
theorem dX10_film_98 : decode cX10_film 98 = .ok (.iload_n 3, 1) := by decide +kernel
theorem dX10_film_99 : decode cX10_film 99 = .ok (.iadd, 1) := by decide +kernel
theorem dX10_film_100 : decode cX10_film 100 = .ok (.iaload, 1) := by decide +kernel
theorem dX10_film_101 : decode cX10_film 101 = .ok (.iconst 1, 1) := by decide +kernel
theorem dX10_film_102 : decode cX10_film 102 = .ok (.isub, 1) := by decide +kernel
theorem dX10_film_103 : decode cX10_film 103 = .ok (.invokevirtual 71, 3) := by decide +kernel
theorem dX10_film_106 : decode cX10_film 106 = .ok (.iload_n 1, 1) := by decide +kernel
theorem dX10_film_107 : decode cX10_film 107 = .ok (.if_icmp .gt 7, 3) := by decide +kernel
theorem dX10_film_110 : decode cX10_film 110 = .ok (.iconst 1, 1) := by decide +kernel
theorem dX10_film_111 : decode cX10_film 111 = .ok (.goto 4, 3) := by decide +kernel
theorem dX10_film_114 : decode cX10_film 114 = .ok (.iconst 0, 1) := by decide +kernel
theorem dX10_film_115 : decode cX10_film 115 = .ok (.istore_n 2, 1) := by decide +kernel
theorem dX10_film_116 : decode cX10_film 116 = .ok (.iinc 3 1, 3) := by decide +kernel
theorem dX10_film_119 : decode cX10_film 119 = .ok (.goto (-50), 3) := by decide +kernel
theorem dX10_film_122 : decode cX10_film 122 = .ok (.iload_n 2, 1) := by decide +kernel
theorem dX10_film_123 : decode cX10_film 123 = .ok (.ifCond .ne 10, 3) := by decide +kernel
theorem dX10_film_126 : decode cX10_film 126 = .ok (.aload_n 0, 1) := by decide +kernel
theorem dX10_film_127 : decode cX10_film 127 = .ok (.iconst 2, 1) := by decide +kernel
theorem dX10_film_128 : decode cX10_film 128 = .ok (.iconst 1, 1) := by decide +kernel
theorem dX10_film_129 : decode cX10_film 129 = .ok (.invokevirtual 75, 3) := by decide +kernel
theorem dX10_film_132 : decode cX10_film 132 = .ok (.ireturn, 1) := by decide +kernel
theorem dX10_film_133 : decode cX10_film 133 = .ok (.aload_n 0, 1) := by decide +kernel
theorem dX10_film_134 : decode cX10_film 134 = .ok (.aload_n 0, 1) := by decide +kernel
theorem dX10_film_135 : decode cX10_film 135 = .ok (.getfield 7, 3) := by decide +kernel
theorem dX10_film_138 : decode cX10_film 138 = .ok (.invokevirtual 78, 3) := by decide +kernel
theorem dX10_film_141 : decode cX10_film 141 = .ok (.aload_n 0, 1) := by decide +kernel
theorem dX10_film_142 : decode cX10_film 142 = .ok (.getfield 7, 3) := by decide +kernel
theorem dX10_film_145 : decode cX10_film 145 = .ok (.iconst 0, 1) := by decide +kernel
theorem dX10_film_146 : decode cX10_film 146 = .ok (.iaload, 1) := by decide +kernel
theorem dX10_film_147 : decode cX10_film 147 = .ok (.istore_n 3, 1) := by decide +kernel
theorem dX10_film_148 : decode cX10_film 148 = .ok (.aload_n 0, 1) := by decide +kernel
theorem dX10_film_149 : decode cX10_film 149 = .ok (.getfield 7, 3) := by decide +kernel
theorem dX10_film_152 : decode cX10_film 152 = .ok (.iconst 0, 1) := by decide +kernel
theorem dX10_film_153 : decode cX10_film 153 = .ok (.iload_n 1, 1) := by decide +kernel
theorem dX10_film_154 : decode cX10_film 154 = .ok (.iastore, 1) := by decide +kernel
theorem dX10_film_155 : decode cX10_film 155 = .ok (.iload_n 3, 1) := by decide +kernel
theorem dX10_film_156 : decode cX10_film 156 = .ok (.ireturn, 1) := by decide +kernel
theorem dX10_maySet_0 : decode cX10_maySet 0 = .ok (.iload_n 0, 1) := by decide +kernel
theorem dX10_maySet_1 : decode cX10_maySet 1 = .ok (.tableswitch 67 0 4 #[35, 43, 51, 59, 59], 35) := by decide +kernel
theorem dX10_maySet_36 : decode cX10_maySet 36 = .ok (.iload_n 1, 1) := by decide +kernel
theorem dX10_maySet_37 : decode cX10_maySet 37 = .ok (.iconst 5, 1) := by decide +kernel
theorem dX10_maySet_38 : decode cX10_maySet 38 = .ok (.bipush 30, 2) := by decide +kernel
theorem dX10_maySet_40 : decode cX10_maySet 40 = .ok (.invokestatic 48, 3) := by decide +kernel
theorem dX10_maySet_43 : decode cX10_maySet 43 = .ok (.ireturn, 1) := by decide +kernel
theorem dX10_maySet_44 : decode cX10_maySet 44 = .ok (.iload_n 1, 1) := by decide +kernel
theorem dX10_maySet_45 : decode cX10_maySet 45 = .ok (.iconst 0, 1) := by decide +kernel
theorem dX10_maySet_46 : decode cX10_maySet 46 = .ok (.bipush 12, 2) := by decide +kernel
theorem dX10_maySet_48 : decode cX10_maySet 48 = .ok (.invokestatic 48, 3) := by decide +kernel
theorem dX10_maySet_51 : decode cX10_maySet 51 = .ok (.ireturn, 1) := by decide +kernel
theorem dX10_maySet_52 : decode cX10_maySet 52 = .ok (.iload_n 1, 1) := by decide +kernel
theorem dX10_maySet_53 : decode cX10_maySet 53 = .ok (.iconst 0, 1) := by decide +kernel
theorem dX10_maySet_54 : decode cX10_maySet 54 = .ok (.bipush 9, 2) := by decide +kernel
theorem dX10_maySet_56 : decode cX10_maySet 56 = .ok (.invokestatic 48, 3) := by decide +kernel
theorem dX10_maySet_59 : decode cX10_maySet 59 = .ok (.ireturn, 1) := by decide +kernel
theorem dX10_maySet_60 : decode cX10_maySet 60 = .ok (.iload_n 1, 1) := by decide +kernel
theorem dX10_maySet_61 : decode cX10_maySet 61 = .ok (.iconst 0, 1) := by decide +kernel
theorem dX10_maySet_62 : decode cX10_maySet 62 = .ok (.bipush 25, 2) := by decide +kernel
theorem dX10_maySet_64 : decode cX10_maySet 64 = .ok (.invokestatic 48, 3) := by decide +kernel
theorem dX10_maySet_67 : decode cX10_maySet 67 = .ok (.ireturn, 1) := by decide +kernel
theorem dX10_maySet_68 : decode cX10_maySet 68 = .ok (.iload_n 0, 1) := by decide +kernel
theorem dX10_maySet_69 : decode cX10_maySet 69 = .ok (.iconst 5, 1) := by decide +kernel
theorem dX10_maySet_70 : decode cX10_maySet 70 = .ok (.if_icmp .ne 17, 3) := by decide +kernel
theorem dX10_maySet_73 : decode cX10_maySet 73 = .ok (.iload_n 1, 1) := by decide +kernel
theorem dX10_maySet_74 : decode cX10_maySet 74 = .ok (.iconst 5, 1) := by decide +kernel
theorem dX10_maySet_75 : decode cX10_maySet 75 = .ok (.bipush 24, 2) := by decide +kernel
theorem dX10_maySet_77 : decode cX10_maySet 77 = .ok (.invokestatic 48, 3) := by decide +kernel
theorem dX10_maySet_80 : decode cX10_maySet 80 = .ok (.ifCond .eq 7, 3) := by decide +kernel
theorem dX10_maySet_83 : decode cX10_maySet 83 = .ok (.iconst 1, 1) := by decide +kernel
theorem dX10_maySet_84 : decode cX10_maySet 84 = .ok (.goto 4, 3) := by decide +kernel
theorem dX10_maySet_87 : decode cX10_maySet 87 = .ok (.iconst 0, 1) := by decide +kernel
theorem dX10_maySet_88 : decode cX10_maySet 88 = .ok (.ireturn, 1) := by decide +kernel
theorem dX10_set_0 : decode cX10_set 0 = .ok (.aload_n 0, 1) := by decide +kernel
theorem dX10_set_1 : decode cX10_set 1 = .ok (.iload_n 1, 1) := by decide +kernel
theorem dX10_set_2 : decode cX10_set 2 = .ok (.iload_n 2, 1) := by decide +kernel
theorem dX10_set_3 : decode cX10_set 3 = .ok (.invokestatic 82, 3) := by decide +kernel
theorem dX10_set_6 : decode cX10_set 6 = .ok (.ifCond .eq 7, 3) := by decide +kernel
theorem dX10_set_9 : decode cX10_set 9 = .ok (.iconst 0, 1) := by decide +kernel
theorem dX10_set_10 : decode cX10_set 10 = .ok (.goto 4, 3) := by decide +kernel
theorem dX10_set_13 : decode cX10_set 13 = .ok (.iconst 1, 1) := by decide +kernel
theorem dX10_set_14 : decode cX10_set 14 = .ok (.putfield 35, 3) := by decide +kernel
theorem dX10_set_17 : decode cX10_set 17 = .ok (.aload_n 0, 1) := by decide +kernel
theorem dX10_set_18 : decode cX10_set 18 = .ok (.getfield 35, 3) := by decide +kernel
theorem dX10_set_21 : decode cX10_set 21 = .ok (.ifCond .le 5, 3) := by decide +kernel
theorem dX10_set_24 : decode cX10_set 24 = .ok (.iconst 0, 1) := by decide +kernel
theorem dX10_set_25 : decode cX10_set 25 = .ok (.ireturn, 1) := by decide +kernel
theorem dX10_set_26 : decode cX10_set 26 = .ok (.aload_n 0, 1) := by decide +kernel
theorem dX10_set_27 : decode cX10_set 27 = .ok (.aload_n 0, 1) := by decide +kernel
theorem dX10_set_28 : decode cX10_set 28 = .ok (.getfield 7, 3) := by decide +kernel
theorem dX10_set_31 : decode cX10_set 31 = .ok (.invokevirtual 78, 3) := by decide +kernel
theorem dX10_set_34 : decode cX10_set 34 = .ok (.aload_n 0, 1) := by decide +kernel
theorem dX10_set_35 : decode cX10_set 35 = .ok (.getfield 7, 3) := by decide +kernel
theorem dX10_set_38 : decode cX10_set 38 = .ok (.iconst 1, 1) := by decide +kernel
theorem dX10_set_39 : decode cX10_set 39 = .ok (.iload_n 1, 1) := by decide +kernel
theorem dX10_set_40 : decode cX10_set 40 = .ok (.iadd, 1) := by decide +kernel
theorem dX10_set_41 : decode cX10_set 41 = .ok (.iaload, 1) := by decide +kernel
theorem dX10_set_42 : decode cX10_set 42 = .ok (.istore_n 3, 1) := by decide +kernel
theorem dX10_set_43 : decode cX10_set 43 = .ok (.aload_n 0, 1) := by decide +kernel
theorem dX10_set_44 : decode cX10_set 44 = .ok (.getfield 7, 3) := by decide +kernel
theorem dX10_set_47 : decode cX10_set 47 = .ok (.iconst 1, 1) := by decide +kernel
theorem dX10_set_48 : decode cX10_set 48 = .ok (.iload_n 1, 1) := by decide +kernel
theorem dX10_set_49 : decode cX10_set 49 = .ok (.iadd, 1) := by decide +kernel
theorem dX10_set_50 : decode cX10_set 50 = .ok (.iload_n 2, 1) := by decide +kernel
theorem dX10_set_51 : decode cX10_set 51 = .ok (.iastore, 1) := by decide +kernel
theorem dX10_set_52 : decode cX10_set 52 = .ok (.iload_n 3, 1) := by decide +kernel
theorem dX10_set_53 : decode cX10_set 53 = .ok (.ireturn, 1) := by decide +kernel
theorem dX10_isCut_0 : decode cX10_isCut 0 = .ok (.iconst 0, 1) := by decide +kernel
theorem dX10_isCut_1 : decode cX10_isCut 1 = .ok (.istore_n 2, 1) := by decide +kernel
theorem dX10_isCut_2 : decode cX10_isCut 2 = .ok (.iload_n 2, 1) := by decide +kernel
theorem dX10_isCut_3 : decode cX10_isCut 3 = .ok (.aload_n 0, 1) := by decide +kernel
theorem dX10_isCut_4 : decode cX10_isCut 4 = .ok (.getfield 7, 3) := by decide +kernel
theorem dX10_isCut_7 : decode cX10_isCut 7 = .ok (.bipush 7, 2) := by decide +kernel
theorem dX10_isCut_9 : decode cX10_isCut 9 = .ok (.iaload, 1) := by decide +kernel
theorem dX10_isCut_10 : decode cX10_isCut 10 = .ok (.if_icmp .ge 24, 3) := by decide +kernel
theorem dX10_isCut_13 : decode cX10_isCut 13 = .ok (.aload_n 0, 1) := by decide +kernel
theorem dX10_isCut_14 : decode cX10_isCut 14 = .ok (.getfield 7, 3) := by decide +kernel
theorem dX10_isCut_17 : decode cX10_isCut 17 = .ok (.bipush 8, 2) := by decide +kernel
theorem dX10_isCut_19 : decode cX10_isCut 19 = .ok (.iload_n 2, 1) := by decide +kernel
theorem dX10_isCut_20 : decode cX10_isCut 20 = .ok (.iadd, 1) := by decide +kernel
theorem dX10_isCut_21 : decode cX10_isCut 21 = .ok (.iaload, 1) := by decide +kernel
theorem dX10_isCut_22 : decode cX10_isCut 22 = .ok (.iload_n 1, 1) := by decide +kernel
theorem dX10_isCut_23 : decode cX10_isCut 23 = .ok (.if_icmp .ne 5, 3) := by decide +kernel
theorem dX10_isCut_26 : decode cX10_isCut 26 = .ok (.iconst 1, 1) := by decide +kernel
theorem dX10_isCut_27 : decode cX10_isCut 27 = .ok (.ireturn, 1) := by decide +kernel
theorem dX10_isCut_28 : decode cX10_isCut 28 = .ok (.iinc 2 1, 3) := by decide +kernel
theorem dX10_isCut_31 : decode cX10_isCut 31 = .ok (.goto (-29), 3) := by decide +kernel
theorem dX10_isCut_34 : decode cX10_isCut 34 = .ok (.iconst 0, 1) := by decide +kernel
theorem dX10_isCut_35 : decode cX10_isCut 35 = .ok (.ireturn, 1) := by decide +kernel
theorem dX10_againstCut_0 : decode cX10_againstCut 0 = .ok (.iload_n 1, 1) := by decide +kernel
theorem dX10_againstCut_1 : decode cX10_againstCut 1 = .ok (.iconst 1, 1) := by decide +kernel
theorem dX10_againstCut_2 : decode cX10_againstCut 2 = .ok (.aload_n 0, 1) := by decide +kernel
theorem dX10_againstCut_3 : decode cX10_againstCut 3 = .ok (.getfield 7, 3) := by decide +kernel
theorem dX10_againstCut_6 : decode cX10_againstCut 6 = .ok (.iconst 0, 1) := by decide +kernel
theorem dX10_againstCut_7 : decode cX10_againstCut 7 = .ok (.iaload, 1) := by decide +kernel
theorem dX10_againstCut_8 : decode cX10_againstCut 8 = .ok (.iconst 1, 1) := by decide +kernel
theorem dX10_againstCut_9 : decode cX10_againstCut 9 = .ok (.isub, 1) := by decide +kernel
theorem dX10_againstCut_10 : decode cX10_againstCut 10 = .ok (.invokestatic 48, 3) := by decide +kernel
theorem dX10_againstCut_13 : decode cX10_againstCut 13 = .ok (.ifCond .ne 7, 3) := by decide +kernel
theorem dX10_againstCut_16 : decode cX10_againstCut 16 = .ok (.iconst 1, 1) := by decide +kernel
theorem dX10_againstCut_17 : decode cX10_againstCut 17 = .ok (.goto 33, 3) := by decide +kernel
theorem dX10_againstCut_20 : decode cX10_againstCut 20 = .ok (.iload_n 2, 1) := by decide +kernel
theorem dX10_againstCut_21 : decode cX10_againstCut 21 = .ok (.ifCond .eq 28, 3) := by decide +kernel
theorem dX10_againstCut_24 : decode cX10_againstCut 24 = .ok (.aload_n 0, 1) := by decide +kernel
theorem dX10_againstCut_25 : decode cX10_againstCut 25 = .ok (.getfield 7, 3) := by decide +kernel
theorem dX10_againstCut_28 : decode cX10_againstCut 28 = .ok (.bipush 7, 2) := by decide +kernel
theorem dX10_againstCut_30 : decode cX10_againstCut 30 = .ok (.iaload, 1) := by decide +kernel
theorem dX10_againstCut_31 : decode cX10_againstCut 31 = .ok (.bipush 20, 2) := by decide +kernel
theorem dX10_againstCut_33 : decode cX10_againstCut 33 = .ok (.if_icmp .ne 16, 3) := by decide +kernel
theorem dX10_againstCut_36 : decode cX10_againstCut 36 = .ok (.aload_n 0, 1) := by decide +kernel
theorem dX10_againstCut_37 : decode cX10_againstCut 37 = .ok (.iload_n 1, 1) := by decide +kernel
theorem dX10_againstCut_38 : decode cX10_againstCut 38 = .ok (.invokevirtual 86, 3) := by decide +kernel
theorem dX10_againstCut_41 : decode cX10_againstCut 41 = .ok (.ifCond .ne 8, 3) := by decide +kernel
theorem dX10_againstCut_44 : decode cX10_againstCut 44 = .ok (.bipush 8, 2) := by decide +kernel
theorem dX10_againstCut_46 : decode cX10_againstCut 46 = .ok (.goto 4, 3) := by decide +kernel
theorem dX10_againstCut_49 : decode cX10_againstCut 49 = .ok (.iconst 0, 1) := by decide +kernel
theorem dX10_againstCut_50 : decode cX10_againstCut 50 = .ok (.ireturn, 1) := by decide +kernel
theorem dX10_cuts_0 : decode cX10_cuts 0 = .ok (.aload_n 0, 1) := by decide +kernel
theorem dX10_cuts_1 : decode cX10_cuts 1 = .ok (.iload_n 1, 1) := by decide +kernel
theorem dX10_cuts_2 : decode cX10_cuts 2 = .ok (.invokevirtual 86, 3) := by decide +kernel
theorem dX10_cuts_5 : decode cX10_cuts 5 = .ok (.iload_n 2, 1) := by decide +kernel
theorem dX10_cuts_6 : decode cX10_cuts 6 = .ok (.if_icmp .ne 4, 3) := by decide +kernel
theorem dX10_cuts_9 : decode cX10_cuts 9 = .ok (.return_, 1) := by decide +kernel
theorem dX10_cuts_10 : decode cX10_cuts 10 = .ok (.iload_n 2, 1) := by decide +kernel
theorem dX10_cuts_11 : decode cX10_cuts 11 = .ok (.ifCond .eq 78, 3) := by decide +kernel
theorem dX10_cuts_14 : decode cX10_cuts 14 = .ok (.aload_n 0, 1) := by decide +kernel
theorem dX10_cuts_15 : decode cX10_cuts 15 = .ok (.getfield 7, 3) := by decide +kernel
theorem dX10_cuts_18 : decode cX10_cuts 18 = .ok (.bipush 7, 2) := by decide +kernel
theorem dX10_cuts_20 : decode cX10_cuts 20 = .ok (.iaload, 1) := by decide +kernel
theorem dX10_cuts_21 : decode cX10_cuts 21 = .ok (.istore_n 3, 1) := by decide +kernel
theorem dX10_cuts_22 : decode cX10_cuts 22 = .ok (.iload_n 3, 1) := by decide +kernel
theorem dX10_cuts_23 : decode cX10_cuts 23 = .ok (.ifCond .le 44, 3) := by decide +kernel
theorem dX10_cuts_26 : decode cX10_cuts 26 = .ok (.aload_n 0, 1) := by decide +kernel
theorem dX10_cuts_27 : decode cX10_cuts 27 = .ok (.getfield 7, 3) := by decide +kernel
theorem dX10_cuts_30 : decode cX10_cuts 30 = .ok (.bipush 8, 2) := by decide +kernel
theorem dX10_cuts_32 : decode cX10_cuts 32 = .ok (.iload_n 3, 1) := by decide +kernel
theorem dX10_cuts_33 : decode cX10_cuts 33 = .ok (.iadd, 1) := by decide +kernel
theorem dX10_cuts_34 : decode cX10_cuts 34 = .ok (.iconst 1, 1) := by decide +kernel
theorem dX10_cuts_35 : decode cX10_cuts 35 = .ok (.isub, 1) := by decide +kernel
theorem dX10_cuts_36 : decode cX10_cuts 36 = .ok (.iaload, 1) := by decide +kernel
theorem dX10_cuts_37 : decode cX10_cuts 37 = .ok (.iload_n 1, 1) := by decide +kernel
theorem dX10_cuts_38 : decode cX10_cuts 38 = .ok (.if_icmp .le 29, 3) := by decide +kernel
theorem dX10_cuts_41 : decode cX10_cuts 41 = .ok (.aload_n 0, 1) := by decide +kernel
theorem dX10_cuts_42 : decode cX10_cuts 42 = .ok (.getfield 7, 3) := by decide +kernel
theorem dX10_cuts_45 : decode cX10_cuts 45 = .ok (.bipush 8, 2) := by decide +kernel
theorem dX10_cuts_47 : decode cX10_cuts 47 = .ok (.iload_n 3, 1) := by decide +kernel
theorem dX10_cuts_48 : decode cX10_cuts 48 = .ok (.iadd, 1) := by decide +kernel
theorem dX10_cuts_49 : decode cX10_cuts 49 = .ok (.aload_n 0, 1) := by decide +kernel
theorem dX10_cuts_50 : decode cX10_cuts 50 = .ok (.getfield 7, 3) := by decide +kernel
theorem dX10_cuts_53 : decode cX10_cuts 53 = .ok (.bipush 8, 2) := by decide +kernel
theorem dX10_cuts_55 : decode cX10_cuts 55 = .ok (.iload_n 3, 1) := by decide +kernel
theorem dX10_cuts_56 : decode cX10_cuts 56 = .ok (.iadd, 1) := by decide +kernel
theorem dX10_cuts_57 : decode cX10_cuts 57 = .ok (.iconst 1, 1) := by decide +kernel
theorem dX10_cuts_58 : decode cX10_cuts 58 = .ok (.isub, 1) := by decide +kernel
theorem dX10_cuts_59 : decode cX10_cuts 59 = .ok (.iaload, 1) := by decide +kernel
theorem dX10_cuts_60 : decode cX10_cuts 60 = .ok (.iastore, 1) := by decide +kernel
theorem dX10_cuts_61 : decode cX10_cuts 61 = .ok (.iinc 3 (-1), 3) := by decide +kernel
theorem dX10_cuts_64 : decode cX10_cuts 64 = .ok (.goto (-42), 3) := by decide +kernel
theorem dX10_cuts_67 : decode cX10_cuts 67 = .ok (.aload_n 0, 1) := by decide +kernel
theorem dX10_cuts_68 : decode cX10_cuts 68 = .ok (.getfield 7, 3) := by decide +kernel
theorem dX10_cuts_71 : decode cX10_cuts 71 = .ok (.bipush 8, 2) := by decide +kernel
theorem dX10_cuts_73 : decode cX10_cuts 73 = .ok (.iload_n 3, 1) := by decide +kernel
theorem dX10_cuts_74 : decode cX10_cuts 74 = .ok (.iadd, 1) := by decide +kernel
theorem dX10_cuts_75 : decode cX10_cuts 75 = .ok (.iload_n 1, 1) := by decide +kernel
theorem dX10_cuts_76 : decode cX10_cuts 76 = .ok (.iastore, 1) := by decide +kernel
theorem dX10_cuts_77 : decode cX10_cuts 77 = .ok (.aload_n 0, 1) := by decide +kernel
theorem dX10_cuts_78 : decode cX10_cuts 78 = .ok (.getfield 7, 3) := by decide +kernel
theorem dX10_cuts_81 : decode cX10_cuts 81 = .ok (.bipush 7, 2) := by decide +kernel
theorem dX10_cuts_83 : decode cX10_cuts 83 = .ok (.dup2, 1) := by decide +kernel
theorem dX10_cuts_84 : decode cX10_cuts 84 = .ok (.iaload, 1) := by decide +kernel
theorem dX10_cuts_85 : decode cX10_cuts 85 = .ok (.iconst 1, 1) := by decide +kernel
theorem dX10_cuts_86 : decode cX10_cuts 86 = .ok (.iadd, 1) := by decide +kernel
theorem dX10_cuts_87 : decode cX10_cuts 87 = .ok (.iastore, 1) := by decide +kernel
theorem dX10_cuts_88 : decode cX10_cuts 88 = .ok (.return_, 1) := by decide +kernel
theorem dX10_cuts_89 : decode cX10_cuts 89 = .ok (.iconst 0, 1) := by decide +kernel
theorem dX10_cuts_90 : decode cX10_cuts 90 = .ok (.istore_n 3, 1) := by decide +kernel
theorem dX10_cuts_91 : decode cX10_cuts 91 = .ok (.aload_n 0, 1) := by decide +kernel
theorem dX10_cuts_92 : decode cX10_cuts 92 = .ok (.getfield 7, 3) := by decide +kernel
theorem dX10_cuts_95 : decode cX10_cuts 95 = .ok (.bipush 8, 2) := by decide +kernel
theorem dX10_cuts_97 : decode cX10_cuts 97 = .ok (.iload_n 3, 1) := by decide +kernel
theorem dX10_cuts_98 : decode cX10_cuts 98 = .ok (.iadd, 1) := by decide +kernel
theorem dX10_cuts_99 : decode cX10_cuts 99 = .ok (.iaload, 1) := by decide +kernel
theorem dX10_cuts_100 : decode cX10_cuts 100 = .ok (.iload_n 1, 1) := by decide +kernel
theorem dX10_cuts_101 : decode cX10_cuts 101 = .ok (.if_icmp .eq 9, 3) := by decide +kernel
theorem dX10_cuts_104 : decode cX10_cuts 104 = .ok (.iinc 3 1, 3) := by decide +kernel
theorem dX10_cuts_107 : decode cX10_cuts 107 = .ok (.goto (-16), 3) := by decide +kernel
theorem dX10_cuts_110 : decode cX10_cuts 110 = .ok (.aload_n 0, 1) := by decide +kernel
theorem dX10_cuts_111 : decode cX10_cuts 111 = .ok (.getfield 7, 3) := by decide +kernel
theorem dX10_cuts_114 : decode cX10_cuts 114 = .ok (.bipush 7, 2) := by decide +kernel
theorem dX10_cuts_116 : decode cX10_cuts 116 = .ok (.dup2, 1) := by decide +kernel
theorem dX10_cuts_117 : decode cX10_cuts 117 = .ok (.iaload, 1) := by decide +kernel
theorem dX10_cuts_118 : decode cX10_cuts 118 = .ok (.iconst 1, 1) := by decide +kernel
theorem dX10_cuts_119 : decode cX10_cuts 119 = .ok (.isub, 1) := by decide +kernel
theorem dX10_cuts_120 : decode cX10_cuts 120 = .ok (.iastore, 1) := by decide +kernel
theorem dX10_cuts_121 : decode cX10_cuts 121 = .ok (.iload_n 3, 1) := by decide +kernel
theorem dX10_cuts_122 : decode cX10_cuts 122 = .ok (.aload_n 0, 1) := by decide +kernel
theorem dX10_cuts_123 : decode cX10_cuts 123 = .ok (.getfield 7, 3) := by decide +kernel
theorem dX10_cuts_126 : decode cX10_cuts 126 = .ok (.bipush 7, 2) := by decide +kernel
theorem dX10_cuts_128 : decode cX10_cuts 128 = .ok (.iaload, 1) := by decide +kernel
theorem dX10_cuts_129 : decode cX10_cuts 129 = .ok (.if_icmp .ge 29, 3) := by decide +kernel
theorem dX10_cuts_132 : decode cX10_cuts 132 = .ok (.aload_n 0, 1) := by decide +kernel
theorem dX10_cuts_133 : decode cX10_cuts 133 = .ok (.getfield 7, 3) := by decide +kernel
theorem dX10_cuts_136 : decode cX10_cuts 136 = .ok (.bipush 8, 2) := by decide +kernel
theorem dX10_cuts_138 : decode cX10_cuts 138 = .ok (.iload_n 3, 1) := by decide +kernel
theorem dX10_cuts_139 : decode cX10_cuts 139 = .ok (.iadd, 1) := by decide +kernel
theorem dX10_cuts_140 : decode cX10_cuts 140 = .ok (.aload_n 0, 1) := by decide +kernel
theorem dX10_cuts_141 : decode cX10_cuts 141 = .ok (.getfield 7, 3) := by decide +kernel
theorem dX10_cuts_144 : decode cX10_cuts 144 = .ok (.bipush 8, 2) := by decide +kernel
theorem dX10_cuts_146 : decode cX10_cuts 146 = .ok (.iload_n 3, 1) := by decide +kernel
theorem dX10_cuts_147 : decode cX10_cuts 147 = .ok (.iadd, 1) := by decide +kernel
theorem dX10_cuts_148 : decode cX10_cuts 148 = .ok (.iconst 1, 1) := by decide +kernel
theorem dX10_cuts_149 : decode cX10_cuts 149 = .ok (.iadd, 1) := by decide +kernel
theorem dX10_cuts_150 : decode cX10_cuts 150 = .ok (.iaload, 1) := by decide +kernel
theorem dX10_cuts_151 : decode cX10_cuts 151 = .ok (.iastore, 1) := by decide +kernel
theorem dX10_cuts_152 : decode cX10_cuts 152 = .ok (.iinc 3 1, 3) := by decide +kernel
theorem dX10_cuts_155 : decode cX10_cuts 155 = .ok (.goto (-34), 3) := by decide +kernel
theorem dX10_cuts_158 : decode cX10_cuts 158 = .ok (.return_, 1) := by decide +kernel
theorem dX10_cut_0 : decode cX10_cut 0 = .ok (.aload_n 0, 1) := by decide +kernel
theorem dX10_cut_1 : decode cX10_cut 1 = .ok (.iload_n 1, 1) := by decide +kernel
theorem dX10_cut_2 : decode cX10_cut 2 = .ok (.iload_n 2, 1) := by decide +kernel
theorem dX10_cut_3 : decode cX10_cut 3 = .ok (.invokevirtual 89, 3) := by decide +kernel
theorem dX10_cut_6 : decode cX10_cut 6 = .ok (.istore_n 3, 1) := by decide +kernel
theorem dX10_cut_7 : decode cX10_cut 7 = .ok (.aload_n 0, 1) := by decide +kernel
theorem dX10_cut_8 : decode cX10_cut 8 = .ok (.iload_n 3, 1) := by decide +kernel
theorem dX10_cut_9 : decode cX10_cut 9 = .ok (.iconst 1, 1) := by decide +kernel
theorem dX10_cut_10 : decode cX10_cut 10 = .ok (.if_icmp .ne 7, 3) := by decide +kernel
theorem dX10_cut_13 : decode cX10_cut 13 = .ok (.iconst 1, 1) := by decide +kernel
theorem dX10_cut_14 : decode cX10_cut 14 = .ok (.goto 14, 3) := by decide +kernel
theorem dX10_cut_17 : decode cX10_cut 17 = .ok (.iload_n 3, 1) := by decide +kernel
theorem dX10_cut_18 : decode cX10_cut 18 = .ok (.bipush 8, 2) := by decide +kernel
theorem dX10_cut_20 : decode cX10_cut 20 = .ok (.if_icmp .ne 7, 3) := by decide +kernel
theorem dX10_cut_23 : decode cX10_cut 23 = .ok (.iconst 2, 1) := by decide +kernel
theorem dX10_cut_24 : decode cX10_cut 24 = .ok (.goto 4, 3) := by decide +kernel
theorem dX10_cut_27 : decode cX10_cut 27 = .ok (.iconst 0, 1) := by decide +kernel
theorem dX10_cut_28 : decode cX10_cut 28 = .ok (.putfield 35, 3) := by decide +kernel
theorem dX10_cut_31 : decode cX10_cut 31 = .ok (.aload_n 0, 1) := by decide +kernel
theorem dX10_cut_32 : decode cX10_cut 32 = .ok (.getfield 35, 3) := by decide +kernel
theorem dX10_cut_35 : decode cX10_cut 35 = .ok (.ifCond .le 5, 3) := by decide +kernel
theorem dX10_cut_38 : decode cX10_cut 38 = .ok (.iconst 0, 1) := by decide +kernel
theorem dX10_cut_39 : decode cX10_cut 39 = .ok (.ireturn, 1) := by decide +kernel
theorem dX10_cut_40 : decode cX10_cut 40 = .ok (.aload_n 0, 1) := by decide +kernel
theorem dX10_cut_41 : decode cX10_cut 41 = .ok (.aload_n 0, 1) := by decide +kernel
theorem dX10_cut_42 : decode cX10_cut 42 = .ok (.getfield 7, 3) := by decide +kernel
theorem dX10_cut_45 : decode cX10_cut 45 = .ok (.invokevirtual 78, 3) := by decide +kernel
theorem dX10_cut_48 : decode cX10_cut 48 = .ok (.aload_n 0, 1) := by decide +kernel
theorem dX10_cut_49 : decode cX10_cut 49 = .ok (.iload_n 1, 1) := by decide +kernel
theorem dX10_cut_50 : decode cX10_cut 50 = .ok (.iload_n 2, 1) := by decide +kernel
theorem dX10_cut_51 : decode cX10_cut 51 = .ok (.invokevirtual 93, 3) := by decide +kernel
theorem dX10_cut_54 : decode cX10_cut 54 = .ok (.aload_n 0, 1) := by decide +kernel
theorem dX10_cut_55 : decode cX10_cut 55 = .ok (.getfield 7, 3) := by decide +kernel
theorem dX10_cut_58 : decode cX10_cut 58 = .ok (.bipush 7, 2) := by decide +kernel
theorem dX10_cut_60 : decode cX10_cut 60 = .ok (.iaload, 1) := by decide +kernel
theorem dX10_cut_61 : decode cX10_cut 61 = .ok (.ireturn, 1) := by decide +kernel
theorem dX10_shot_0 : decode cX10_shot 0 = .ok (.aload_n 0, 1) := by decide +kernel
theorem dX10_shot_1 : decode cX10_shot 1 = .ok (.iload_n 1, 1) := by decide +kernel
theorem dX10_shot_2 : decode cX10_shot 2 = .ok (.iconst 0, 1) := by decide +kernel
theorem dX10_shot_3 : decode cX10_shot 3 = .ok (.aload_n 0, 1) := by decide +kernel
theorem dX10_shot_4 : decode cX10_shot 4 = .ok (.getfield 7, 3) := by decide +kernel
theorem dX10_shot_7 : decode cX10_shot 7 = .ok (.iconst 0, 1) := by decide +kernel
theorem dX10_shot_8 : decode cX10_shot 8 = .ok (.iaload, 1) := by decide +kernel
theorem dX10_shot_9 : decode cX10_shot 9 = .ok (.iconst 1, 1) := by decide +kernel
theorem dX10_shot_10 : decode cX10_shot 10 = .ok (.isub, 1) := by decide +kernel
theorem dX10_shot_11 : decode cX10_shot 11 = .ok (.invokestatic 48, 3) := by decide +kernel
theorem dX10_shot_14 : decode cX10_shot 14 = .ok (.ifCond .eq 7, 3) := by decide +kernel
theorem dX10_shot_17 : decode cX10_shot 17 = .ok (.iconst 0, 1) := by decide +kernel
theorem dX10_shot_18 : decode cX10_shot 18 = .ok (.goto 4, 3) := by decide +kernel
theorem dX10_shot_21 : decode cX10_shot 21 = .ok (.iconst 1, 1) := by decide +kernel
theorem dX10_shot_22 : decode cX10_shot 22 = .ok (.putfield 35, 3) := by decide +kernel
theorem dX10_shot_25 : decode cX10_shot 25 = .ok (.iconst 0, 1) := by decide +kernel
theorem dX10_shot_26 : decode cX10_shot 26 = .ok (.istore_n 2, 1) := by decide +kernel
theorem dX10_shot_27 : decode cX10_shot 27 = .ok (.iconst 0, 1) := by decide +kernel
theorem dX10_shot_28 : decode cX10_shot 28 = .ok (.istore_n 3, 1) := by decide +kernel
theorem dX10_shot_29 : decode cX10_shot 29 = .ok (.iload_n 3, 1) := by decide +kernel
theorem dX10_shot_30 : decode cX10_shot 30 = .ok (.aload_n 0, 1) := by decide +kernel
theorem dX10_shot_31 : decode cX10_shot 31 = .ok (.getfield 7, 3) := by decide +kernel
theorem dX10_shot_34 : decode cX10_shot 34 = .ok (.bipush 7, 2) := by decide +kernel
theorem dX10_shot_36 : decode cX10_shot 36 = .ok (.iaload, 1) := by decide +kernel
theorem dX10_shot_37 : decode cX10_shot 37 = .ok (.if_icmp .ge 37, 3) := by decide +kernel
theorem dX10_shot_40 : decode cX10_shot 40 = .ok (.aload_n 0, 1) := by decide +kernel
theorem dX10_shot_41 : decode cX10_shot 41 = .ok (.getfield 35, 3) := by decide +kernel
theorem dX10_shot_44 : decode cX10_shot 44 = .ok (.ifCond .ne 30, 3) := by decide +kernel
theorem dX10_shot_47 : decode cX10_shot 47 = .ok (.iload_n 2, 1) := by decide +kernel
theorem dX10_shot_48 : decode cX10_shot 48 = .ok (.aload_n 0, 1) := by decide +kernel
theorem dX10_shot_49 : decode cX10_shot 49 = .ok (.getfield 7, 3) := by decide +kernel
theorem dX10_shot_52 : decode cX10_shot 52 = .ok (.bipush 8, 2) := by decide +kernel
theorem dX10_shot_54 : decode cX10_shot 54 = .ok (.iload_n 3, 1) := by decide +kernel
theorem dX10_shot_55 : decode cX10_shot 55 = .ok (.iadd, 1) := by decide +kernel
theorem dX10_shot_56 : decode cX10_shot 56 = .ok (.iaload, 1) := by decide +kernel
theorem dX10_shot_57 : decode cX10_shot 57 = .ok (.iload_n 1, 1) := by decide +kernel
theorem dX10_shot_58 : decode cX10_shot 58 = .ok (.if_icmp .gt 7, 3) := by decide +kernel
theorem dX10_shot_61 : decode cX10_shot 61 = .ok (.iconst 1, 1) := by decide +kernel
theorem dX10_shot_62 : decode cX10_shot 62 = .ok (.goto 4, 3) := by decide +kernel
theorem dX10_shot_65 : decode cX10_shot 65 = .ok (.iconst 0, 1) := by decide +kernel
theorem dX10_shot_66 : decode cX10_shot 66 = .ok (.iadd, 1) := by decide +kernel
theorem dX10_shot_67 : decode cX10_shot 67 = .ok (.istore_n 2, 1) := by decide +kernel
theorem dX10_shot_68 : decode cX10_shot 68 = .ok (.iinc 3 1, 3) := by decide +kernel
theorem dX10_shot_71 : decode cX10_shot 71 = .ok (.goto (-42), 3) := by decide +kernel
theorem dX10_shot_74 : decode cX10_shot 74 = .ok (.iload_n 2, 1) := by decide +kernel
theorem dX10_shot_75 : decode cX10_shot 75 = .ok (.ireturn, 1) := by decide +kernel
theorem dX10_isLoose_0 : decode cX10_isLoose 0 = .ok (.iconst 0, 1) := by decide +kernel
theorem dX10_isLoose_1 : decode cX10_isLoose 1 = .ok (.istore_n 2, 1) := by decide +kernel
theorem dX10_isLoose_2 : decode cX10_isLoose 2 = .ok (.iconst 0, 1) := by decide +kernel
theorem dX10_isLoose_3 : decode cX10_isLoose 3 = .ok (.istore_n 3, 1) := by decide +kernel
theorem dX10_isLoose_4 : decode cX10_isLoose 4 = .ok (.iload_n 3, 1) := by decide +kernel
theorem dX10_isLoose_5 : decode cX10_isLoose 5 = .ok (.aload_n 0, 1) := by decide +kernel
theorem dX10_isLoose_6 : decode cX10_isLoose 6 = .ok (.getfield 7, 3) := by decide +kernel
theorem dX10_isLoose_9 : decode cX10_isLoose 9 = .ok (.bipush 7, 2) := by decide +kernel
theorem dX10_isLoose_11 : decode cX10_isLoose 11 = .ok (.iaload, 1) := by decide +kernel
theorem dX10_isLoose_12 : decode cX10_isLoose 12 = .ok (.if_icmp .ge 49, 3) := by decide +kernel
theorem dX10_isLoose_15 : decode cX10_isLoose 15 = .ok (.iload_n 2, 1) := by decide +kernel
theorem dX10_isLoose_16 : decode cX10_isLoose 16 = .ok (.ifCond .ne 33, 3) := by decide +kernel
theorem dX10_isLoose_19 : decode cX10_isLoose 19 = .ok (.aload_n 0, 1) := by decide +kernel
theorem dX10_isLoose_20 : decode cX10_isLoose 20 = .ok (.getfield 7, 3) := by decide +kernel
theorem dX10_isLoose_23 : decode cX10_isLoose 23 = .ok (.bipush 8, 2) := by decide +kernel
theorem dX10_isLoose_25 : decode cX10_isLoose 25 = .ok (.iload_n 3, 1) := by decide +kernel
theorem dX10_isLoose_26 : decode cX10_isLoose 26 = .ok (.iadd, 1) := by decide +kernel
theorem dX10_isLoose_27 : decode cX10_isLoose 27 = .ok (.iaload, 1) := by decide +kernel
theorem dX10_isLoose_28 : decode cX10_isLoose 28 = .ok (.iload_n 1, 1) := by decide +kernel
theorem dX10_isLoose_29 : decode cX10_isLoose 29 = .ok (.isub, 1) := by decide +kernel
theorem dX10_isLoose_30 : decode cX10_isLoose 30 = .ok (.aload_n 0, 1) := by decide +kernel
theorem dX10_isLoose_31 : decode cX10_isLoose 31 = .ok (.getfield 7, 3) := by decide +kernel
theorem dX10_isLoose_34 : decode cX10_isLoose 34 = .ok (.iconst 2, 1) := by decide +kernel
theorem dX10_isLoose_35 : decode cX10_isLoose 35 = .ok (.iaload, 1) := by decide +kernel
theorem dX10_isLoose_36 : decode cX10_isLoose 36 = .ok (.ineg, 1) := by decide +kernel
theorem dX10_isLoose_37 : decode cX10_isLoose 37 = .ok (.aload_n 0, 1) := by decide +kernel
theorem dX10_isLoose_38 : decode cX10_isLoose 38 = .ok (.getfield 7, 3) := by decide +kernel
theorem dX10_isLoose_41 : decode cX10_isLoose 41 = .ok (.iconst 2, 1) := by decide +kernel
theorem dX10_isLoose_42 : decode cX10_isLoose 42 = .ok (.iaload, 1) := by decide +kernel
theorem dX10_isLoose_43 : decode cX10_isLoose 43 = .ok (.invokestatic 48, 3) := by decide +kernel
theorem dX10_isLoose_46 : decode cX10_isLoose 46 = .ok (.ifCond .eq 7, 3) := by decide +kernel
theorem dX10_isLoose_49 : decode cX10_isLoose 49 = .ok (.iconst 1, 1) := by decide +kernel
theorem dX10_isLoose_50 : decode cX10_isLoose 50 = .ok (.goto 4, 3) := by decide +kernel
theorem dX10_isLoose_53 : decode cX10_isLoose 53 = .ok (.iconst 0, 1) := by decide +kernel
theorem dX10_isLoose_54 : decode cX10_isLoose 54 = .ok (.istore_n 2, 1) := by decide +kernel
theorem dX10_isLoose_55 : decode cX10_isLoose 55 = .ok (.iinc 3 1, 3) := by decide +kernel
theorem dX10_isLoose_58 : decode cX10_isLoose 58 = .ok (.goto (-54), 3) := by decide +kernel
theorem dX10_isLoose_61 : decode cX10_isLoose 61 = .ok (.iload_n 2, 1) := by decide +kernel
theorem dX10_isLoose_62 : decode cX10_isLoose 62 = .ok (.ifCond .eq 15, 3) := by decide +kernel
theorem dX10_isLoose_65 : decode cX10_isLoose 65 = .ok (.aload_n 0, 1) := by decide +kernel
theorem dX10_isLoose_66 : decode cX10_isLoose 66 = .ok (.iload_n 1, 1) := by decide +kernel
theorem dX10_isLoose_67 : decode cX10_isLoose 67 = .ok (.invokevirtual 86, 3) := by decide +kernel
theorem dX10_isLoose_70 : decode cX10_isLoose 70 = .ok (.ifCond .ne 7, 3) := by decide +kernel
theorem dX10_isLoose_73 : decode cX10_isLoose 73 = .ok (.iconst 1, 1) := by decide +kernel
theorem dX10_isLoose_74 : decode cX10_isLoose 74 = .ok (.goto 4, 3) := by decide +kernel
theorem dX10_isLoose_77 : decode cX10_isLoose 77 = .ok (.iconst 0, 1) := by decide +kernel
theorem dX10_isLoose_78 : decode cX10_isLoose 78 = .ok (.ireturn, 1) := by decide +kernel
theorem dX10_nearest_0 : decode cX10_nearest 0 = .ok (.aload_n 0, 1) := by decide +kernel
theorem dX10_nearest_1 : decode cX10_nearest 1 = .ok (.getfield 7, 3) := by decide +kernel
theorem dX10_nearest_4 : decode cX10_nearest 4 = .ok (.bipush 8, 2) := by decide +kernel
theorem dX10_nearest_6 : decode cX10_nearest 6 = .ok (.iaload, 1) := by decide +kernel
theorem dX10_nearest_7 : decode cX10_nearest 7 = .ok (.istore_n 2, 1) := by decide +kernel
theorem dX10_nearest_8 : decode cX10_nearest 8 = .ok (.iconst 1, 1) := by decide +kernel
theorem dX10_nearest_9 : decode cX10_nearest 9 = .ok (.istore_n 3, 1) := by decide +kernel
theorem dX10_nearest_10 : decode cX10_nearest 10 = .ok (.iload_n 3, 1) := by decide +kernel
theorem dX10_nearest_11 : decode cX10_nearest 11 = .ok (.aload_n 0, 1) := by decide +kernel
theorem dX10_nearest_12 : decode cX10_nearest 12 = .ok (.getfield 7, 3) := by decide +kernel
theorem dX10_nearest_15 : decode cX10_nearest 15 = .ok (.bipush 7, 2) := by decide +kernel
theorem dX10_nearest_17 : decode cX10_nearest 17 = .ok (.iaload, 1) := by decide +kernel
theorem dX10_nearest_18 : decode cX10_nearest 18 = .ok (.if_icmp .ge 44, 3) := by decide +kernel
theorem dX10_nearest_21 : decode cX10_nearest 21 = .ok (.aload_n 0, 1) := by decide +kernel
theorem dX10_nearest_22 : decode cX10_nearest 22 = .ok (.getfield 7, 3) := by decide +kernel
theorem dX10_nearest_25 : decode cX10_nearest 25 = .ok (.bipush 8, 2) := by decide +kernel
theorem dX10_nearest_27 : decode cX10_nearest 27 = .ok (.iload_n 3, 1) := by decide +kernel
theorem dX10_nearest_28 : decode cX10_nearest 28 = .ok (.iadd, 1) := by decide +kernel
theorem dX10_nearest_29 : decode cX10_nearest 29 = .ok (.iaload, 1) := by decide +kernel
theorem dX10_nearest_30 : decode cX10_nearest 30 = .ok (.iload_n 1, 1) := by decide +kernel
theorem dX10_nearest_31 : decode cX10_nearest 31 = .ok (.invokestatic 97, 3) := by decide +kernel
theorem dX10_nearest_34 : decode cX10_nearest 34 = .ok (.iload_n 2, 1) := by decide +kernel
theorem dX10_nearest_35 : decode cX10_nearest 35 = .ok (.iload_n 1, 1) := by decide +kernel
theorem dX10_nearest_36 : decode cX10_nearest 36 = .ok (.invokestatic 97, 3) := by decide +kernel
theorem dX10_nearest_39 : decode cX10_nearest 39 = .ok (.if_icmp .ge 15, 3) := by decide +kernel
theorem dX10_nearest_42 : decode cX10_nearest 42 = .ok (.aload_n 0, 1) := by decide +kernel
theorem dX10_nearest_43 : decode cX10_nearest 43 = .ok (.getfield 7, 3) := by decide +kernel
theorem dX10_nearest_46 : decode cX10_nearest 46 = .ok (.bipush 8, 2) := by decide +kernel
theorem dX10_nearest_48 : decode cX10_nearest 48 = .ok (.iload_n 3, 1) := by decide +kernel
theorem dX10_nearest_49 : decode cX10_nearest 49 = .ok (.iadd, 1) := by decide +kernel
theorem dX10_nearest_50 : decode cX10_nearest 50 = .ok (.iaload, 1) := by decide +kernel
theorem dX10_nearest_51 : decode cX10_nearest 51 = .ok (.goto 4, 3) := by decide +kernel
theorem dX10_nearest_54 : decode cX10_nearest 54 = .ok (.iload_n 2, 1) := by decide +kernel
theorem dX10_nearest_55 : decode cX10_nearest 55 = .ok (.istore_n 2, 1) := by decide +kernel
theorem dX10_nearest_56 : decode cX10_nearest 56 = .ok (.iinc 3 1, 3) := by decide +kernel
theorem dX10_nearest_59 : decode cX10_nearest 59 = .ok (.goto (-49), 3) := by decide +kernel
theorem dX10_nearest_62 : decode cX10_nearest 62 = .ok (.iload_n 2, 1) := by decide +kernel
theorem dX10_nearest_63 : decode cX10_nearest 63 = .ok (.ireturn, 1) := by decide +kernel
theorem dX10_far_0 : decode cX10_far 0 = .ok (.iload_n 0, 1) := by decide +kernel
theorem dX10_far_1 : decode cX10_far 1 = .ok (.iload_n 1, 1) := by decide +kernel
theorem dX10_far_2 : decode cX10_far 2 = .ok (.if_icmp .le 9, 3) := by decide +kernel
theorem dX10_far_5 : decode cX10_far 5 = .ok (.iload_n 0, 1) := by decide +kernel
theorem dX10_far_6 : decode cX10_far 6 = .ok (.iload_n 1, 1) := by decide +kernel
theorem dX10_far_7 : decode cX10_far 7 = .ok (.isub, 1) := by decide +kernel
theorem dX10_far_8 : decode cX10_far 8 = .ok (.goto 6, 3) := by decide +kernel
theorem dX10_far_11 : decode cX10_far 11 = .ok (.iload_n 1, 1) := by decide +kernel
theorem dX10_far_12 : decode cX10_far 12 = .ok (.iload_n 0, 1) := by decide +kernel
theorem dX10_far_13 : decode cX10_far 13 = .ok (.isub, 1) := by decide +kernel
theorem dX10_far_14 : decode cX10_far 14 = .ok (.ireturn, 1) := by decide +kernel
theorem dX10_isLetter_0 : decode cX10_isLetter 0 = .ok (.iload_n 0, 1) := by decide +kernel
theorem dX10_isLetter_1 : decode cX10_isLetter 1 = .ok (.bipush 97, 2) := by decide +kernel
theorem dX10_isLetter_3 : decode cX10_isLetter 3 = .ok (.bipush 122, 2) := by decide +kernel
theorem dX10_isLetter_5 : decode cX10_isLetter 5 = .ok (.invokestatic 48, 3) := by decide +kernel
theorem dX10_isLetter_8 : decode cX10_isLetter 8 = .ok (.ifCond .ne 15, 3) := by decide +kernel
theorem dX10_isLetter_11 : decode cX10_isLetter 11 = .ok (.iload_n 0, 1) := by decide +kernel
theorem dX10_isLetter_12 : decode cX10_isLetter 12 = .ok (.bipush 95, 2) := by decide +kernel
theorem dX10_isLetter_14 : decode cX10_isLetter 14 = .ok (.if_icmp .eq 9, 3) := by decide +kernel
theorem dX10_isLetter_17 : decode cX10_isLetter 17 = .ok (.iload_n 0, 1) := by decide +kernel
theorem dX10_isLetter_18 : decode cX10_isLetter 18 = .ok (.bipush 124, 2) := by decide +kernel
theorem dX10_isLetter_20 : decode cX10_isLetter 20 = .ok (.if_icmp .ne 7, 3) := by decide +kernel
theorem dX10_isLetter_23 : decode cX10_isLetter 23 = .ok (.iconst 1, 1) := by decide +kernel
theorem dX10_isLetter_24 : decode cX10_isLetter 24 = .ok (.goto 4, 3) := by decide +kernel
theorem dX10_isLetter_27 : decode cX10_isLetter 27 = .ok (.iconst 0, 1) := by decide +kernel
theorem dX10_isLetter_28 : decode cX10_isLetter 28 = .ok (.ireturn, 1) := by decide +kernel
theorem dX10_isText_0 : decode cX10_isText 0 = .ok (.iload_n 2, 1) := by decide +kernel
theorem dX10_isText_1 : decode cX10_isText 1 = .ok (.iconst 1, 1) := by decide +kernel
theorem dX10_isText_2 : decode cX10_isText 2 = .ok (.bipush 24, 2) := by decide +kernel
theorem dX10_isText_4 : decode cX10_isText 4 = .ok (.invokestatic 48, 3) := by decide +kernel
theorem dX10_isText_7 : decode cX10_isText 7 = .ok (.ifCond .eq 23, 3) := by decide +kernel
theorem dX10_isText_10 : decode cX10_isText 10 = .ok (.aload_n 0, 1) := by decide +kernel
theorem dX10_isText_11 : decode cX10_isText 11 = .ok (.iload_n 1, 1) := by decide +kernel
theorem dX10_isText_12 : decode cX10_isText 12 = .ok (.iaload, 1) := by decide +kernel
theorem dX10_isText_13 : decode cX10_isText 13 = .ok (.bipush 124, 2) := by decide +kernel
theorem dX10_isText_15 : decode cX10_isText 15 = .ok (.if_icmp .eq 15, 3) := by decide +kernel
theorem dX10_isText_18 : decode cX10_isText 18 = .ok (.aload_n 0, 1) := by decide +kernel
theorem dX10_isText_19 : decode cX10_isText 19 = .ok (.iload_n 1, 1) := by decide +kernel
theorem dX10_isText_20 : decode cX10_isText 20 = .ok (.iload_n 2, 1) := by decide +kernel
theorem dX10_isText_21 : decode cX10_isText 21 = .ok (.iadd, 1) := by decide +kernel
theorem dX10_isText_22 : decode cX10_isText 22 = .ok (.iconst 1, 1) := by decide +kernel
theorem dX10_isText_23 : decode cX10_isText 23 = .ok (.isub, 1) := by decide +kernel
theorem dX10_isText_24 : decode cX10_isText 24 = .ok (.iaload, 1) := by decide +kernel
theorem dX10_isText_25 : decode cX10_isText 25 = .ok (.bipush 124, 2) := by decide +kernel
theorem dX10_isText_27 : decode cX10_isText 27 = .ok (.if_icmp .ne 5, 3) := by decide +kernel
theorem dX10_isText_30 : decode cX10_isText 30 = .ok (.iconst 0, 1) := by decide +kernel
theorem dX10_isText_31 : decode cX10_isText 31 = .ok (.ireturn, 1) := by decide +kernel
theorem dX10_isText_32 : decode cX10_isText 32 = .ok (.iconst 0, 1) := by decide +kernel
theorem dX10_isText_33 : decode cX10_isText 33 = .ok (.istore_n 3, 1) := by decide +kernel
theorem dX10_isText_34 : decode cX10_isText 34 = .ok (.iconst 0, 1) := by decide +kernel
theorem dX10_isText_35 : decode cX10_isText 35 = .ok (.istore 4, 2) := by decide +kernel
theorem dX10_isText_37 : decode cX10_isText 37 = .ok (.iload 4, 2) := by decide +kernel
theorem dX10_isText_39 : decode cX10_isText 39 = .ok (.iload_n 2, 1) := by decide +kernel
theorem dX10_isText_40 : decode cX10_isText 40 = .ok (.if_icmp .ge 42, 3) := by decide +kernel
theorem dX10_isText_43 : decode cX10_isText 43 = .ok (.aload_n 0, 1) := by decide +kernel
theorem dX10_isText_44 : decode cX10_isText 44 = .ok (.iload_n 1, 1) := by decide +kernel
theorem dX10_isText_45 : decode cX10_isText 45 = .ok (.iload 4, 2) := by decide +kernel
theorem dX10_isText_47 : decode cX10_isText 47 = .ok (.iadd, 1) := by decide +kernel
theorem dX10_isText_48 : decode cX10_isText 48 = .ok (.iaload, 1) := by decide +kernel
theorem dX10_isText_49 : decode cX10_isText 49 = .ok (.invokestatic 100, 3) := by decide +kernel
theorem dX10_isText_52 : decode cX10_isText 52 = .ok (.ifCond .ne 5, 3) := by decide +kernel
theorem dX10_isText_55 : decode cX10_isText 55 = .ok (.iconst 0, 1) := by decide +kernel
theorem dX10_isText_56 : decode cX10_isText 56 = .ok (.ireturn, 1) := by decide +kernel
theorem dX10_isText_57 : decode cX10_isText 57 = .ok (.iload_n 3, 1) := by decide +kernel
theorem dX10_isText_58 : decode cX10_isText 58 = .ok (.aload_n 0, 1) := by decide +kernel
theorem dX10_isText_59 : decode cX10_isText 59 = .ok (.iload_n 1, 1) := by decide +kernel
theorem dX10_isText_60 : decode cX10_isText 60 = .ok (.iload 4, 2) := by decide +kernel
theorem dX10_isText_62 : decode cX10_isText 62 = .ok (.iadd, 1) := by decide +kernel
theorem dX10_isText_63 : decode cX10_isText 63 = .ok (.iaload, 1) := by decide +kernel
theorem dX10_isText_64 : decode cX10_isText 64 = .ok (.bipush 124, 2) := by decide +kernel
theorem dX10_isText_66 : decode cX10_isText 66 = .ok (.if_icmp .ne 7, 3) := by decide +kernel
theorem dX10_isText_69 : decode cX10_isText 69 = .ok (.iconst 1, 1) := by decide +kernel
theorem dX10_isText_70 : decode cX10_isText 70 = .ok (.goto 4, 3) := by decide +kernel
theorem dX10_isText_73 : decode cX10_isText 73 = .ok (.iconst 0, 1) := by decide +kernel
theorem dX10_isText_74 : decode cX10_isText 74 = .ok (.iadd, 1) := by decide +kernel
theorem dX10_isText_75 : decode cX10_isText 75 = .ok (.istore_n 3, 1) := by decide +kernel
theorem dX10_isText_76 : decode cX10_isText 76 = .ok (.iinc 4 1, 3) := by decide +kernel
theorem dX10_isText_79 : decode cX10_isText 79 = .ok (.goto (-42), 3) := by decide +kernel
theorem dX10_isText_82 : decode cX10_isText 82 = .ok (.iload_n 3, 1) := by decide +kernel
theorem dX10_isText_83 : decode cX10_isText 83 = .ok (.iconst 2, 1) := by decide +kernel
theorem dX10_isText_84 : decode cX10_isText 84 = .ok (.if_icmp .ge 7, 3) := by decide +kernel
theorem dX10_isText_87 : decode cX10_isText 87 = .ok (.iconst 1, 1) := by decide +kernel
theorem dX10_isText_88 : decode cX10_isText 88 = .ok (.goto 4, 3) := by decide +kernel
theorem dX10_isText_91 : decode cX10_isText 91 = .ok (.iconst 0, 1) := by decide +kernel
theorem dX10_isText_92 : decode cX10_isText 92 = .ok (.ireturn, 1) := by decide +kernel
theorem dX10_bars_0 : decode cX10_bars 0 = .ok (.iconst 0, 1) := by decide +kernel
theorem dX10_bars_1 : decode cX10_bars 1 = .ok (.istore_n 3, 1) := by decide +kernel
theorem dX10_bars_2 : decode cX10_bars 2 = .ok (.iconst 0, 1) := by decide +kernel
theorem dX10_bars_3 : decode cX10_bars 3 = .ok (.istore 4, 2) := by decide +kernel
theorem dX10_bars_5 : decode cX10_bars 5 = .ok (.iload 4, 2) := by decide +kernel
theorem dX10_bars_7 : decode cX10_bars 7 = .ok (.iload_n 2, 1) := by decide +kernel
theorem dX10_bars_8 : decode cX10_bars 8 = .ok (.if_icmp .ge 28, 3) := by decide +kernel
theorem dX10_bars_11 : decode cX10_bars 11 = .ok (.iload_n 3, 1) := by decide +kernel
theorem dX10_bars_12 : decode cX10_bars 12 = .ok (.aload_n 0, 1) := by decide +kernel
theorem dX10_bars_13 : decode cX10_bars 13 = .ok (.iload_n 1, 1) := by decide +kernel
theorem dX10_bars_14 : decode cX10_bars 14 = .ok (.iload 4, 2) := by decide +kernel
theorem dX10_bars_16 : decode cX10_bars 16 = .ok (.iadd, 1) := by decide +kernel
theorem dX10_bars_17 : decode cX10_bars 17 = .ok (.iaload, 1) := by decide +kernel
theorem dX10_bars_18 : decode cX10_bars 18 = .ok (.bipush 124, 2) := by decide +kernel
theorem dX10_bars_20 : decode cX10_bars 20 = .ok (.if_icmp .ne 7, 3) := by decide +kernel
theorem dX10_bars_23 : decode cX10_bars 23 = .ok (.iconst 1, 1) := by decide +kernel
theorem dX10_bars_24 : decode cX10_bars 24 = .ok (.goto 4, 3) := by decide +kernel
theorem dX10_bars_27 : decode cX10_bars 27 = .ok (.iconst 0, 1) := by decide +kernel
theorem dX10_bars_28 : decode cX10_bars 28 = .ok (.iadd, 1) := by decide +kernel
theorem dX10_bars_29 : decode cX10_bars 29 = .ok (.istore_n 3, 1) := by decide +kernel
theorem dX10_bars_30 : decode cX10_bars 30 = .ok (.iinc 4 1, 3) := by decide +kernel
theorem dX10_bars_33 : decode cX10_bars 33 = .ok (.goto (-28), 3) := by decide +kernel
theorem dX10_bars_36 : decode cX10_bars 36 = .ok (.iload_n 3, 1) := by decide +kernel
theorem dX10_bars_37 : decode cX10_bars 37 = .ok (.ireturn, 1) := by decide +kernel
theorem dX10_load_0 : decode cX10_load 0 = .ok (.aload_n 0, 1) := by decide +kernel
theorem dX10_load_1 : decode cX10_load 1 = .ok (.getfield 7, 3) := by decide +kernel
theorem dX10_load_4 : decode cX10_load 4 = .ok (.iload_n 1, 1) := by decide +kernel
theorem dX10_load_5 : decode cX10_load 5 = .ok (.iload_n 2, 1) := by decide +kernel
theorem dX10_load_6 : decode cX10_load 6 = .ok (.iconst 3, 1) := by decide +kernel
theorem dX10_load_7 : decode cX10_load 7 = .ok (.invokestatic 56, 3) := by decide +kernel
theorem dX10_load_10 : decode cX10_load 10 = .ok (.iaload, 1) := by decide +kernel
theorem dX10_load_11 : decode cX10_load 11 = .ok (.aload_n 0, 1) := by decide +kernel
theorem dX10_load_12 : decode cX10_load 12 = .ok (.getfield 7, 3) := by decide +kernel
theorem dX10_load_15 : decode cX10_load 15 = .ok (.iload_n 1, 1) := by decide +kernel
theorem dX10_load_16 : decode cX10_load 16 = .ok (.iload_n 2, 1) := by decide +kernel
theorem dX10_load_17 : decode cX10_load 17 = .ok (.iconst 4, 1) := by decide +kernel
theorem dX10_load_18 : decode cX10_load 18 = .ok (.invokestatic 56, 3) := by decide +kernel
theorem dX10_load_21 : decode cX10_load 21 = .ok (.aload_n 0, 1) := by decide +kernel
theorem dX10_load_22 : decode cX10_load 22 = .ok (.getfield 7, 3) := by decide +kernel
theorem dX10_load_25 : decode cX10_load 25 = .ok (.iload_n 1, 1) := by decide +kernel
theorem dX10_load_26 : decode cX10_load 26 = .ok (.iload_n 2, 1) := by decide +kernel
theorem dX10_load_27 : decode cX10_load 27 = .ok (.iconst 3, 1) := by decide +kernel
theorem dX10_load_28 : decode cX10_load 28 = .ok (.invokestatic 56, 3) := by decide +kernel
theorem dX10_load_31 : decode cX10_load 31 = .ok (.iaload, 1) := by decide +kernel
theorem dX10_load_32 : decode cX10_load 32 = .ok (.invokestatic 103, 3) := by decide +kernel
theorem dX10_load_35 : decode cX10_load 35 = .ok (.isub, 1) := by decide +kernel
theorem dX10_load_36 : decode cX10_load 36 = .ok (.ireturn, 1) := by decide +kernel
theorem dX10_up_0 : decode cX10_up 0 = .ok (.iload_n 0, 1) := by decide +kernel
theorem dX10_up_1 : decode cX10_up 1 = .ok (.iload_n 1, 1) := by decide +kernel
theorem dX10_up_2 : decode cX10_up 2 = .ok (.iadd, 1) := by decide +kernel
theorem dX10_up_3 : decode cX10_up 3 = .ok (.iconst 1, 1) := by decide +kernel
theorem dX10_up_4 : decode cX10_up 4 = .ok (.isub, 1) := by decide +kernel
theorem dX10_up_5 : decode cX10_up 5 = .ok (.iload_n 1, 1) := by decide +kernel
theorem dX10_up_6 : decode cX10_up 6 = .ok (.idiv, 1) := by decide +kernel
theorem dX10_up_7 : decode cX10_up 7 = .ok (.ireturn, 1) := by decide +kernel
theorem dX10_needs_0 : decode cX10_needs 0 = .ok (.aload_n 0, 1) := by decide +kernel
theorem dX10_needs_1 : decode cX10_needs 1 = .ok (.getfield 7, 3) := by decide +kernel
theorem dX10_needs_4 : decode cX10_needs 4 = .ok (.iload_n 1, 1) := by decide +kernel
theorem dX10_needs_5 : decode cX10_needs 5 = .ok (.iload_n 2, 1) := by decide +kernel
theorem dX10_needs_6 : decode cX10_needs 6 = .ok (.iconst 2, 1) := by decide +kernel
theorem dX10_needs_7 : decode cX10_needs 7 = .ok (.invokestatic 56, 3) := by decide +kernel
theorem dX10_needs_10 : decode cX10_needs 10 = .ok (.iaload, 1) := by decide +kernel
theorem dX10_needs_11 : decode cX10_needs 11 = .ok (.istore_n 3, 1) := by decide +kernel
theorem dX10_needs_12 : decode cX10_needs 12 = .ok (.iload_n 3, 1) := by decide +kernel
theorem dX10_needs_13 : decode cX10_needs 13 = .ok (.iconst 2, 1) := by decide +kernel
theorem dX10_needs_14 : decode cX10_needs 14 = .ok (.if_icmp .ne 8, 3) := by decide +kernel
theorem dX10_needs_17 : decode cX10_needs 17 = .ok (.bipush 20, 2) := by decide +kernel
theorem dX10_needs_19 : decode cX10_needs 19 = .ok (.goto 5, 3) := by decide +kernel
theorem dX10_needs_22 : decode cX10_needs 22 = .ok (.bipush 25, 2) := by decide +kernel
theorem dX10_needs_24 : decode cX10_needs 24 = .ok (.aload_n 0, 1) := by decide +kernel
theorem dX10_needs_25 : decode cX10_needs 25 = .ok (.iload_n 1, 1) := by decide +kernel
theorem dX10_needs_26 : decode cX10_needs 26 = .ok (.iload_n 2, 1) := by decide +kernel
theorem dX10_needs_27 : decode cX10_needs 27 = .ok (.invokevirtual 107, 3) := by decide +kernel
theorem dX10_needs_30 : decode cX10_needs 30 = .ok (.imul, 1) := by decide +kernel
theorem dX10_needs_31 : decode cX10_needs 31 = .ok (.aload_n 0, 1) := by decide +kernel
theorem dX10_needs_32 : decode cX10_needs 32 = .ok (.getfield 7, 3) := by decide +kernel
theorem dX10_needs_35 : decode cX10_needs 35 = .ok (.iconst 1, 1) := by decide +kernel
theorem dX10_needs_36 : decode cX10_needs 36 = .ok (.iaload, 1) := by decide +kernel
theorem dX10_needs_37 : decode cX10_needs 37 = .ok (.invokestatic 110, 3) := by decide +kernel
theorem dX10_needs_40 : decode cX10_needs 40 = .ok (.istore 4, 2) := by decide +kernel
theorem dX10_needs_42 : decode cX10_needs 42 = .ok (.iload_n 3, 1) := by decide +kernel
theorem dX10_needs_43 : decode cX10_needs 43 = .ok (.iconst 1, 1) := by decide +kernel
theorem dX10_needs_44 : decode cX10_needs 44 = .ok (.if_icmp .ne 12, 3) := by decide +kernel
theorem dX10_needs_47 : decode cX10_needs 47 = .ok (.iload 4, 2) := by decide +kernel
theorem dX10_needs_49 : decode cX10_needs 49 = .ok (.iconst 2, 1) := by decide +kernel
theorem dX10_needs_50 : decode cX10_needs 50 = .ok (.invokestatic 110, 3) := by decide +kernel
theorem dX10_needs_53 : decode cX10_needs 53 = .ok (.goto 5, 3) := by decide +kernel
theorem dX10_needs_56 : decode cX10_needs 56 = .ok (.iload 4, 2) := by decide +kernel
theorem dX10_needs_58 : decode cX10_needs 58 = .ok (.ireturn, 1) := by decide +kernel
theorem dX10_longest_0 : decode cX10_longest 0 = .ok (.aload_n 0, 1) := by decide +kernel
theorem dX10_longest_1 : decode cX10_longest 1 = .ok (.getfield 7, 3) := by decide +kernel
theorem dX10_longest_4 : decode cX10_longest 4 = .ok (.iload_n 1, 1) := by decide +kernel
theorem dX10_longest_5 : decode cX10_longest 5 = .ok (.iload_n 2, 1) := by decide +kernel
theorem dX10_longest_6 : decode cX10_longest 6 = .ok (.iconst 3, 1) := by decide +kernel
theorem dX10_longest_7 : decode cX10_longest 7 = .ok (.invokestatic 56, 3) := by decide +kernel
theorem dX10_longest_10 : decode cX10_longest 10 = .ok (.iaload, 1) := by decide +kernel
theorem dX10_longest_11 : decode cX10_longest 11 = .ok (.istore_n 3, 1) := by decide +kernel
theorem dX10_longest_12 : decode cX10_longest 12 = .ok (.iconst 0, 1) := by decide +kernel
theorem dX10_longest_13 : decode cX10_longest 13 = .ok (.istore 4, 2) := by decide +kernel
theorem dX10_longest_15 : decode cX10_longest 15 = .ok (.iload 4, 2) := by decide +kernel
theorem dX10_longest_17 : decode cX10_longest 17 = .ok (.iload_n 3, 1) := by decide +kernel
theorem dX10_longest_18 : decode cX10_longest 18 = .ok (.if_icmp .ge 28, 3) := by decide +kernel
theorem dX10_longest_21 : decode cX10_longest 21 = .ok (.aload_n 0, 1) := by decide +kernel
theorem dX10_longest_22 : decode cX10_longest 22 = .ok (.getfield 7, 3) := by decide +kernel
theorem dX10_longest_25 : decode cX10_longest 25 = .ok (.iload_n 1, 1) := by decide +kernel
theorem dX10_longest_26 : decode cX10_longest 26 = .ok (.iload_n 2, 1) := by decide +kernel
theorem dX10_longest_27 : decode cX10_longest 27 = .ok (.iconst 4, 1) := by decide +kernel
theorem dX10_longest_28 : decode cX10_longest 28 = .ok (.iload 4, 2) := by decide +kernel
theorem dX10_longest_30 : decode cX10_longest 30 = .ok (.iadd, 1) := by decide +kernel
theorem dX10_longest_31 : decode cX10_longest 31 = .ok (.invokestatic 56, 3) := by decide +kernel
theorem dX10_longest_34 : decode cX10_longest 34 = .ok (.iaload, 1) := by decide +kernel
theorem dX10_longest_35 : decode cX10_longest 35 = .ok (.bipush 124, 2) := by decide +kernel
theorem dX10_longest_37 : decode cX10_longest 37 = .ok (.if_icmp .eq 9, 3) := by decide +kernel
theorem dX10_longest_40 : decode cX10_longest 40 = .ok (.iinc 4 1, 3) := by decide +kernel
theorem dX10_longest_43 : decode cX10_longest 43 = .ok (.goto (-28), 3) := by decide +kernel
theorem dX10_longest_46 : decode cX10_longest 46 = .ok (.iload 4, 2) := by decide +kernel
theorem dX10_longest_48 : decode cX10_longest 48 = .ok (.iload_n 3, 1) := by decide +kernel
theorem dX10_longest_49 : decode cX10_longest 49 = .ok (.if_icmp .eq 14, 3) := by decide +kernel
theorem dX10_longest_52 : decode cX10_longest 52 = .ok (.iload 4, 2) := by decide +kernel
theorem dX10_longest_54 : decode cX10_longest 54 = .ok (.iload_n 3, 1) := by decide +kernel
theorem dX10_longest_55 : decode cX10_longest 55 = .ok (.iload 4, 2) := by decide +kernel
theorem dX10_longest_57 : decode cX10_longest 57 = .ok (.isub, 1) := by decide +kernel
theorem dX10_longest_58 : decode cX10_longest 58 = .ok (.iconst 1, 1) := by decide +kernel
theorem dX10_longest_59 : decode cX10_longest 59 = .ok (.isub, 1) := by decide +kernel
theorem dX10_longest_60 : decode cX10_longest 60 = .ok (.if_icmp .le 8, 3) := by decide +kernel
theorem dX10_longest_63 : decode cX10_longest 63 = .ok (.iload 4, 2) := by decide +kernel
theorem dX10_longest_65 : decode cX10_longest 65 = .ok (.goto 9, 3) := by decide +kernel
theorem dX10_longest_68 : decode cX10_longest 68 = .ok (.iload_n 3, 1) := by decide +kernel
theorem dX10_longest_69 : decode cX10_longest 69 = .ok (.iload 4, 2) := by decide +kernel
theorem dX10_longest_71 : decode cX10_longest 71 = .ok (.isub, 1) := by decide +kernel
theorem dX10_longest_72 : decode cX10_longest 72 = .ok (.iconst 1, 1) := by decide +kernel
theorem dX10_longest_73 : decode cX10_longest 73 = .ok (.isub, 1) := by decide +kernel
theorem dX10_longest_74 : decode cX10_longest 74 = .ok (.ireturn, 1) := by decide +kernel
theorem dX10_shared_0 : decode cX10_shared 0 = .ok (.aload_n 0, 1) := by decide +kernel
theorem dX10_shared_1 : decode cX10_shared 1 = .ok (.iload_n 1, 1) := by decide +kernel
theorem dX10_shared_2 : decode cX10_shared 2 = .ok (.iload_n 2, 1) := by decide +kernel
theorem dX10_shared_3 : decode cX10_shared 3 = .ok (.invokevirtual 113, 3) := by decide +kernel
theorem dX10_shared_6 : decode cX10_shared 6 = .ok (.aload_n 0, 1) := by decide +kernel
theorem dX10_shared_7 : decode cX10_shared 7 = .ok (.iconst 1, 1) := by decide +kernel
theorem dX10_shared_8 : decode cX10_shared 8 = .ok (.iload_n 1, 1) := by decide +kernel
theorem dX10_shared_9 : decode cX10_shared 9 = .ok (.isub, 1) := by decide +kernel
theorem dX10_shared_10 : decode cX10_shared 10 = .ok (.iload_n 3, 1) := by decide +kernel
theorem dX10_shared_11 : decode cX10_shared 11 = .ok (.invokevirtual 113, 3) := by decide +kernel
theorem dX10_shared_14 : decode cX10_shared 14 = .ok (.if_icmp .le 12, 3) := by decide +kernel
theorem dX10_shared_17 : decode cX10_shared 17 = .ok (.aload_n 0, 1) := by decide +kernel
theorem dX10_shared_18 : decode cX10_shared 18 = .ok (.iload_n 1, 1) := by decide +kernel
theorem dX10_shared_19 : decode cX10_shared 19 = .ok (.iload_n 2, 1) := by decide +kernel
theorem dX10_shared_20 : decode cX10_shared 20 = .ok (.invokevirtual 113, 3) := by decide +kernel
theorem dX10_shared_23 : decode cX10_shared 23 = .ok (.goto 11, 3) := by decide +kernel
theorem dX10_shared_26 : decode cX10_shared 26 = .ok (.aload_n 0, 1) := by decide +kernel
theorem dX10_shared_27 : decode cX10_shared 27 = .ok (.iconst 1, 1) := by decide +kernel
theorem dX10_shared_28 : decode cX10_shared 28 = .ok (.iload_n 1, 1) := by decide +kernel
theorem dX10_shared_29 : decode cX10_shared 29 = .ok (.isub, 1) := by decide +kernel
theorem dX10_shared_30 : decode cX10_shared 30 = .ok (.iload_n 3, 1) := by decide +kernel
theorem dX10_shared_31 : decode cX10_shared 31 = .ok (.invokevirtual 113, 3) := by decide +kernel
theorem dX10_shared_34 : decode cX10_shared 34 = .ok (.istore 4, 2) := by decide +kernel
theorem dX10_shared_36 : decode cX10_shared 36 = .ok (.aload_n 0, 1) := by decide +kernel
theorem dX10_shared_37 : decode cX10_shared 37 = .ok (.iload_n 1, 1) := by decide +kernel
theorem dX10_shared_38 : decode cX10_shared 38 = .ok (.iload_n 2, 1) := by decide +kernel
theorem dX10_shared_39 : decode cX10_shared 39 = .ok (.invokevirtual 71, 3) := by decide +kernel
theorem dX10_shared_42 : decode cX10_shared 42 = .ok (.aload_n 0, 1) := by decide +kernel
theorem dX10_shared_43 : decode cX10_shared 43 = .ok (.iconst 1, 1) := by decide +kernel
theorem dX10_shared_44 : decode cX10_shared 44 = .ok (.iload_n 1, 1) := by decide +kernel
theorem dX10_shared_45 : decode cX10_shared 45 = .ok (.isub, 1) := by decide +kernel
theorem dX10_shared_46 : decode cX10_shared 46 = .ok (.iload_n 3, 1) := by decide +kernel
theorem dX10_shared_47 : decode cX10_shared 47 = .ok (.invokevirtual 71, 3) := by decide +kernel
theorem dX10_shared_50 : decode cX10_shared 50 = .ok (.if_icmp .ge 12, 3) := by decide +kernel
theorem dX10_shared_53 : decode cX10_shared 53 = .ok (.aload_n 0, 1) := by decide +kernel
theorem dX10_shared_54 : decode cX10_shared 54 = .ok (.iload_n 1, 1) := by decide +kernel
theorem dX10_shared_55 : decode cX10_shared 55 = .ok (.iload_n 2, 1) := by decide +kernel
theorem dX10_shared_56 : decode cX10_shared 56 = .ok (.invokevirtual 71, 3) := by decide +kernel
theorem dX10_shared_59 : decode cX10_shared 59 = .ok (.goto 11, 3) := by decide +kernel
theorem dX10_shared_62 : decode cX10_shared 62 = .ok (.aload_n 0, 1) := by decide +kernel
theorem dX10_shared_63 : decode cX10_shared 63 = .ok (.iconst 1, 1) := by decide +kernel
theorem dX10_shared_64 : decode cX10_shared 64 = .ok (.iload_n 1, 1) := by decide +kernel
theorem dX10_shared_65 : decode cX10_shared 65 = .ok (.isub, 1) := by decide +kernel
theorem dX10_shared_66 : decode cX10_shared 66 = .ok (.iload_n 3, 1) := by decide +kernel
theorem dX10_shared_67 : decode cX10_shared 67 = .ok (.invokevirtual 71, 3) := by decide +kernel
theorem dX10_shared_70 : decode cX10_shared 70 = .ok (.istore 5, 2) := by decide +kernel
theorem dX10_shared_72 : decode cX10_shared 72 = .ok (.iload 5, 2) := by decide +kernel
theorem dX10_shared_74 : decode cX10_shared 74 = .ok (.iload 4, 2) := by decide +kernel
theorem dX10_shared_76 : decode cX10_shared 76 = .ok (.if_icmp .le 11, 3) := by decide +kernel
theorem dX10_shared_79 : decode cX10_shared 79 = .ok (.iload 5, 2) := by decide +kernel
theorem dX10_shared_81 : decode cX10_shared 81 = .ok (.iload 4, 2) := by decide +kernel
theorem dX10_shared_83 : decode cX10_shared 83 = .ok (.isub, 1) := by decide +kernel
theorem dX10_shared_84 : decode cX10_shared 84 = .ok (.goto 4, 3) := by decide +kernel
theorem dX10_shared_87 : decode cX10_shared 87 = .ok (.iconst 0, 1) := by decide +kernel
theorem dX10_shared_88 : decode cX10_shared 88 = .ok (.ireturn, 1) := by decide +kernel
theorem dX10_partner_0 : decode cX10_partner 0 = .ok (.iconst (-1), 1) := by decide +kernel
theorem dX10_partner_1 : decode cX10_partner 1 = .ok (.istore_n 3, 1) := by decide +kernel
theorem dX10_partner_2 : decode cX10_partner 2 = .ok (.iconst 0, 1) := by decide +kernel
theorem dX10_partner_3 : decode cX10_partner 3 = .ok (.istore 4, 2) := by decide +kernel
theorem dX10_partner_5 : decode cX10_partner 5 = .ok (.iload 4, 2) := by decide +kernel
theorem dX10_partner_7 : decode cX10_partner 7 = .ok (.aload_n 0, 1) := by decide +kernel
theorem dX10_partner_8 : decode cX10_partner 8 = .ok (.getfield 7, 3) := by decide +kernel
theorem dX10_partner_11 : decode cX10_partner 11 = .ok (.bipush 29, 2) := by decide +kernel
theorem dX10_partner_13 : decode cX10_partner 13 = .ok (.iload_n 1, 1) := by decide +kernel
theorem dX10_partner_14 : decode cX10_partner 14 = .ok (.isub, 1) := by decide +kernel
theorem dX10_partner_15 : decode cX10_partner 15 = .ok (.iaload, 1) := by decide +kernel
theorem dX10_partner_16 : decode cX10_partner 16 = .ok (.if_icmp .ge 42, 3) := by decide +kernel
theorem dX10_partner_19 : decode cX10_partner 19 = .ok (.aload_n 0, 1) := by decide +kernel
theorem dX10_partner_20 : decode cX10_partner 20 = .ok (.iload_n 1, 1) := by decide +kernel
theorem dX10_partner_21 : decode cX10_partner 21 = .ok (.iload_n 2, 1) := by decide +kernel
theorem dX10_partner_22 : decode cX10_partner 22 = .ok (.iload 4, 2) := by decide +kernel
theorem dX10_partner_24 : decode cX10_partner 24 = .ok (.invokevirtual 116, 3) := by decide +kernel
theorem dX10_partner_27 : decode cX10_partner 27 = .ok (.iload_n 3, 1) := by decide +kernel
theorem dX10_partner_28 : decode cX10_partner 28 = .ok (.ifCond .ge 7, 3) := by decide +kernel
theorem dX10_partner_31 : decode cX10_partner 31 = .ok (.iconst 0, 1) := by decide +kernel
theorem dX10_partner_32 : decode cX10_partner 32 = .ok (.goto 10, 3) := by decide +kernel
theorem dX10_partner_35 : decode cX10_partner 35 = .ok (.aload_n 0, 1) := by decide +kernel
theorem dX10_partner_36 : decode cX10_partner 36 = .ok (.iload_n 1, 1) := by decide +kernel
theorem dX10_partner_37 : decode cX10_partner 37 = .ok (.iload_n 2, 1) := by decide +kernel
theorem dX10_partner_38 : decode cX10_partner 38 = .ok (.iload_n 3, 1) := by decide +kernel
theorem dX10_partner_39 : decode cX10_partner 39 = .ok (.invokevirtual 116, 3) := by decide +kernel
theorem dX10_partner_42 : decode cX10_partner 42 = .ok (.if_icmp .le 8, 3) := by decide +kernel
theorem dX10_partner_45 : decode cX10_partner 45 = .ok (.iload 4, 2) := by decide +kernel
theorem dX10_partner_47 : decode cX10_partner 47 = .ok (.goto 4, 3) := by decide +kernel
theorem dX10_partner_50 : decode cX10_partner 50 = .ok (.iload_n 3, 1) := by decide +kernel
theorem dX10_partner_51 : decode cX10_partner 51 = .ok (.istore_n 3, 1) := by decide +kernel
theorem dX10_partner_52 : decode cX10_partner 52 = .ok (.iinc 4 1, 3) := by decide +kernel
theorem dX10_partner_55 : decode cX10_partner 55 = .ok (.goto (-50), 3) := by decide +kernel
theorem dX10_partner_58 : decode cX10_partner 58 = .ok (.iload_n 3, 1) := by decide +kernel
theorem dX10_partner_59 : decode cX10_partner 59 = .ok (.ireturn, 1) := by decide +kernel
theorem dX10_isInStep_0 : decode cX10_isInStep 0 = .ok (.aload_n 0, 1) := by decide +kernel
theorem dX10_isInStep_1 : decode cX10_isInStep 1 = .ok (.iload_n 1, 1) := by decide +kernel
theorem dX10_isInStep_2 : decode cX10_isInStep 2 = .ok (.iload_n 2, 1) := by decide +kernel
theorem dX10_isInStep_3 : decode cX10_isInStep 3 = .ok (.invokevirtual 119, 3) := by decide +kernel
theorem dX10_isInStep_6 : decode cX10_isInStep 6 = .ok (.istore_n 3, 1) := by decide +kernel
theorem dX10_isInStep_7 : decode cX10_isInStep 7 = .ok (.iload_n 3, 1) := by decide +kernel
theorem dX10_isInStep_8 : decode cX10_isInStep 8 = .ok (.ifCond .lt 59, 3) := by decide +kernel
theorem dX10_isInStep_11 : decode cX10_isInStep 11 = .ok (.aload_n 0, 1) := by decide +kernel
theorem dX10_isInStep_12 : decode cX10_isInStep 12 = .ok (.iload_n 1, 1) := by decide +kernel
theorem dX10_isInStep_13 : decode cX10_isInStep 13 = .ok (.iload_n 2, 1) := by decide +kernel
theorem dX10_isInStep_14 : decode cX10_isInStep 14 = .ok (.invokevirtual 113, 3) := by decide +kernel
theorem dX10_isInStep_17 : decode cX10_isInStep 17 = .ok (.aload_n 0, 1) := by decide +kernel
theorem dX10_isInStep_18 : decode cX10_isInStep 18 = .ok (.iconst 1, 1) := by decide +kernel
theorem dX10_isInStep_19 : decode cX10_isInStep 19 = .ok (.iload_n 1, 1) := by decide +kernel
theorem dX10_isInStep_20 : decode cX10_isInStep 20 = .ok (.isub, 1) := by decide +kernel
theorem dX10_isInStep_21 : decode cX10_isInStep 21 = .ok (.iload_n 3, 1) := by decide +kernel
theorem dX10_isInStep_22 : decode cX10_isInStep 22 = .ok (.invokevirtual 113, 3) := by decide +kernel
theorem dX10_isInStep_25 : decode cX10_isInStep 25 = .ok (.invokestatic 97, 3) := by decide +kernel
theorem dX10_isInStep_28 : decode cX10_isInStep 28 = .ok (.aload_n 0, 1) := by decide +kernel
theorem dX10_isInStep_29 : decode cX10_isInStep 29 = .ok (.getfield 7, 3) := by decide +kernel
theorem dX10_isInStep_32 : decode cX10_isInStep 32 = .ok (.iconst 5, 1) := by decide +kernel
theorem dX10_isInStep_33 : decode cX10_isInStep 33 = .ok (.iaload, 1) := by decide +kernel
theorem dX10_isInStep_34 : decode cX10_isInStep 34 = .ok (.if_icmp .gt 33, 3) := by decide +kernel
theorem dX10_isInStep_37 : decode cX10_isInStep 37 = .ok (.aload_n 0, 1) := by decide +kernel
theorem dX10_isInStep_38 : decode cX10_isInStep 38 = .ok (.iload_n 1, 1) := by decide +kernel
theorem dX10_isInStep_39 : decode cX10_isInStep 39 = .ok (.iload_n 2, 1) := by decide +kernel
theorem dX10_isInStep_40 : decode cX10_isInStep 40 = .ok (.invokevirtual 71, 3) := by decide +kernel
theorem dX10_isInStep_43 : decode cX10_isInStep 43 = .ok (.aload_n 0, 1) := by decide +kernel
theorem dX10_isInStep_44 : decode cX10_isInStep 44 = .ok (.iconst 1, 1) := by decide +kernel
theorem dX10_isInStep_45 : decode cX10_isInStep 45 = .ok (.iload_n 1, 1) := by decide +kernel
theorem dX10_isInStep_46 : decode cX10_isInStep 46 = .ok (.isub, 1) := by decide +kernel
theorem dX10_isInStep_47 : decode cX10_isInStep 47 = .ok (.iload_n 3, 1) := by decide +kernel
theorem dX10_isInStep_48 : decode cX10_isInStep 48 = .ok (.invokevirtual 71, 3) := by decide +kernel
theorem dX10_isInStep_51 : decode cX10_isInStep 51 = .ok (.invokestatic 97, 3) := by decide +kernel
theorem dX10_isInStep_54 : decode cX10_isInStep 54 = .ok (.aload_n 0, 1) := by decide +kernel
theorem dX10_isInStep_55 : decode cX10_isInStep 55 = .ok (.getfield 7, 3) := by decide +kernel
theorem dX10_isInStep_58 : decode cX10_isInStep 58 = .ok (.iconst 5, 1) := by decide +kernel
theorem dX10_isInStep_59 : decode cX10_isInStep 59 = .ok (.iaload, 1) := by decide +kernel
theorem dX10_isInStep_60 : decode cX10_isInStep 60 = .ok (.if_icmp .gt 7, 3) := by decide +kernel
theorem dX10_isInStep_63 : decode cX10_isInStep 63 = .ok (.iconst 1, 1) := by decide +kernel
theorem dX10_isInStep_64 : decode cX10_isInStep 64 = .ok (.goto 4, 3) := by decide +kernel
theorem dX10_isInStep_67 : decode cX10_isInStep 67 = .ok (.iconst 0, 1) := by decide +kernel
theorem dX10_isInStep_68 : decode cX10_isInStep 68 = .ok (.ireturn, 1) := by decide +kernel
theorem dX10_before_0 : decode cX10_before 0 = .ok (.aload_n 0, 1) := by decide +kernel
theorem dX10_before_1 : decode cX10_before 1 = .ok (.iload_n 1, 1) := by decide +kernel
theorem dX10_before_2 : decode cX10_before 2 = .ok (.iload_n 2, 1) := by decide +kernel
theorem dX10_before_3 : decode cX10_before 3 = .ok (.invokevirtual 113, 3) := by decide +kernel
theorem dX10_before_6 : decode cX10_before 6 = .ok (.aload_n 0, 1) := by decide +kernel
theorem dX10_before_7 : decode cX10_before 7 = .ok (.iload_n 1, 1) := by decide +kernel
theorem dX10_before_8 : decode cX10_before 8 = .ok (.iload_n 2, 1) := by decide +kernel
theorem dX10_before_9 : decode cX10_before 9 = .ok (.iconst 1, 1) := by decide +kernel
theorem dX10_before_10 : decode cX10_before 10 = .ok (.isub, 1) := by decide +kernel
theorem dX10_before_11 : decode cX10_before 11 = .ok (.invokevirtual 71, 3) := by decide +kernel
theorem dX10_before_14 : decode cX10_before 14 = .ok (.isub, 1) := by decide +kernel
theorem dX10_before_15 : decode cX10_before 15 = .ok (.ireturn, 1) := by decide +kernel
theorem dX10_problems_0 : decode cX10_problems 0 = .ok (.aload_n 0, 1) := by decide +kernel
theorem dX10_problems_1 : decode cX10_problems 1 = .ok (.iload_n 1, 1) := by decide +kernel
theorem dX10_problems_2 : decode cX10_problems 2 = .ok (.iload_n 2, 1) := by decide +kernel
theorem dX10_problems_3 : decode cX10_problems 3 = .ok (.invokevirtual 71, 3) := by decide +kernel
theorem dX10_problems_6 : decode cX10_problems 6 = .ok (.aload_n 0, 1) := by decide +kernel
theorem dX10_problems_7 : decode cX10_problems 7 = .ok (.iload_n 1, 1) := by decide +kernel
theorem dX10_problems_8 : decode cX10_problems 8 = .ok (.iload_n 2, 1) := by decide +kernel
theorem dX10_problems_9 : decode cX10_problems 9 = .ok (.invokevirtual 113, 3) := by decide +kernel
theorem dX10_problems_12 : decode cX10_problems 12 = .ok (.isub, 1) := by decide +kernel
theorem dX10_problems_13 : decode cX10_problems 13 = .ok (.aload_n 0, 1) := by decide +kernel
theorem dX10_problems_14 : decode cX10_problems 14 = .ok (.iload_n 1, 1) := by decide +kernel
theorem dX10_problems_15 : decode cX10_problems 15 = .ok (.iload_n 2, 1) := by decide +kernel
theorem dX10_problems_16 : decode cX10_problems 16 = .ok (.invokevirtual 122, 3) := by decide +kernel
theorem dX10_problems_19 : decode cX10_problems 19 = .ok (.if_icmp .ge 7, 3) := by decide +kernel
theorem dX10_problems_22 : decode cX10_problems 22 = .ok (.iconst 1, 1) := by decide +kernel
theorem dX10_problems_23 : decode cX10_problems 23 = .ok (.goto 4, 3) := by decide +kernel
theorem dX10_problems_26 : decode cX10_problems 26 = .ok (.iconst 0, 1) := by decide +kernel
theorem dX10_problems_27 : decode cX10_problems 27 = .ok (.istore_n 3, 1) := by decide +kernel
theorem dX10_problems_28 : decode cX10_problems 28 = .ok (.iload_n 3, 1) := by decide +kernel
theorem dX10_problems_29 : decode cX10_problems 29 = .ok (.aload_n 0, 1) := by decide +kernel
theorem dX10_problems_30 : decode cX10_problems 30 = .ok (.aload_n 0, 1) := by decide +kernel
theorem dX10_problems_31 : decode cX10_problems 31 = .ok (.iload_n 1, 1) := by decide +kernel
theorem dX10_problems_32 : decode cX10_problems 32 = .ok (.iload_n 2, 1) := by decide +kernel
theorem dX10_problems_33 : decode cX10_problems 33 = .ok (.invokevirtual 113, 3) := by decide +kernel
theorem dX10_problems_36 : decode cX10_problems 36 = .ok (.invokevirtual 125, 3) := by decide +kernel
theorem dX10_problems_39 : decode cX10_problems 39 = .ok (.ifCond .eq 7, 3) := by decide +kernel
theorem dX10_problems_42 : decode cX10_problems 42 = .ok (.iconst 2, 1) := by decide +kernel
theorem dX10_problems_43 : decode cX10_problems 43 = .ok (.goto 4, 3) := by decide +kernel
theorem dX10_problems_46 : decode cX10_problems 46 = .ok (.iconst 0, 1) := by decide +kernel
theorem dX10_problems_47 : decode cX10_problems 47 = .ok (.iadd, 1) := by decide +kernel
theorem dX10_problems_48 : decode cX10_problems 48 = .ok (.istore_n 3, 1) := by decide +kernel
theorem dX10_problems_49 : decode cX10_problems 49 = .ok (.iload_n 3, 1) := by decide +kernel
theorem dX10_problems_50 : decode cX10_problems 50 = .ok (.aload_n 0, 1) := by decide +kernel
theorem dX10_problems_51 : decode cX10_problems 51 = .ok (.aload_n 0, 1) := by decide +kernel
theorem dX10_problems_52 : decode cX10_problems 52 = .ok (.iload_n 1, 1) := by decide +kernel
theorem dX10_problems_53 : decode cX10_problems 53 = .ok (.iload_n 2, 1) := by decide +kernel
theorem dX10_problems_54 : decode cX10_problems 54 = .ok (.invokevirtual 71, 3) := by decide +kernel
theorem dX10_problems_57 : decode cX10_problems 57 = .ok (.invokevirtual 125, 3) := by decide +kernel
theorem dX10_problems_60 : decode cX10_problems 60 = .ok (.ifCond .eq 7, 3) := by decide +kernel
theorem dX10_problems_63 : decode cX10_problems 63 = .ok (.iconst 4, 1) := by decide +kernel
theorem dX10_problems_64 : decode cX10_problems 64 = .ok (.goto 4, 3) := by decide +kernel
theorem dX10_problems_67 : decode cX10_problems 67 = .ok (.iconst 0, 1) := by decide +kernel
theorem dX10_problems_68 : decode cX10_problems 68 = .ok (.iadd, 1) := by decide +kernel
theorem dX10_problems_69 : decode cX10_problems 69 = .ok (.istore_n 3, 1) := by decide +kernel
theorem dX10_problems_70 : decode cX10_problems 70 = .ok (.iload_n 3, 1) := by decide +kernel
theorem dX10_problems_71 : decode cX10_problems 71 = .ok (.iload_n 2, 1) := by decide +kernel
theorem dX10_problems_72 : decode cX10_problems 72 = .ok (.ifCond .le 29, 3) := by decide +kernel
theorem dX10_problems_75 : decode cX10_problems 75 = .ok (.aload_n 0, 1) := by decide +kernel
theorem dX10_problems_76 : decode cX10_problems 76 = .ok (.iload_n 1, 1) := by decide +kernel
theorem dX10_problems_77 : decode cX10_problems 77 = .ok (.iload_n 2, 1) := by decide +kernel
theorem dX10_problems_78 : decode cX10_problems 78 = .ok (.invokevirtual 128, 3) := by decide +kernel
theorem dX10_problems_81 : decode cX10_problems 81 = .ok (.iconst 1, 1) := by decide +kernel
theorem dX10_problems_82 : decode cX10_problems 82 = .ok (.aload_n 0, 1) := by decide +kernel
theorem dX10_problems_83 : decode cX10_problems 83 = .ok (.getfield 7, 3) := by decide +kernel
theorem dX10_problems_86 : decode cX10_problems 86 = .ok (.iconst 3, 1) := by decide +kernel
theorem dX10_problems_87 : decode cX10_problems 87 = .ok (.iaload, 1) := by decide +kernel
theorem dX10_problems_88 : decode cX10_problems 88 = .ok (.iconst 1, 1) := by decide +kernel
theorem dX10_problems_89 : decode cX10_problems 89 = .ok (.isub, 1) := by decide +kernel
theorem dX10_problems_90 : decode cX10_problems 90 = .ok (.invokestatic 48, 3) := by decide +kernel
theorem dX10_problems_93 : decode cX10_problems 93 = .ok (.ifCond .eq 8, 3) := by decide +kernel
theorem dX10_problems_96 : decode cX10_problems 96 = .ok (.bipush 8, 2) := by decide +kernel
theorem dX10_problems_98 : decode cX10_problems 98 = .ok (.goto 4, 3) := by decide +kernel
theorem dX10_problems_101 : decode cX10_problems 101 = .ok (.iconst 0, 1) := by decide +kernel
theorem dX10_problems_102 : decode cX10_problems 102 = .ok (.iadd, 1) := by decide +kernel
theorem dX10_problems_103 : decode cX10_problems 103 = .ok (.istore_n 3, 1) := by decide +kernel
theorem dX10_problems_104 : decode cX10_problems 104 = .ok (.iload_n 3, 1) := by decide +kernel
theorem dX10_problems_105 : decode cX10_problems 105 = .ok (.aload_n 0, 1) := by decide +kernel
theorem dX10_problems_106 : decode cX10_problems 106 = .ok (.iload_n 1, 1) := by decide +kernel
theorem dX10_problems_107 : decode cX10_problems 107 = .ok (.iload_n 2, 1) := by decide +kernel
theorem dX10_problems_108 : decode cX10_problems 108 = .ok (.invokevirtual 131, 3) := by decide +kernel
theorem dX10_problems_111 : decode cX10_problems 111 = .ok (.aload_n 0, 1) := by decide +kernel
theorem dX10_problems_112 : decode cX10_problems 112 = .ok (.getfield 7, 3) := by decide +kernel
theorem dX10_problems_115 : decode cX10_problems 115 = .ok (.bipush 6, 2) := by decide +kernel
theorem dX10_problems_117 : decode cX10_problems 117 = .ok (.iaload, 1) := by decide +kernel
theorem dX10_problems_118 : decode cX10_problems 118 = .ok (.if_icmp .le 8, 3) := by decide +kernel
theorem dX10_problems_121 : decode cX10_problems 121 = .ok (.bipush 16, 2) := by decide +kernel
theorem dX10_problems_123 : decode cX10_problems 123 = .ok (.goto 4, 3) := by decide +kernel
theorem dX10_problems_126 : decode cX10_problems 126 = .ok (.iconst 0, 1) := by decide +kernel
theorem dX10_problems_127 : decode cX10_problems 127 = .ok (.iadd, 1) := by decide +kernel
theorem dX10_problems_128 : decode cX10_problems 128 = .ok (.istore_n 3, 1) := by decide +kernel
theorem dX10_problems_129 : decode cX10_problems 129 = .ok (.iload_n 3, 1) := by decide +kernel
theorem dX10_problems_130 : decode cX10_problems 130 = .ok (.aload_n 0, 1) := by decide +kernel
theorem dX10_problems_131 : decode cX10_problems 131 = .ok (.getfield 7, 3) := by decide +kernel
theorem dX10_problems_134 : decode cX10_problems 134 = .ok (.iload_n 1, 1) := by decide +kernel
theorem dX10_problems_135 : decode cX10_problems 135 = .ok (.iload_n 2, 1) := by decide +kernel
theorem dX10_problems_136 : decode cX10_problems 136 = .ok (.iconst 2, 1) := by decide +kernel
theorem dX10_problems_137 : decode cX10_problems 137 = .ok (.invokestatic 56, 3) := by decide +kernel
theorem dX10_problems_140 : decode cX10_problems 140 = .ok (.iaload, 1) := by decide +kernel
theorem dX10_problems_141 : decode cX10_problems 141 = .ok (.iconst 1, 1) := by decide +kernel
theorem dX10_problems_142 : decode cX10_problems 142 = .ok (.if_icmp .eq 17, 3) := by decide +kernel
theorem dX10_problems_145 : decode cX10_problems 145 = .ok (.aload_n 0, 1) := by decide +kernel
theorem dX10_problems_146 : decode cX10_problems 146 = .ok (.iload_n 1, 1) := by decide +kernel
theorem dX10_problems_147 : decode cX10_problems 147 = .ok (.iload_n 2, 1) := by decide +kernel
theorem dX10_problems_148 : decode cX10_problems 148 = .ok (.invokevirtual 134, 3) := by decide +kernel
theorem dX10_problems_151 : decode cX10_problems 151 = .ok (.ifCond .ne 8, 3) := by decide +kernel
theorem dX10_problems_154 : decode cX10_problems 154 = .ok (.bipush 32, 2) := by decide +kernel
theorem dX10_problems_156 : decode cX10_problems 156 = .ok (.goto 4, 3) := by decide +kernel
theorem dX10_problems_159 : decode cX10_problems 159 = .ok (.iconst 0, 1) := by decide +kernel
theorem dX10_problems_160 : decode cX10_problems 160 = .ok (.iadd, 1) := by decide +kernel
theorem dX10_problems_161 : decode cX10_problems 161 = .ok (.ireturn, 1) := by decide +kernel
theorem dX10_cutsWithin_0 : decode cX10_cutsWithin 0 = .ok (.iconst 0, 1) := by decide +kernel
theorem dX10_cutsWithin_1 : decode cX10_cutsWithin 1 = .ok (.istore_n 3, 1) := by decide +kernel
theorem dX10_cutsWithin_2 : decode cX10_cutsWithin 2 = .ok (.iconst 0, 1) := by decide +kernel
theorem dX10_cutsWithin_3 : decode cX10_cutsWithin 3 = .ok (.istore 4, 2) := by decide +kernel
theorem dX10_cutsWithin_5 : decode cX10_cutsWithin 5 = .ok (.iload 4, 2) := by decide +kernel
theorem dX10_cutsWithin_7 : decode cX10_cutsWithin 7 = .ok (.aload_n 0, 1) := by decide +kernel
theorem dX10_cutsWithin_8 : decode cX10_cutsWithin 8 = .ok (.getfield 7, 3) := by decide +kernel
theorem dX10_cutsWithin_11 : decode cX10_cutsWithin 11 = .ok (.bipush 7, 2) := by decide +kernel
theorem dX10_cutsWithin_13 : decode cX10_cutsWithin 13 = .ok (.iaload, 1) := by decide +kernel
theorem dX10_cutsWithin_14 : decode cX10_cutsWithin 14 = .ok (.if_icmp .ge 49, 3) := by decide +kernel
theorem dX10_cutsWithin_17 : decode cX10_cutsWithin 17 = .ok (.iload_n 3, 1) := by decide +kernel
theorem dX10_cutsWithin_18 : decode cX10_cutsWithin 18 = .ok (.aload_n 0, 1) := by decide +kernel
theorem dX10_cutsWithin_19 : decode cX10_cutsWithin 19 = .ok (.getfield 7, 3) := by decide +kernel
theorem dX10_cutsWithin_22 : decode cX10_cutsWithin 22 = .ok (.bipush 8, 2) := by decide +kernel
theorem dX10_cutsWithin_24 : decode cX10_cutsWithin 24 = .ok (.iload 4, 2) := by decide +kernel
theorem dX10_cutsWithin_26 : decode cX10_cutsWithin 26 = .ok (.iadd, 1) := by decide +kernel
theorem dX10_cutsWithin_27 : decode cX10_cutsWithin 27 = .ok (.iaload, 1) := by decide +kernel
theorem dX10_cutsWithin_28 : decode cX10_cutsWithin 28 = .ok (.aload_n 0, 1) := by decide +kernel
theorem dX10_cutsWithin_29 : decode cX10_cutsWithin 29 = .ok (.iload_n 1, 1) := by decide +kernel
theorem dX10_cutsWithin_30 : decode cX10_cutsWithin 30 = .ok (.iload_n 2, 1) := by decide +kernel
theorem dX10_cutsWithin_31 : decode cX10_cutsWithin 31 = .ok (.invokevirtual 113, 3) := by decide +kernel
theorem dX10_cutsWithin_34 : decode cX10_cutsWithin 34 = .ok (.iconst 1, 1) := by decide +kernel
theorem dX10_cutsWithin_35 : decode cX10_cutsWithin 35 = .ok (.iadd, 1) := by decide +kernel
theorem dX10_cutsWithin_36 : decode cX10_cutsWithin 36 = .ok (.aload_n 0, 1) := by decide +kernel
theorem dX10_cutsWithin_37 : decode cX10_cutsWithin 37 = .ok (.iload_n 1, 1) := by decide +kernel
theorem dX10_cutsWithin_38 : decode cX10_cutsWithin 38 = .ok (.iload_n 2, 1) := by decide +kernel
theorem dX10_cutsWithin_39 : decode cX10_cutsWithin 39 = .ok (.invokevirtual 71, 3) := by decide +kernel
theorem dX10_cutsWithin_42 : decode cX10_cutsWithin 42 = .ok (.iconst 1, 1) := by decide +kernel
theorem dX10_cutsWithin_43 : decode cX10_cutsWithin 43 = .ok (.isub, 1) := by decide +kernel
theorem dX10_cutsWithin_44 : decode cX10_cutsWithin 44 = .ok (.invokestatic 48, 3) := by decide +kernel
theorem dX10_cutsWithin_47 : decode cX10_cutsWithin 47 = .ok (.ifCond .eq 7, 3) := by decide +kernel
theorem dX10_cutsWithin_50 : decode cX10_cutsWithin 50 = .ok (.iconst 1, 1) := by decide +kernel
theorem dX10_cutsWithin_51 : decode cX10_cutsWithin 51 = .ok (.goto 4, 3) := by decide +kernel
theorem dX10_cutsWithin_54 : decode cX10_cutsWithin 54 = .ok (.iconst 0, 1) := by decide +kernel
theorem dX10_cutsWithin_55 : decode cX10_cutsWithin 55 = .ok (.iadd, 1) := by decide +kernel
theorem dX10_cutsWithin_56 : decode cX10_cutsWithin 56 = .ok (.istore_n 3, 1) := by decide +kernel
theorem dX10_cutsWithin_57 : decode cX10_cutsWithin 57 = .ok (.iinc 4 1, 3) := by decide +kernel
theorem dX10_cutsWithin_60 : decode cX10_cutsWithin 60 = .ok (.goto (-55), 3) := by decide +kernel
theorem dX10_cutsWithin_63 : decode cX10_cutsWithin 63 = .ok (.iload_n 3, 1) := by decide +kernel
theorem dX10_cutsWithin_64 : decode cX10_cutsWithin 64 = .ok (.ireturn, 1) := by decide +kernel
theorem dX10_feed_0 : decode cX10_feed 0 = .ok (.aload_n 0, 1) := by decide +kernel
theorem dX10_feed_1 : decode cX10_feed 1 = .ok (.aload_n 0, 1) := by decide +kernel
theorem dX10_feed_2 : decode cX10_feed 2 = .ok (.getfield 137, 3) := by decide +kernel
theorem dX10_feed_5 : decode cX10_feed 5 = .ok (.bipush 60, 2) := by decide +kernel
theorem dX10_feed_7 : decode cX10_feed 7 = .ok (.if_icmp .ne 7, 3) := by decide +kernel
theorem dX10_feed_10 : decode cX10_feed 10 = .ok (.iconst 1, 1) := by decide +kernel
theorem dX10_feed_11 : decode cX10_feed 11 = .ok (.goto 4, 3) := by decide +kernel
theorem dX10_feed_14 : decode cX10_feed 14 = .ok (.iconst 0, 1) := by decide +kernel
theorem dX10_feed_15 : decode cX10_feed 15 = .ok (.putfield 35, 3) := by decide +kernel
theorem dX10_feed_18 : decode cX10_feed 18 = .ok (.aload_n 0, 1) := by decide +kernel
theorem dX10_feed_19 : decode cX10_feed 19 = .ok (.getfield 35, 3) := by decide +kernel
theorem dX10_feed_22 : decode cX10_feed 22 = .ok (.ifCond .le 5, 3) := by decide +kernel
theorem dX10_feed_25 : decode cX10_feed 25 = .ok (.iconst 0, 1) := by decide +kernel
theorem dX10_feed_26 : decode cX10_feed 26 = .ok (.ireturn, 1) := by decide +kernel
theorem dX10_feed_27 : decode cX10_feed 27 = .ok (.aload_n 0, 1) := by decide +kernel
theorem dX10_feed_28 : decode cX10_feed 28 = .ok (.getfield 29, 3) := by decide +kernel
theorem dX10_feed_31 : decode cX10_feed 31 = .ok (.aload_n 0, 1) := by decide +kernel
theorem dX10_feed_32 : decode cX10_feed 32 = .ok (.getfield 137, 3) := by decide +kernel
theorem dX10_feed_35 : decode cX10_feed 35 = .ok (.iload_n 1, 1) := by decide +kernel
theorem dX10_feed_36 : decode cX10_feed 36 = .ok (.iastore, 1) := by decide +kernel
theorem dX10_feed_37 : decode cX10_feed 37 = .ok (.aload_n 0, 1) := by decide +kernel
theorem dX10_feed_38 : decode cX10_feed 38 = .ok (.dup, 1) := by decide +kernel
theorem dX10_feed_39 : decode cX10_feed 39 = .ok (.getfield 137, 3) := by decide +kernel
theorem dX10_feed_42 : decode cX10_feed 42 = .ok (.iconst 1, 1) := by decide +kernel
theorem dX10_feed_43 : decode cX10_feed 43 = .ok (.iadd, 1) := by decide +kernel
theorem dX10_feed_44 : decode cX10_feed 44 = .ok (.putfield 137, 3) := by decide +kernel
theorem dX10_feed_47 : decode cX10_feed 47 = .ok (.aload_n 0, 1) := by decide +kernel
theorem dX10_feed_48 : decode cX10_feed 48 = .ok (.getfield 137, 3) := by decide +kernel
theorem dX10_feed_51 : decode cX10_feed 51 = .ok (.ireturn, 1) := by decide +kernel
theorem dX10_againstPlace_0 : decode cX10_againstPlace 0 = .ok (.iload_n 3, 1) := by decide +kernel
theorem dX10_againstPlace_1 : decode cX10_againstPlace 1 = .ok (.ifCond .lt 14, 3) := by decide +kernel
theorem dX10_againstPlace_4 : decode cX10_againstPlace 4 = .ok (.iload 4, 2) := by decide +kernel
theorem dX10_againstPlace_6 : decode cX10_againstPlace 6 = .ok (.aload_n 0, 1) := by decide +kernel
theorem dX10_againstPlace_7 : decode cX10_againstPlace 7 = .ok (.getfield 7, 3) := by decide +kernel
theorem dX10_againstPlace_10 : decode cX10_againstPlace 10 = .ok (.iconst 0, 1) := by decide +kernel
theorem dX10_againstPlace_11 : decode cX10_againstPlace 11 = .ok (.iaload, 1) := by decide +kernel
theorem dX10_againstPlace_12 : decode cX10_againstPlace 12 = .ok (.if_icmp .le 5, 3) := by decide +kernel
theorem dX10_againstPlace_15 : decode cX10_againstPlace 15 = .ok (.iconst 1, 1) := by decide +kernel
theorem dX10_againstPlace_16 : decode cX10_againstPlace 16 = .ok (.ireturn, 1) := by decide +kernel
theorem dX10_againstPlace_17 : decode cX10_againstPlace 17 = .ok (.iload_n 3, 1) := by decide +kernel
theorem dX10_againstPlace_18 : decode cX10_againstPlace 18 = .ok (.iload 4, 2) := by decide +kernel
theorem dX10_againstPlace_20 : decode cX10_againstPlace 20 = .ok (.if_icmp .lt 5, 3) := by decide +kernel
theorem dX10_againstPlace_23 : decode cX10_againstPlace 23 = .ok (.iconst 2, 1) := by decide +kernel
theorem dX10_againstPlace_24 : decode cX10_againstPlace 24 = .ok (.ireturn, 1) := by decide +kernel
theorem dX10_againstPlace_25 : decode cX10_againstPlace 25 = .ok (.iconst 0, 1) := by decide +kernel
theorem dX10_againstPlace_26 : decode cX10_againstPlace 26 = .ok (.istore 5, 2) := by decide +kernel
theorem dX10_againstPlace_28 : decode cX10_againstPlace 28 = .ok (.iload 5, 2) := by decide +kernel
theorem dX10_againstPlace_30 : decode cX10_againstPlace 30 = .ok (.aload_n 0, 1) := by decide +kernel
theorem dX10_againstPlace_31 : decode cX10_againstPlace 31 = .ok (.getfield 7, 3) := by decide +kernel
theorem dX10_againstPlace_34 : decode cX10_againstPlace 34 = .ok (.bipush 28, 2) := by decide +kernel
theorem dX10_againstPlace_36 : decode cX10_againstPlace 36 = .ok (.iload_n 1, 1) := by decide +kernel
theorem dX10_againstPlace_37 : decode cX10_againstPlace 37 = .ok (.iadd, 1) := by decide +kernel
theorem dX10_againstPlace_38 : decode cX10_againstPlace 38 = .ok (.iaload, 1) := by decide +kernel
theorem dX10_againstPlace_39 : decode cX10_againstPlace 39 = .ok (.if_icmp .ge 40, 3) := by decide +kernel
theorem dX10_againstPlace_42 : decode cX10_againstPlace 42 = .ok (.iload 5, 2) := by decide +kernel
theorem dX10_againstPlace_44 : decode cX10_againstPlace 44 = .ok (.iload_n 2, 1) := by decide +kernel
theorem dX10_againstPlace_45 : decode cX10_againstPlace 45 = .ok (.if_icmp .eq 28, 3) := by decide +kernel
theorem dX10_againstPlace_48 : decode cX10_againstPlace 48 = .ok (.iload_n 3, 1) := by decide +kernel
theorem dX10_againstPlace_49 : decode cX10_againstPlace 49 = .ok (.aload_n 0, 1) := by decide +kernel
theorem dX10_againstPlace_50 : decode cX10_againstPlace 50 = .ok (.iload_n 1, 1) := by decide +kernel
theorem dX10_againstPlace_51 : decode cX10_againstPlace 51 = .ok (.iload 5, 2) := by decide +kernel
theorem dX10_againstPlace_53 : decode cX10_againstPlace 53 = .ok (.invokevirtual 71, 3) := by decide +kernel
theorem dX10_againstPlace_56 : decode cX10_againstPlace 56 = .ok (.if_icmp .ge 17, 3) := by decide +kernel
theorem dX10_againstPlace_59 : decode cX10_againstPlace 59 = .ok (.iload 4, 2) := by decide +kernel
theorem dX10_againstPlace_61 : decode cX10_againstPlace 61 = .ok (.aload_n 0, 1) := by decide +kernel
theorem dX10_againstPlace_62 : decode cX10_againstPlace 62 = .ok (.iload_n 1, 1) := by decide +kernel
theorem dX10_againstPlace_63 : decode cX10_againstPlace 63 = .ok (.iload 5, 2) := by decide +kernel
theorem dX10_againstPlace_65 : decode cX10_againstPlace 65 = .ok (.invokevirtual 113, 3) := by decide +kernel
theorem dX10_againstPlace_68 : decode cX10_againstPlace 68 = .ok (.if_icmp .le 5, 3) := by decide +kernel
theorem dX10_againstPlace_71 : decode cX10_againstPlace 71 = .ok (.iconst 3, 1) := by decide +kernel
theorem dX10_againstPlace_72 : decode cX10_againstPlace 72 = .ok (.ireturn, 1) := by decide +kernel
theorem dX10_againstPlace_73 : decode cX10_againstPlace 73 = .ok (.iinc 5 1, 3) := by decide +kernel
theorem dX10_againstPlace_76 : decode cX10_againstPlace 76 = .ok (.goto (-48), 3) := by decide +kernel
theorem dX10_againstPlace_79 : decode cX10_againstPlace 79 = .ok (.iconst 0, 1) := by decide +kernel
theorem dX10_againstPlace_80 : decode cX10_againstPlace 80 = .ok (.ireturn, 1) := by decide +kernel
theorem dX10_againstAdd_0 : decode cX10_againstAdd 0 = .ok (.aload_n 0, 1) := by decide +kernel
theorem dX10_againstAdd_1 : decode cX10_againstAdd 1 = .ok (.iload_n 1, 1) := by decide +kernel
theorem dX10_againstAdd_2 : decode cX10_againstAdd 2 = .ok (.iconst (-1), 1) := by decide +kernel
theorem dX10_againstAdd_3 : decode cX10_againstAdd 3 = .ok (.iload_n 2, 1) := by decide +kernel
theorem dX10_againstAdd_4 : decode cX10_againstAdd 4 = .ok (.iload_n 3, 1) := by decide +kernel
theorem dX10_againstAdd_5 : decode cX10_againstAdd 5 = .ok (.invokevirtual 140, 3) := by decide +kernel
theorem dX10_againstAdd_8 : decode cX10_againstAdd 8 = .ok (.istore 6, 2) := by decide +kernel
theorem dX10_againstAdd_10 : decode cX10_againstAdd 10 = .ok (.iload 6, 2) := by decide +kernel
theorem dX10_againstAdd_12 : decode cX10_againstAdd 12 = .ok (.ifCond .le 8, 3) := by decide +kernel
theorem dX10_againstAdd_15 : decode cX10_againstAdd 15 = .ok (.iload 6, 2) := by decide +kernel
theorem dX10_againstAdd_17 : decode cX10_againstAdd 17 = .ok (.goto 41, 3) := by decide +kernel
theorem dX10_againstAdd_20 : decode cX10_againstAdd 20 = .ok (.aload_n 0, 1) := by decide +kernel
theorem dX10_againstAdd_21 : decode cX10_againstAdd 21 = .ok (.getfield 29, 3) := by decide +kernel
theorem dX10_againstAdd_24 : decode cX10_againstAdd 24 = .ok (.iload 4, 2) := by decide +kernel
theorem dX10_againstAdd_26 : decode cX10_againstAdd 26 = .ok (.iload 5, 2) := by decide +kernel
theorem dX10_againstAdd_28 : decode cX10_againstAdd 28 = .ok (.invokestatic 144, 3) := by decide +kernel
theorem dX10_againstAdd_31 : decode cX10_againstAdd 31 = .ok (.ifCond .ne 7, 3) := by decide +kernel
theorem dX10_againstAdd_34 : decode cX10_againstAdd 34 = .ok (.iconst 4, 1) := by decide +kernel
theorem dX10_againstAdd_35 : decode cX10_againstAdd 35 = .ok (.goto 23, 3) := by decide +kernel
theorem dX10_againstAdd_38 : decode cX10_againstAdd 38 = .ok (.aload_n 0, 1) := by decide +kernel
theorem dX10_againstAdd_39 : decode cX10_againstAdd 39 = .ok (.getfield 7, 3) := by decide +kernel
theorem dX10_againstAdd_42 : decode cX10_againstAdd 42 = .ok (.bipush 28, 2) := by decide +kernel
theorem dX10_againstAdd_44 : decode cX10_againstAdd 44 = .ok (.iload_n 1, 1) := by decide +kernel
theorem dX10_againstAdd_45 : decode cX10_againstAdd 45 = .ok (.iadd, 1) := by decide +kernel
theorem dX10_againstAdd_46 : decode cX10_againstAdd 46 = .ok (.iaload, 1) := by decide +kernel
theorem dX10_againstAdd_47 : decode cX10_againstAdd 47 = .ok (.bipush 16, 2) := by decide +kernel
theorem dX10_againstAdd_49 : decode cX10_againstAdd 49 = .ok (.if_icmp .ne 8, 3) := by decide +kernel
theorem dX10_againstAdd_52 : decode cX10_againstAdd 52 = .ok (.bipush 8, 2) := by decide +kernel
theorem dX10_againstAdd_54 : decode cX10_againstAdd 54 = .ok (.goto 4, 3) := by decide +kernel
theorem dX10_againstAdd_57 : decode cX10_againstAdd 57 = .ok (.iconst 0, 1) := by decide +kernel
theorem dX10_againstAdd_58 : decode cX10_againstAdd 58 = .ok (.ireturn, 1) := by decide +kernel
theorem dX10_puts_0 : decode cX10_puts 0 = .ok (.aload_n 0, 1) := by decide +kernel
theorem dX10_puts_1 : decode cX10_puts 1 = .ok (.getfield 7, 3) := by decide +kernel
theorem dX10_puts_4 : decode cX10_puts 4 = .ok (.bipush 28, 2) := by decide +kernel
theorem dX10_puts_6 : decode cX10_puts 6 = .ok (.iload_n 1, 1) := by decide +kernel
theorem dX10_puts_7 : decode cX10_puts 7 = .ok (.iadd, 1) := by decide +kernel
theorem dX10_puts_8 : decode cX10_puts 8 = .ok (.iaload, 1) := by decide +kernel
theorem dX10_puts_9 : decode cX10_puts 9 = .ok (.istore_n 2, 1) := by decide +kernel
theorem dX10_puts_10 : decode cX10_puts 10 = .ok (.iload_n 2, 1) := by decide +kernel
theorem dX10_puts_11 : decode cX10_puts 11 = .ok (.ifCond .le 64, 3) := by decide +kernel
theorem dX10_puts_14 : decode cX10_puts 14 = .ok (.aload_n 0, 1) := by decide +kernel
theorem dX10_puts_15 : decode cX10_puts 15 = .ok (.iload_n 1, 1) := by decide +kernel
theorem dX10_puts_16 : decode cX10_puts 16 = .ok (.iload_n 2, 1) := by decide +kernel
theorem dX10_puts_17 : decode cX10_puts 17 = .ok (.iconst 1, 1) := by decide +kernel
theorem dX10_puts_18 : decode cX10_puts 18 = .ok (.isub, 1) := by decide +kernel
theorem dX10_puts_19 : decode cX10_puts 19 = .ok (.invokevirtual 113, 3) := by decide +kernel
theorem dX10_puts_22 : decode cX10_puts 22 = .ok (.aload_n 0, 1) := by decide +kernel
theorem dX10_puts_23 : decode cX10_puts 23 = .ok (.getfield 22, 3) := by decide +kernel
theorem dX10_puts_26 : decode cX10_puts 26 = .ok (.iconst 0, 1) := by decide +kernel
theorem dX10_puts_27 : decode cX10_puts 27 = .ok (.iaload, 1) := by decide +kernel
theorem dX10_puts_28 : decode cX10_puts 28 = .ok (.if_icmp .le 47, 3) := by decide +kernel
theorem dX10_puts_31 : decode cX10_puts 31 = .ok (.iconst 0, 1) := by decide +kernel
theorem dX10_puts_32 : decode cX10_puts 32 = .ok (.istore_n 3, 1) := by decide +kernel
theorem dX10_puts_33 : decode cX10_puts 33 = .ok (.iload_n 3, 1) := by decide +kernel
theorem dX10_puts_34 : decode cX10_puts 34 = .ok (.bipush 28, 2) := by decide +kernel
theorem dX10_puts_36 : decode cX10_puts 36 = .ok (.if_icmp .ge 33, 3) := by decide +kernel
theorem dX10_puts_39 : decode cX10_puts 39 = .ok (.aload_n 0, 1) := by decide +kernel
theorem dX10_puts_40 : decode cX10_puts 40 = .ok (.getfield 7, 3) := by decide +kernel
theorem dX10_puts_43 : decode cX10_puts 43 = .ok (.iload_n 1, 1) := by decide +kernel
theorem dX10_puts_44 : decode cX10_puts 44 = .ok (.iload_n 2, 1) := by decide +kernel
theorem dX10_puts_45 : decode cX10_puts 45 = .ok (.iload_n 3, 1) := by decide +kernel
theorem dX10_puts_46 : decode cX10_puts 46 = .ok (.invokestatic 56, 3) := by decide +kernel
theorem dX10_puts_49 : decode cX10_puts 49 = .ok (.aload_n 0, 1) := by decide +kernel
theorem dX10_puts_50 : decode cX10_puts 50 = .ok (.getfield 7, 3) := by decide +kernel
theorem dX10_puts_53 : decode cX10_puts 53 = .ok (.iload_n 1, 1) := by decide +kernel
theorem dX10_puts_54 : decode cX10_puts 54 = .ok (.iload_n 2, 1) := by decide +kernel
theorem dX10_puts_55 : decode cX10_puts 55 = .ok (.iconst 1, 1) := by decide +kernel
theorem dX10_puts_56 : decode cX10_puts 56 = .ok (.isub, 1) := by decide +kernel
theorem dX10_puts_57 : decode cX10_puts 57 = .ok (.iload_n 3, 1) := by decide +kernel
theorem dX10_puts_58 : decode cX10_puts 58 = .ok (.invokestatic 56, 3) := by decide +kernel
theorem dX10_puts_61 : decode cX10_puts 61 = .ok (.iaload, 1) := by decide +kernel
theorem dX10_puts_62 : decode cX10_puts 62 = .ok (.iastore, 1) := by decide +kernel
theorem dX10_puts_63 : decode cX10_puts 63 = .ok (.iinc 3 1, 3) := by decide +kernel
theorem dX10_puts_66 : decode cX10_puts 66 = .ok (.goto (-33), 3) := by decide +kernel
theorem dX10_puts_69 : decode cX10_puts 69 = .ok (.iinc 2 (-1), 3) := by decide +kernel
theorem dX10_puts_72 : decode cX10_puts 72 = .ok (.goto (-62), 3) := by decide +kernel
theorem dX10_puts_75 : decode cX10_puts 75 = .ok (.iconst 0, 1) := by decide +kernel
theorem dX10_puts_76 : decode cX10_puts 76 = .ok (.istore_n 3, 1) := by decide +kernel
theorem dX10_puts_77 : decode cX10_puts 77 = .ok (.iload_n 3, 1) := by decide +kernel
theorem dX10_puts_78 : decode cX10_puts 78 = .ok (.bipush 28, 2) := by decide +kernel
theorem dX10_puts_80 : decode cX10_puts 80 = .ok (.if_icmp .ge 26, 3) := by decide +kernel
theorem dX10_puts_83 : decode cX10_puts 83 = .ok (.aload_n 0, 1) := by decide +kernel
theorem dX10_puts_84 : decode cX10_puts 84 = .ok (.getfield 7, 3) := by decide +kernel
theorem dX10_puts_87 : decode cX10_puts 87 = .ok (.iload_n 1, 1) := by decide +kernel
theorem dX10_puts_88 : decode cX10_puts 88 = .ok (.iload_n 2, 1) := by decide +kernel
theorem dX10_puts_89 : decode cX10_puts 89 = .ok (.iload_n 3, 1) := by decide +kernel
theorem dX10_puts_90 : decode cX10_puts 90 = .ok (.invokestatic 56, 3) := by decide +kernel
theorem dX10_puts_93 : decode cX10_puts 93 = .ok (.aload_n 0, 1) := by decide +kernel
theorem dX10_puts_94 : decode cX10_puts 94 = .ok (.getfield 22, 3) := by decide +kernel
theorem dX10_puts_97 : decode cX10_puts 97 = .ok (.iload_n 3, 1) := by decide +kernel
theorem dX10_puts_98 : decode cX10_puts 98 = .ok (.iaload, 1) := by decide +kernel
theorem dX10_puts_99 : decode cX10_puts 99 = .ok (.iastore, 1) := by decide +kernel
theorem dX10_puts_100 : decode cX10_puts 100 = .ok (.iinc 3 1, 3) := by decide +kernel
theorem dX10_puts_103 : decode cX10_puts 103 = .ok (.goto (-26), 3) := by decide +kernel
theorem dX10_puts_106 : decode cX10_puts 106 = .ok (.aload_n 0, 1) := by decide +kernel
theorem dX10_puts_107 : decode cX10_puts 107 = .ok (.getfield 7, 3) := by decide +kernel
theorem dX10_puts_110 : decode cX10_puts 110 = .ok (.bipush 28, 2) := by decide +kernel
theorem dX10_puts_112 : decode cX10_puts 112 = .ok (.iload_n 1, 1) := by decide +kernel
theorem dX10_puts_113 : decode cX10_puts 113 = .ok (.iadd, 1) := by decide +kernel
theorem dX10_puts_114 : decode cX10_puts 114 = .ok (.dup2, 1) := by decide +kernel
theorem dX10_puts_115 : decode cX10_puts 115 = .ok (.iaload, 1) := by decide +kernel
theorem dX10_puts_116 : decode cX10_puts 116 = .ok (.iconst 1, 1) := by decide +kernel
theorem dX10_puts_117 : decode cX10_puts 117 = .ok (.iadd, 1) := by decide +kernel
theorem dX10_puts_118 : decode cX10_puts 118 = .ok (.iastore, 1) := by decide +kernel
theorem dX10_puts_119 : decode cX10_puts 119 = .ok (.iload_n 2, 1) := by decide +kernel
theorem dX10_puts_120 : decode cX10_puts 120 = .ok (.ireturn, 1) := by decide +kernel
theorem dX10_takes_0 : decode cX10_takes 0 = .ok (.aload_n 0, 1) := by decide +kernel
theorem dX10_takes_1 : decode cX10_takes 1 = .ok (.getfield 7, 3) := by decide +kernel
theorem dX10_takes_4 : decode cX10_takes 4 = .ok (.bipush 28, 2) := by decide +kernel
theorem dX10_takes_6 : decode cX10_takes 6 = .ok (.iload_n 1, 1) := by decide +kernel
theorem dX10_takes_7 : decode cX10_takes 7 = .ok (.iadd, 1) := by decide +kernel
theorem dX10_takes_8 : decode cX10_takes 8 = .ok (.dup2, 1) := by decide +kernel
theorem dX10_takes_9 : decode cX10_takes 9 = .ok (.iaload, 1) := by decide +kernel
theorem dX10_takes_10 : decode cX10_takes 10 = .ok (.iconst 1, 1) := by decide +kernel
theorem dX10_takes_11 : decode cX10_takes 11 = .ok (.isub, 1) := by decide +kernel
theorem dX10_takes_12 : decode cX10_takes 12 = .ok (.iastore, 1) := by decide +kernel
theorem dX10_takes_13 : decode cX10_takes 13 = .ok (.iload_n 2, 1) := by decide +kernel
theorem dX10_takes_14 : decode cX10_takes 14 = .ok (.istore_n 3, 1) := by decide +kernel
theorem dX10_takes_15 : decode cX10_takes 15 = .ok (.iload_n 3, 1) := by decide +kernel
theorem dX10_takes_16 : decode cX10_takes 16 = .ok (.aload_n 0, 1) := by decide +kernel
theorem dX10_takes_17 : decode cX10_takes 17 = .ok (.getfield 7, 3) := by decide +kernel
theorem dX10_takes_20 : decode cX10_takes 20 = .ok (.bipush 28, 2) := by decide +kernel
theorem dX10_takes_22 : decode cX10_takes 22 = .ok (.iload_n 1, 1) := by decide +kernel
theorem dX10_takes_23 : decode cX10_takes 23 = .ok (.iadd, 1) := by decide +kernel
theorem dX10_takes_24 : decode cX10_takes 24 = .ok (.iaload, 1) := by decide +kernel
theorem dX10_takes_25 : decode cX10_takes 25 = .ok (.if_icmp .ge 51, 3) := by decide +kernel
theorem dX10_takes_28 : decode cX10_takes 28 = .ok (.iconst 0, 1) := by decide +kernel
theorem dX10_takes_29 : decode cX10_takes 29 = .ok (.istore 4, 2) := by decide +kernel
theorem dX10_takes_31 : decode cX10_takes 31 = .ok (.iload 4, 2) := by decide +kernel
theorem dX10_takes_33 : decode cX10_takes 33 = .ok (.bipush 28, 2) := by decide +kernel
theorem dX10_takes_35 : decode cX10_takes 35 = .ok (.if_icmp .ge 35, 3) := by decide +kernel
theorem dX10_takes_38 : decode cX10_takes 38 = .ok (.aload_n 0, 1) := by decide +kernel
theorem dX10_takes_39 : decode cX10_takes 39 = .ok (.getfield 7, 3) := by decide +kernel
theorem dX10_takes_42 : decode cX10_takes 42 = .ok (.iload_n 1, 1) := by decide +kernel
theorem dX10_takes_43 : decode cX10_takes 43 = .ok (.iload_n 3, 1) := by decide +kernel
theorem dX10_takes_44 : decode cX10_takes 44 = .ok (.iload 4, 2) := by decide +kernel
theorem dX10_takes_46 : decode cX10_takes 46 = .ok (.invokestatic 56, 3) := by decide +kernel
theorem dX10_takes_49 : decode cX10_takes 49 = .ok (.aload_n 0, 1) := by decide +kernel
theorem dX10_takes_50 : decode cX10_takes 50 = .ok (.getfield 7, 3) := by decide +kernel
theorem dX10_takes_53 : decode cX10_takes 53 = .ok (.iload_n 1, 1) := by decide +kernel
theorem dX10_takes_54 : decode cX10_takes 54 = .ok (.iload_n 3, 1) := by decide +kernel
theorem dX10_takes_55 : decode cX10_takes 55 = .ok (.iconst 1, 1) := by decide +kernel
theorem dX10_takes_56 : decode cX10_takes 56 = .ok (.iadd, 1) := by decide +kernel
theorem dX10_takes_57 : decode cX10_takes 57 = .ok (.iload 4, 2) := by decide +kernel
theorem dX10_takes_59 : decode cX10_takes 59 = .ok (.invokestatic 56, 3) := by decide +kernel
theorem dX10_takes_62 : decode cX10_takes 62 = .ok (.iaload, 1) := by decide +kernel
theorem dX10_takes_63 : decode cX10_takes 63 = .ok (.iastore, 1) := by decide +kernel
theorem dX10_takes_64 : decode cX10_takes 64 = .ok (.iinc 4 1, 3) := by decide +kernel
theorem dX10_takes_67 : decode cX10_takes 67 = .ok (.goto (-36), 3) := by decide +kernel
theorem dX10_takes_70 : decode cX10_takes 70 = .ok (.iinc 3 1, 3) := by decide +kernel
theorem dX10_takes_73 : decode cX10_takes 73 = .ok (.goto (-58), 3) := by decide +kernel
theorem dX10_takes_76 : decode cX10_takes 76 = .ok (.return_, 1) := by decide +kernel
theorem dX10_owns_0 : decode cX10_owns 0 = .ok (.iconst 0, 1) := by decide +kernel
theorem dX10_owns_1 : decode cX10_owns 1 = .ok (.istore_n 3, 1) := by decide +kernel
theorem dX10_owns_2 : decode cX10_owns 2 = .ok (.iload_n 3, 1) := by decide +kernel
theorem dX10_owns_3 : decode cX10_owns 3 = .ok (.bipush 28, 2) := by decide +kernel
theorem dX10_owns_5 : decode cX10_owns 5 = .ok (.if_icmp .ge 26, 3) := by decide +kernel
theorem dX10_owns_8 : decode cX10_owns 8 = .ok (.aload_n 0, 1) := by decide +kernel
theorem dX10_owns_9 : decode cX10_owns 9 = .ok (.getfield 22, 3) := by decide +kernel
theorem dX10_owns_12 : decode cX10_owns 12 = .ok (.iload_n 3, 1) := by decide +kernel
theorem dX10_owns_13 : decode cX10_owns 13 = .ok (.aload_n 0, 1) := by decide +kernel
theorem dX10_owns_14 : decode cX10_owns 14 = .ok (.getfield 7, 3) := by decide +kernel
theorem dX10_owns_17 : decode cX10_owns 17 = .ok (.iload_n 1, 1) := by decide +kernel
theorem dX10_owns_18 : decode cX10_owns 18 = .ok (.iload_n 2, 1) := by decide +kernel
theorem dX10_owns_19 : decode cX10_owns 19 = .ok (.iload_n 3, 1) := by decide +kernel
theorem dX10_owns_20 : decode cX10_owns 20 = .ok (.invokestatic 56, 3) := by decide +kernel
theorem dX10_owns_23 : decode cX10_owns 23 = .ok (.iaload, 1) := by decide +kernel
theorem dX10_owns_24 : decode cX10_owns 24 = .ok (.iastore, 1) := by decide +kernel
theorem dX10_owns_25 : decode cX10_owns 25 = .ok (.iinc 3 1, 3) := by decide +kernel
theorem dX10_owns_28 : decode cX10_owns 28 = .ok (.goto (-26), 3) := by decide +kernel
theorem dX10_owns_31 : decode cX10_owns 31 = .ok (.return_, 1) := by decide +kernel
theorem dX10_adds_0 : decode cX10_adds 0 = .ok (.aload_n 0, 1) := by decide +kernel
theorem dX10_adds_1 : decode cX10_adds 1 = .ok (.getfield 22, 3) := by decide +kernel
theorem dX10_adds_4 : decode cX10_adds 4 = .ok (.iconst 0, 1) := by decide +kernel
theorem dX10_adds_5 : decode cX10_adds 5 = .ok (.iload_n 3, 1) := by decide +kernel
theorem dX10_adds_6 : decode cX10_adds 6 = .ok (.iastore, 1) := by decide +kernel
theorem dX10_adds_7 : decode cX10_adds 7 = .ok (.aload_n 0, 1) := by decide +kernel
theorem dX10_adds_8 : decode cX10_adds 8 = .ok (.getfield 22, 3) := by decide +kernel
theorem dX10_adds_11 : decode cX10_adds 11 = .ok (.iconst 1, 1) := by decide +kernel
theorem dX10_adds_12 : decode cX10_adds 12 = .ok (.iload 4, 2) := by decide +kernel
theorem dX10_adds_14 : decode cX10_adds 14 = .ok (.iastore, 1) := by decide +kernel
theorem dX10_adds_15 : decode cX10_adds 15 = .ok (.aload_n 0, 1) := by decide +kernel
theorem dX10_adds_16 : decode cX10_adds 16 = .ok (.getfield 22, 3) := by decide +kernel
theorem dX10_adds_19 : decode cX10_adds 19 = .ok (.iconst 2, 1) := by decide +kernel
theorem dX10_adds_20 : decode cX10_adds 20 = .ok (.iload_n 2, 1) := by decide +kernel
theorem dX10_adds_21 : decode cX10_adds 21 = .ok (.iastore, 1) := by decide +kernel
theorem dX10_adds_22 : decode cX10_adds 22 = .ok (.aload_n 0, 1) := by decide +kernel
theorem dX10_adds_23 : decode cX10_adds 23 = .ok (.getfield 22, 3) := by decide +kernel
theorem dX10_adds_26 : decode cX10_adds 26 = .ok (.iconst 3, 1) := by decide +kernel
theorem dX10_adds_27 : decode cX10_adds 27 = .ok (.iload 6, 2) := by decide +kernel
theorem dX10_adds_29 : decode cX10_adds 29 = .ok (.iastore, 1) := by decide +kernel
theorem dX10_adds_30 : decode cX10_adds 30 = .ok (.iconst 0, 1) := by decide +kernel
theorem dX10_adds_31 : decode cX10_adds 31 = .ok (.istore 7, 2) := by decide +kernel
theorem dX10_adds_33 : decode cX10_adds 33 = .ok (.iload 7, 2) := by decide +kernel
theorem dX10_adds_35 : decode cX10_adds 35 = .ok (.bipush 24, 2) := by decide +kernel
theorem dX10_adds_37 : decode cX10_adds 37 = .ok (.if_icmp .ge 39, 3) := by decide +kernel
theorem dX10_adds_40 : decode cX10_adds 40 = .ok (.aload_n 0, 1) := by decide +kernel
theorem dX10_adds_41 : decode cX10_adds 41 = .ok (.getfield 22, 3) := by decide +kernel
theorem dX10_adds_44 : decode cX10_adds 44 = .ok (.iconst 4, 1) := by decide +kernel
theorem dX10_adds_45 : decode cX10_adds 45 = .ok (.iload 7, 2) := by decide +kernel
theorem dX10_adds_47 : decode cX10_adds 47 = .ok (.iadd, 1) := by decide +kernel
theorem dX10_adds_48 : decode cX10_adds 48 = .ok (.iload 7, 2) := by decide +kernel
theorem dX10_adds_50 : decode cX10_adds 50 = .ok (.iload 6, 2) := by decide +kernel
theorem dX10_adds_52 : decode cX10_adds 52 = .ok (.if_icmp .ge 16, 3) := by decide +kernel
theorem dX10_adds_55 : decode cX10_adds 55 = .ok (.aload_n 0, 1) := by decide +kernel
theorem dX10_adds_56 : decode cX10_adds 56 = .ok (.getfield 29, 3) := by decide +kernel
theorem dX10_adds_59 : decode cX10_adds 59 = .ok (.iload 5, 2) := by decide +kernel
theorem dX10_adds_61 : decode cX10_adds 61 = .ok (.iload 7, 2) := by decide +kernel
theorem dX10_adds_63 : decode cX10_adds 63 = .ok (.iadd, 1) := by decide +kernel
theorem dX10_adds_64 : decode cX10_adds 64 = .ok (.iaload, 1) := by decide +kernel
theorem dX10_adds_65 : decode cX10_adds 65 = .ok (.goto 4, 3) := by decide +kernel
theorem dX10_adds_68 : decode cX10_adds 68 = .ok (.iconst 0, 1) := by decide +kernel
theorem dX10_adds_69 : decode cX10_adds 69 = .ok (.iastore, 1) := by decide +kernel
theorem dX10_adds_70 : decode cX10_adds 70 = .ok (.iinc 7 1, 3) := by decide +kernel
theorem dX10_adds_73 : decode cX10_adds 73 = .ok (.goto (-40), 3) := by decide +kernel
theorem dX10_adds_76 : decode cX10_adds 76 = .ok (.aload_n 0, 1) := by decide +kernel
theorem dX10_adds_77 : decode cX10_adds 77 = .ok (.iload_n 1, 1) := by decide +kernel
theorem dX10_adds_78 : decode cX10_adds 78 = .ok (.invokevirtual 148, 3) := by decide +kernel
theorem dX10_adds_81 : decode cX10_adds 81 = .ok (.ireturn, 1) := by decide +kernel
theorem dX10_add_0 : decode cX10_add 0 = .ok (.aload_n 0, 1) := by decide +kernel
theorem dX10_add_1 : decode cX10_add 1 = .ok (.getfield 137, 3) := by decide +kernel
theorem dX10_add_4 : decode cX10_add 4 = .ok (.istore 5, 2) := by decide +kernel
theorem dX10_add_6 : decode cX10_add 6 = .ok (.aload_n 0, 1) := by decide +kernel
theorem dX10_add_7 : decode cX10_add 7 = .ok (.iconst 0, 1) := by decide +kernel
theorem dX10_add_8 : decode cX10_add 8 = .ok (.putfield 137, 3) := by decide +kernel
theorem dX10_add_11 : decode cX10_add 11 = .ok (.aload_n 0, 1) := by decide +kernel
theorem dX10_add_12 : decode cX10_add 12 = .ok (.iload_n 1, 1) := by decide +kernel
theorem dX10_add_13 : decode cX10_add 13 = .ok (.invokestatic 52, 3) := by decide +kernel
theorem dX10_add_16 : decode cX10_add 16 = .ok (.ifCond .eq 20, 3) := by decide +kernel
theorem dX10_add_19 : decode cX10_add 19 = .ok (.iload_n 2, 1) := by decide +kernel
theorem dX10_add_20 : decode cX10_add 20 = .ok (.iconst 0, 1) := by decide +kernel
theorem dX10_add_21 : decode cX10_add 21 = .ok (.iconst 2, 1) := by decide +kernel
theorem dX10_add_22 : decode cX10_add 22 = .ok (.invokestatic 48, 3) := by decide +kernel
theorem dX10_add_25 : decode cX10_add 25 = .ok (.ifCond .eq 7, 3) := by decide +kernel
theorem dX10_add_28 : decode cX10_add 28 = .ok (.iconst 0, 1) := by decide +kernel
theorem dX10_add_29 : decode cX10_add 29 = .ok (.goto 8, 3) := by decide +kernel
theorem dX10_add_32 : decode cX10_add 32 = .ok (.iconst 2, 1) := by decide +kernel
theorem dX10_add_33 : decode cX10_add 33 = .ok (.goto 4, 3) := by decide +kernel
theorem dX10_add_36 : decode cX10_add 36 = .ok (.iconst 1, 1) := by decide +kernel
theorem dX10_add_37 : decode cX10_add 37 = .ok (.putfield 35, 3) := by decide +kernel
theorem dX10_add_40 : decode cX10_add 40 = .ok (.aload_n 0, 1) := by decide +kernel
theorem dX10_add_41 : decode cX10_add 41 = .ok (.getfield 35, 3) := by decide +kernel
theorem dX10_add_44 : decode cX10_add 44 = .ok (.ifCond .le 5, 3) := by decide +kernel
theorem dX10_add_47 : decode cX10_add 47 = .ok (.iconst 0, 1) := by decide +kernel
theorem dX10_add_48 : decode cX10_add 48 = .ok (.ireturn, 1) := by decide +kernel
theorem dX10_add_49 : decode cX10_add 49 = .ok (.aload_n 0, 1) := by decide +kernel
theorem dX10_add_50 : decode cX10_add 50 = .ok (.iload_n 1, 1) := by decide +kernel
theorem dX10_add_51 : decode cX10_add 51 = .ok (.iload_n 3, 1) := by decide +kernel
theorem dX10_add_52 : decode cX10_add 52 = .ok (.iload 4, 2) := by decide +kernel
theorem dX10_add_54 : decode cX10_add 54 = .ok (.iconst 0, 1) := by decide +kernel
theorem dX10_add_55 : decode cX10_add 55 = .ok (.iload 5, 2) := by decide +kernel
theorem dX10_add_57 : decode cX10_add 57 = .ok (.invokevirtual 151, 3) := by decide +kernel
theorem dX10_add_60 : decode cX10_add 60 = .ok (.istore 6, 2) := by decide +kernel
theorem dX10_add_62 : decode cX10_add 62 = .ok (.iload 6, 2) := by decide +kernel
theorem dX10_add_64 : decode cX10_add 64 = .ok (.ifCond .le 11, 3) := by decide +kernel
theorem dX10_add_67 : decode cX10_add 67 = .ok (.aload_n 0, 1) := by decide +kernel
theorem dX10_add_68 : decode cX10_add 68 = .ok (.iconst 3, 1) := by decide +kernel
theorem dX10_add_69 : decode cX10_add 69 = .ok (.iload 6, 2) := by decide +kernel
theorem dX10_add_71 : decode cX10_add 71 = .ok (.invokevirtual 75, 3) := by decide +kernel
theorem dX10_add_74 : decode cX10_add 74 = .ok (.ireturn, 1) := by decide +kernel
theorem dX10_add_75 : decode cX10_add 75 = .ok (.aload_n 0, 1) := by decide +kernel
theorem dX10_add_76 : decode cX10_add 76 = .ok (.aload_n 0, 1) := by decide +kernel
theorem dX10_add_77 : decode cX10_add 77 = .ok (.getfield 7, 3) := by decide +kernel
theorem dX10_add_80 : decode cX10_add 80 = .ok (.invokevirtual 78, 3) := by decide +kernel
theorem dX10_add_83 : decode cX10_add 83 = .ok (.aload_n 0, 1) := by decide +kernel
theorem dX10_add_84 : decode cX10_add 84 = .ok (.iload_n 1, 1) := by decide +kernel
theorem dX10_add_85 : decode cX10_add 85 = .ok (.iload_n 2, 1) := by decide +kernel
theorem dX10_add_86 : decode cX10_add 86 = .ok (.iload_n 3, 1) := by decide +kernel
theorem dX10_add_87 : decode cX10_add 87 = .ok (.iload 4, 2) := by decide +kernel
theorem dX10_add_89 : decode cX10_add 89 = .ok (.iconst 0, 1) := by decide +kernel
theorem dX10_add_90 : decode cX10_add 90 = .ok (.iload 5, 2) := by decide +kernel
theorem dX10_add_92 : decode cX10_add 92 = .ok (.invokevirtual 155, 3) := by decide +kernel
theorem dX10_add_95 : decode cX10_add 95 = .ok (.ireturn, 1) := by decide +kernel
theorem dX10_remove_0 : decode cX10_remove 0 = .ok (.aload_n 0, 1) := by decide +kernel
theorem dX10_remove_1 : decode cX10_remove 1 = .ok (.aload_n 0, 1) := by decide +kernel
theorem dX10_remove_2 : decode cX10_remove 2 = .ok (.iload_n 1, 1) := by decide +kernel
theorem dX10_remove_3 : decode cX10_remove 3 = .ok (.iload_n 2, 1) := by decide +kernel
theorem dX10_remove_4 : decode cX10_remove 4 = .ok (.invokevirtual 159, 3) := by decide +kernel
theorem dX10_remove_7 : decode cX10_remove 7 = .ok (.ifCond .eq 7, 3) := by decide +kernel
theorem dX10_remove_10 : decode cX10_remove 10 = .ok (.iconst 0, 1) := by decide +kernel
theorem dX10_remove_11 : decode cX10_remove 11 = .ok (.goto 4, 3) := by decide +kernel
theorem dX10_remove_14 : decode cX10_remove 14 = .ok (.iconst 1, 1) := by decide +kernel
theorem dX10_remove_15 : decode cX10_remove 15 = .ok (.putfield 35, 3) := by decide +kernel
theorem dX10_remove_18 : decode cX10_remove 18 = .ok (.aload_n 0, 1) := by decide +kernel
theorem dX10_remove_19 : decode cX10_remove 19 = .ok (.getfield 35, 3) := by decide +kernel
theorem dX10_remove_22 : decode cX10_remove 22 = .ok (.ifCond .le 5, 3) := by decide +kernel
theorem dX10_remove_25 : decode cX10_remove 25 = .ok (.iconst 0, 1) := by decide +kernel
theorem dX10_remove_26 : decode cX10_remove 26 = .ok (.ireturn, 1) := by decide +kernel
theorem dX10_remove_27 : decode cX10_remove 27 = .ok (.aload_n 0, 1) := by decide +kernel
theorem dX10_remove_28 : decode cX10_remove 28 = .ok (.aload_n 0, 1) := by decide +kernel
theorem dX10_remove_29 : decode cX10_remove 29 = .ok (.getfield 7, 3) := by decide +kernel
theorem dX10_remove_32 : decode cX10_remove 32 = .ok (.invokevirtual 78, 3) := by decide +kernel
theorem dX10_remove_35 : decode cX10_remove 35 = .ok (.aload_n 0, 1) := by decide +kernel
theorem dX10_remove_36 : decode cX10_remove 36 = .ok (.iload_n 1, 1) := by decide +kernel
theorem dX10_remove_37 : decode cX10_remove 37 = .ok (.iload_n 2, 1) := by decide +kernel
theorem dX10_remove_38 : decode cX10_remove 38 = .ok (.invokevirtual 162, 3) := by decide +kernel
theorem dX10_remove_41 : decode cX10_remove 41 = .ok (.aload_n 0, 1) := by decide +kernel
theorem dX10_remove_42 : decode cX10_remove 42 = .ok (.getfield 7, 3) := by decide +kernel
theorem dX10_remove_45 : decode cX10_remove 45 = .ok (.bipush 28, 2) := by decide +kernel
theorem dX10_remove_47 : decode cX10_remove 47 = .ok (.iload_n 1, 1) := by decide +kernel
theorem dX10_remove_48 : decode cX10_remove 48 = .ok (.iadd, 1) := by decide +kernel
theorem dX10_remove_49 : decode cX10_remove 49 = .ok (.iaload, 1) := by decide +kernel
theorem dX10_remove_50 : decode cX10_remove 50 = .ok (.ireturn, 1) := by decide +kernel
theorem dX10_moves_0 : decode cX10_moves 0 = .ok (.aload_n 0, 1) := by decide +kernel
theorem dX10_moves_1 : decode cX10_moves 1 = .ok (.iload_n 1, 1) := by decide +kernel
theorem dX10_moves_2 : decode cX10_moves 2 = .ok (.iload_n 2, 1) := by decide +kernel
theorem dX10_moves_3 : decode cX10_moves 3 = .ok (.invokevirtual 166, 3) := by decide +kernel
theorem dX10_moves_6 : decode cX10_moves 6 = .ok (.aload_n 0, 1) := by decide +kernel
theorem dX10_moves_7 : decode cX10_moves 7 = .ok (.iload_n 1, 1) := by decide +kernel
theorem dX10_moves_8 : decode cX10_moves 8 = .ok (.iload_n 2, 1) := by decide +kernel
theorem dX10_moves_9 : decode cX10_moves 9 = .ok (.invokevirtual 162, 3) := by decide +kernel
theorem dX10_moves_12 : decode cX10_moves 12 = .ok (.aload_n 0, 1) := by decide +kernel
theorem dX10_moves_13 : decode cX10_moves 13 = .ok (.getfield 22, 3) := by decide +kernel
theorem dX10_moves_16 : decode cX10_moves 16 = .ok (.iconst 0, 1) := by decide +kernel
theorem dX10_moves_17 : decode cX10_moves 17 = .ok (.iload_n 3, 1) := by decide +kernel
theorem dX10_moves_18 : decode cX10_moves 18 = .ok (.iastore, 1) := by decide +kernel
theorem dX10_moves_19 : decode cX10_moves 19 = .ok (.aload_n 0, 1) := by decide +kernel
theorem dX10_moves_20 : decode cX10_moves 20 = .ok (.getfield 22, 3) := by decide +kernel
theorem dX10_moves_23 : decode cX10_moves 23 = .ok (.iconst 1, 1) := by decide +kernel
theorem dX10_moves_24 : decode cX10_moves 24 = .ok (.iload 4, 2) := by decide +kernel
theorem dX10_moves_26 : decode cX10_moves 26 = .ok (.iastore, 1) := by decide +kernel
theorem dX10_moves_27 : decode cX10_moves 27 = .ok (.aload_n 0, 1) := by decide +kernel
theorem dX10_moves_28 : decode cX10_moves 28 = .ok (.iload_n 1, 1) := by decide +kernel
theorem dX10_moves_29 : decode cX10_moves 29 = .ok (.invokevirtual 148, 3) := by decide +kernel
theorem dX10_moves_32 : decode cX10_moves 32 = .ok (.ireturn, 1) := by decide +kernel
theorem dX10_move_0 : decode cX10_move 0 = .ok (.aload_n 0, 1) := by decide +kernel
theorem dX10_move_1 : decode cX10_move 1 = .ok (.aload_n 0, 1) := by decide +kernel
theorem dX10_move_2 : decode cX10_move 2 = .ok (.iload_n 1, 1) := by decide +kernel
theorem dX10_move_3 : decode cX10_move 3 = .ok (.iload_n 2, 1) := by decide +kernel
theorem dX10_move_4 : decode cX10_move 4 = .ok (.invokevirtual 159, 3) := by decide +kernel
theorem dX10_move_7 : decode cX10_move 7 = .ok (.ifCond .eq 7, 3) := by decide +kernel
theorem dX10_move_10 : decode cX10_move 10 = .ok (.iconst 0, 1) := by decide +kernel
theorem dX10_move_11 : decode cX10_move 11 = .ok (.goto 4, 3) := by decide +kernel
theorem dX10_move_14 : decode cX10_move 14 = .ok (.iconst 1, 1) := by decide +kernel
theorem dX10_move_15 : decode cX10_move 15 = .ok (.putfield 35, 3) := by decide +kernel
theorem dX10_move_18 : decode cX10_move 18 = .ok (.aload_n 0, 1) := by decide +kernel
theorem dX10_move_19 : decode cX10_move 19 = .ok (.getfield 35, 3) := by decide +kernel
theorem dX10_move_22 : decode cX10_move 22 = .ok (.ifCond .le 5, 3) := by decide +kernel
theorem dX10_move_25 : decode cX10_move 25 = .ok (.iconst 0, 1) := by decide +kernel
theorem dX10_move_26 : decode cX10_move 26 = .ok (.ireturn, 1) := by decide +kernel
theorem dX10_move_27 : decode cX10_move 27 = .ok (.aload_n 0, 1) := by decide +kernel
theorem dX10_move_28 : decode cX10_move 28 = .ok (.iload_n 1, 1) := by decide +kernel
theorem dX10_move_29 : decode cX10_move 29 = .ok (.iload_n 2, 1) := by decide +kernel
theorem dX10_move_30 : decode cX10_move 30 = .ok (.iload_n 3, 1) := by decide +kernel
theorem dX10_move_31 : decode cX10_move 31 = .ok (.iload 4, 2) := by decide +kernel
theorem dX10_move_33 : decode cX10_move 33 = .ok (.invokevirtual 140, 3) := by decide +kernel
theorem dX10_move_36 : decode cX10_move 36 = .ok (.istore 5, 2) := by decide +kernel
theorem dX10_move_38 : decode cX10_move 38 = .ok (.iload 5, 2) := by decide +kernel
theorem dX10_move_40 : decode cX10_move 40 = .ok (.ifCond .le 11, 3) := by decide +kernel
theorem dX10_move_43 : decode cX10_move 43 = .ok (.aload_n 0, 1) := by decide +kernel
theorem dX10_move_44 : decode cX10_move 44 = .ok (.iconst 2, 1) := by decide +kernel
theorem dX10_move_45 : decode cX10_move 45 = .ok (.iload 5, 2) := by decide +kernel
theorem dX10_move_47 : decode cX10_move 47 = .ok (.invokevirtual 75, 3) := by decide +kernel
theorem dX10_move_50 : decode cX10_move 50 = .ok (.ireturn, 1) := by decide +kernel
theorem dX10_move_51 : decode cX10_move 51 = .ok (.aload_n 0, 1) := by decide +kernel
theorem dX10_move_52 : decode cX10_move 52 = .ok (.aload_n 0, 1) := by decide +kernel
theorem dX10_move_53 : decode cX10_move 53 = .ok (.getfield 7, 3) := by decide +kernel
theorem dX10_move_56 : decode cX10_move 56 = .ok (.invokevirtual 78, 3) := by decide +kernel
theorem dX10_move_59 : decode cX10_move 59 = .ok (.aload_n 0, 1) := by decide +kernel
theorem dX10_move_60 : decode cX10_move 60 = .ok (.iload_n 1, 1) := by decide +kernel
theorem dX10_move_61 : decode cX10_move 61 = .ok (.iload_n 2, 1) := by decide +kernel
theorem dX10_move_62 : decode cX10_move 62 = .ok (.iload_n 3, 1) := by decide +kernel
theorem dX10_move_63 : decode cX10_move 63 = .ok (.iload 4, 2) := by decide +kernel
theorem dX10_move_65 : decode cX10_move 65 = .ok (.invokevirtual 169, 3) := by decide +kernel
theorem dX10_move_68 : decode cX10_move 68 = .ok (.ireturn, 1) := by decide +kernel
theorem dX10_split_0 : decode cX10_split 0 = .ok (.aload_n 0, 1) := by decide +kernel
theorem dX10_split_1 : decode cX10_split 1 = .ok (.aload_n 0, 1) := by decide +kernel
theorem dX10_split_2 : decode cX10_split 2 = .ok (.iload_n 1, 1) := by decide +kernel
theorem dX10_split_3 : decode cX10_split 3 = .ok (.iload_n 2, 1) := by decide +kernel
theorem dX10_split_4 : decode cX10_split 4 = .ok (.invokevirtual 159, 3) := by decide +kernel
theorem dX10_split_7 : decode cX10_split 7 = .ok (.ifCond .eq 28, 3) := by decide +kernel
theorem dX10_split_10 : decode cX10_split 10 = .ok (.iload_n 3, 1) := by decide +kernel
theorem dX10_split_11 : decode cX10_split 11 = .ok (.iconst 0, 1) := by decide +kernel
theorem dX10_split_12 : decode cX10_split 12 = .ok (.aload_n 0, 1) := by decide +kernel
theorem dX10_split_13 : decode cX10_split 13 = .ok (.getfield 7, 3) := by decide +kernel
theorem dX10_split_16 : decode cX10_split 16 = .ok (.iload_n 1, 1) := by decide +kernel
theorem dX10_split_17 : decode cX10_split 17 = .ok (.iload_n 2, 1) := by decide +kernel
theorem dX10_split_18 : decode cX10_split 18 = .ok (.iconst 3, 1) := by decide +kernel
theorem dX10_split_19 : decode cX10_split 19 = .ok (.invokestatic 56, 3) := by decide +kernel
theorem dX10_split_22 : decode cX10_split 22 = .ok (.iaload, 1) := by decide +kernel
theorem dX10_split_23 : decode cX10_split 23 = .ok (.iconst 1, 1) := by decide +kernel
theorem dX10_split_24 : decode cX10_split 24 = .ok (.isub, 1) := by decide +kernel
theorem dX10_split_25 : decode cX10_split 25 = .ok (.invokestatic 48, 3) := by decide +kernel
theorem dX10_split_28 : decode cX10_split 28 = .ok (.ifCond .eq 7, 3) := by decide +kernel
theorem dX10_split_31 : decode cX10_split 31 = .ok (.iconst 0, 1) := by decide +kernel
theorem dX10_split_32 : decode cX10_split 32 = .ok (.goto 4, 3) := by decide +kernel
theorem dX10_split_35 : decode cX10_split 35 = .ok (.iconst 1, 1) := by decide +kernel
theorem dX10_split_36 : decode cX10_split 36 = .ok (.putfield 35, 3) := by decide +kernel
theorem dX10_split_39 : decode cX10_split 39 = .ok (.aload_n 0, 1) := by decide +kernel
theorem dX10_split_40 : decode cX10_split 40 = .ok (.getfield 35, 3) := by decide +kernel
theorem dX10_split_43 : decode cX10_split 43 = .ok (.ifCond .le 5, 3) := by decide +kernel
theorem dX10_split_46 : decode cX10_split 46 = .ok (.iconst 0, 1) := by decide +kernel
theorem dX10_split_47 : decode cX10_split 47 = .ok (.ireturn, 1) := by decide +kernel
theorem dX10_split_48 : decode cX10_split 48 = .ok (.iload_n 1, 1) := by decide +kernel
theorem dX10_split_49 : decode cX10_split 49 = .ok (.iload_n 2, 1) := by decide +kernel
theorem dX10_split_50 : decode cX10_split 50 = .ok (.iconst 4, 1) := by decide +kernel
theorem dX10_split_51 : decode cX10_split 51 = .ok (.invokestatic 56, 3) := by decide +kernel
theorem dX10_split_54 : decode cX10_split 54 = .ok (.istore 4, 2) := by decide +kernel
theorem dX10_split_56 : decode cX10_split 56 = .ok (.aload_n 0, 1) := by decide +kernel
theorem dX10_split_57 : decode cX10_split 57 = .ok (.getfield 7, 3) := by decide +kernel
theorem dX10_split_60 : decode cX10_split 60 = .ok (.iload_n 1, 1) := by decide +kernel
theorem dX10_split_61 : decode cX10_split 61 = .ok (.iload_n 2, 1) := by decide +kernel
theorem dX10_split_62 : decode cX10_split 62 = .ok (.iconst 3, 1) := by decide +kernel
theorem dX10_split_63 : decode cX10_split 63 = .ok (.invokestatic 56, 3) := by decide +kernel
theorem dX10_split_66 : decode cX10_split 66 = .ok (.iaload, 1) := by decide +kernel
theorem dX10_split_67 : decode cX10_split 67 = .ok (.istore 5, 2) := by decide +kernel
theorem dX10_split_69 : decode cX10_split 69 = .ok (.aload_n 0, 1) := by decide +kernel
theorem dX10_split_70 : decode cX10_split 70 = .ok (.getfield 7, 3) := by decide +kernel
theorem dX10_split_73 : decode cX10_split 73 = .ok (.iload 4, 2) := by decide +kernel
theorem dX10_split_75 : decode cX10_split 75 = .ok (.iload_n 3, 1) := by decide +kernel
theorem dX10_split_76 : decode cX10_split 76 = .ok (.iadd, 1) := by decide +kernel
theorem dX10_split_77 : decode cX10_split 77 = .ok (.iaload, 1) := by decide +kernel
theorem dX10_split_78 : decode cX10_split 78 = .ok (.istore 6, 2) := by decide +kernel
theorem dX10_split_80 : decode cX10_split 80 = .ok (.iload 6, 2) := by decide +kernel
theorem dX10_split_82 : decode cX10_split 82 = .ok (.bipush 95, 2) := by decide +kernel
theorem dX10_split_84 : decode cX10_split 84 = .ok (.if_icmp .eq 10, 3) := by decide +kernel
theorem dX10_split_87 : decode cX10_split 87 = .ok (.iload 6, 2) := by decide +kernel
theorem dX10_split_89 : decode cX10_split 89 = .ok (.bipush 124, 2) := by decide +kernel
theorem dX10_split_91 : decode cX10_split 91 = .ok (.if_icmp .ne 38, 3) := by decide +kernel
theorem dX10_split_94 : decode cX10_split 94 = .ok (.aload_n 0, 1) := by decide +kernel
theorem dX10_split_95 : decode cX10_split 95 = .ok (.getfield 7, 3) := by decide +kernel
theorem dX10_split_98 : decode cX10_split 98 = .ok (.iload 4, 2) := by decide +kernel
theorem dX10_split_100 : decode cX10_split 100 = .ok (.iload_n 3, 1) := by decide +kernel
theorem dX10_split_101 : decode cX10_split 101 = .ok (.invokestatic 144, 3) := by decide +kernel
theorem dX10_split_104 : decode cX10_split 104 = .ok (.ifCond .eq 25, 3) := by decide +kernel
theorem dX10_split_107 : decode cX10_split 107 = .ok (.aload_n 0, 1) := by decide +kernel
theorem dX10_split_108 : decode cX10_split 108 = .ok (.getfield 7, 3) := by decide +kernel
theorem dX10_split_111 : decode cX10_split 111 = .ok (.iload 4, 2) := by decide +kernel
theorem dX10_split_113 : decode cX10_split 113 = .ok (.iload_n 3, 1) := by decide +kernel
theorem dX10_split_114 : decode cX10_split 114 = .ok (.iadd, 1) := by decide +kernel
theorem dX10_split_115 : decode cX10_split 115 = .ok (.iconst 1, 1) := by decide +kernel
theorem dX10_split_116 : decode cX10_split 116 = .ok (.iadd, 1) := by decide +kernel
theorem dX10_split_117 : decode cX10_split 117 = .ok (.iload 5, 2) := by decide +kernel
theorem dX10_split_119 : decode cX10_split 119 = .ok (.iload_n 3, 1) := by decide +kernel
theorem dX10_split_120 : decode cX10_split 120 = .ok (.isub, 1) := by decide +kernel
theorem dX10_split_121 : decode cX10_split 121 = .ok (.iconst 1, 1) := by decide +kernel
theorem dX10_split_122 : decode cX10_split 122 = .ok (.isub, 1) := by decide +kernel
theorem dX10_split_123 : decode cX10_split 123 = .ok (.invokestatic 144, 3) := by decide +kernel
theorem dX10_split_126 : decode cX10_split 126 = .ok (.ifCond .ne 10, 3) := by decide +kernel
theorem dX10_split_129 : decode cX10_split 129 = .ok (.aload_n 0, 1) := by decide +kernel
theorem dX10_split_130 : decode cX10_split 130 = .ok (.iconst 2, 1) := by decide +kernel
theorem dX10_split_131 : decode cX10_split 131 = .ok (.iconst 4, 1) := by decide +kernel
theorem dX10_split_132 : decode cX10_split 132 = .ok (.invokevirtual 75, 3) := by decide +kernel
theorem dX10_split_135 : decode cX10_split 135 = .ok (.ireturn, 1) := by decide +kernel
theorem dX10_split_136 : decode cX10_split 136 = .ok (.iload_n 3, 1) := by decide +kernel
theorem dX10_split_137 : decode cX10_split 137 = .ok (.aload_n 0, 1) := by decide +kernel
theorem dX10_split_138 : decode cX10_split 138 = .ok (.getfield 7, 3) := by decide +kernel
theorem dX10_split_141 : decode cX10_split 141 = .ok (.iload 4, 2) := by decide +kernel
theorem dX10_split_143 : decode cX10_split 143 = .ok (.iload_n 3, 1) := by decide +kernel
theorem dX10_split_144 : decode cX10_split 144 = .ok (.invokestatic 103, 3) := by decide +kernel
theorem dX10_split_147 : decode cX10_split 147 = .ok (.isub, 1) := by decide +kernel
theorem dX10_split_148 : decode cX10_split 148 = .ok (.istore 7, 2) := by decide +kernel
theorem dX10_split_150 : decode cX10_split 150 = .ok (.iload 5, 2) := by decide +kernel
theorem dX10_split_152 : decode cX10_split 152 = .ok (.iload_n 3, 1) := by decide +kernel
theorem dX10_split_153 : decode cX10_split 153 = .ok (.isub, 1) := by decide +kernel
theorem dX10_split_154 : decode cX10_split 154 = .ok (.iconst 1, 1) := by decide +kernel
theorem dX10_split_155 : decode cX10_split 155 = .ok (.isub, 1) := by decide +kernel
theorem dX10_split_156 : decode cX10_split 156 = .ok (.aload_n 0, 1) := by decide +kernel
theorem dX10_split_157 : decode cX10_split 157 = .ok (.getfield 7, 3) := by decide +kernel
theorem dX10_split_160 : decode cX10_split 160 = .ok (.iload 4, 2) := by decide +kernel
theorem dX10_split_162 : decode cX10_split 162 = .ok (.iload_n 3, 1) := by decide +kernel
theorem dX10_split_163 : decode cX10_split 163 = .ok (.iadd, 1) := by decide +kernel
theorem dX10_split_164 : decode cX10_split 164 = .ok (.iconst 1, 1) := by decide +kernel
theorem dX10_split_165 : decode cX10_split 165 = .ok (.iadd, 1) := by decide +kernel
theorem dX10_split_166 : decode cX10_split 166 = .ok (.iload 5, 2) := by decide +kernel
theorem dX10_split_168 : decode cX10_split 168 = .ok (.iload_n 3, 1) := by decide +kernel
theorem dX10_split_169 : decode cX10_split 169 = .ok (.isub, 1) := by decide +kernel
theorem dX10_split_170 : decode cX10_split 170 = .ok (.iconst 1, 1) := by decide +kernel
theorem dX10_split_171 : decode cX10_split 171 = .ok (.isub, 1) := by decide +kernel
theorem dX10_split_172 : decode cX10_split 172 = .ok (.invokestatic 103, 3) := by decide +kernel
theorem dX10_split_175 : decode cX10_split 175 = .ok (.isub, 1) := by decide +kernel
theorem dX10_split_176 : decode cX10_split 176 = .ok (.istore 8, 2) := by decide +kernel
theorem dX10_split_178 : decode cX10_split 178 = .ok (.aload_n 0, 1) := by decide +kernel
theorem dX10_split_179 : decode cX10_split 179 = .ok (.iload_n 1, 1) := by decide +kernel
theorem dX10_split_180 : decode cX10_split 180 = .ok (.iload_n 2, 1) := by decide +kernel
theorem dX10_split_181 : decode cX10_split 181 = .ok (.invokevirtual 71, 3) := by decide +kernel
theorem dX10_split_184 : decode cX10_split 184 = .ok (.aload_n 0, 1) := by decide +kernel
theorem dX10_split_185 : decode cX10_split 185 = .ok (.iload_n 1, 1) := by decide +kernel
theorem dX10_split_186 : decode cX10_split 186 = .ok (.iload_n 2, 1) := by decide +kernel
theorem dX10_split_187 : decode cX10_split 187 = .ok (.invokevirtual 113, 3) := by decide +kernel
theorem dX10_split_190 : decode cX10_split 190 = .ok (.isub, 1) := by decide +kernel
theorem dX10_split_191 : decode cX10_split 191 = .ok (.istore 9, 2) := by decide +kernel
theorem dX10_split_193 : decode cX10_split 193 = .ok (.iload 9, 2) := by decide +kernel
theorem dX10_split_195 : decode cX10_split 195 = .ok (.iload 7, 2) := by decide +kernel
theorem dX10_split_197 : decode cX10_split 197 = .ok (.imul, 1) := by decide +kernel
theorem dX10_split_198 : decode cX10_split 198 = .ok (.iload 7, 2) := by decide +kernel
theorem dX10_split_200 : decode cX10_split 200 = .ok (.iload 8, 2) := by decide +kernel
theorem dX10_split_202 : decode cX10_split 202 = .ok (.iadd, 1) := by decide +kernel
theorem dX10_split_203 : decode cX10_split 203 = .ok (.idiv, 1) := by decide +kernel
theorem dX10_split_204 : decode cX10_split 204 = .ok (.istore 10, 2) := by decide +kernel
theorem dX10_split_206 : decode cX10_split 206 = .ok (.iload 10, 2) := by decide +kernel
theorem dX10_split_208 : decode cX10_split 208 = .ok (.iconst 1, 1) := by decide +kernel
theorem dX10_split_209 : decode cX10_split 209 = .ok (.if_icmp .ge 7, 3) := by decide +kernel
theorem dX10_split_212 : decode cX10_split 212 = .ok (.iconst 1, 1) := by decide +kernel
theorem dX10_split_213 : decode cX10_split 213 = .ok (.goto 5, 3) := by decide +kernel
theorem dX10_split_216 : decode cX10_split 216 = .ok (.iload 10, 2) := by decide +kernel
theorem dX10_split_218 : decode cX10_split 218 = .ok (.istore 10, 2) := by decide +kernel
theorem dX10_split_220 : decode cX10_split 220 = .ok (.iload 10, 2) := by decide +kernel
theorem dX10_split_222 : decode cX10_split 222 = .ok (.iload 9, 2) := by decide +kernel
theorem dX10_split_224 : decode cX10_split 224 = .ok (.if_icmp .lt 10, 3) := by decide +kernel
theorem dX10_split_227 : decode cX10_split 227 = .ok (.aload_n 0, 1) := by decide +kernel
theorem dX10_split_228 : decode cX10_split 228 = .ok (.iconst 2, 1) := by decide +kernel
theorem dX10_split_229 : decode cX10_split 229 = .ok (.iconst 2, 1) := by decide +kernel
theorem dX10_split_230 : decode cX10_split 230 = .ok (.invokevirtual 75, 3) := by decide +kernel
theorem dX10_split_233 : decode cX10_split 233 = .ok (.ireturn, 1) := by decide +kernel
theorem dX10_split_234 : decode cX10_split 234 = .ok (.aload_n 0, 1) := by decide +kernel
theorem dX10_split_235 : decode cX10_split 235 = .ok (.getfield 7, 3) := by decide +kernel
theorem dX10_split_238 : decode cX10_split 238 = .ok (.bipush 28, 2) := by decide +kernel
theorem dX10_split_240 : decode cX10_split 240 = .ok (.iload_n 1, 1) := by decide +kernel
theorem dX10_split_241 : decode cX10_split 241 = .ok (.iadd, 1) := by decide +kernel
theorem dX10_split_242 : decode cX10_split 242 = .ok (.iaload, 1) := by decide +kernel
theorem dX10_split_243 : decode cX10_split 243 = .ok (.bipush 16, 2) := by decide +kernel
theorem dX10_split_245 : decode cX10_split 245 = .ok (.if_icmp .ne 11, 3) := by decide +kernel
theorem dX10_split_248 : decode cX10_split 248 = .ok (.aload_n 0, 1) := by decide +kernel
theorem dX10_split_249 : decode cX10_split 249 = .ok (.iconst 2, 1) := by decide +kernel
theorem dX10_split_250 : decode cX10_split 250 = .ok (.bipush 8, 2) := by decide +kernel
theorem dX10_split_252 : decode cX10_split 252 = .ok (.invokevirtual 75, 3) := by decide +kernel
theorem dX10_split_255 : decode cX10_split 255 = .ok (.ireturn, 1) := by decide +kernel
theorem dX10_split_256 : decode cX10_split 256 = .ok (.aload_n 0, 1) := by decide +kernel
theorem dX10_split_257 : decode cX10_split 257 = .ok (.aload_n 0, 1) := by decide +kernel
theorem dX10_split_258 : decode cX10_split 258 = .ok (.getfield 7, 3) := by decide +kernel
theorem dX10_split_261 : decode cX10_split 261 = .ok (.invokevirtual 78, 3) := by decide +kernel
theorem dX10_split_264 : decode cX10_split 264 = .ok (.aload_n 0, 1) := by decide +kernel
theorem dX10_split_265 : decode cX10_split 265 = .ok (.iload_n 1, 1) := by decide +kernel
theorem dX10_split_266 : decode cX10_split 266 = .ok (.iload_n 2, 1) := by decide +kernel
theorem dX10_split_267 : decode cX10_split 267 = .ok (.invokevirtual 166, 3) := by decide +kernel
theorem dX10_split_270 : decode cX10_split 270 = .ok (.aload_n 0, 1) := by decide +kernel
theorem dX10_split_271 : decode cX10_split 271 = .ok (.getfield 22, 3) := by decide +kernel
theorem dX10_split_274 : decode cX10_split 274 = .ok (.iconst 0, 1) := by decide +kernel
theorem dX10_split_275 : decode cX10_split 275 = .ok (.dup2, 1) := by decide +kernel
theorem dX10_split_276 : decode cX10_split 276 = .ok (.iaload, 1) := by decide +kernel
theorem dX10_split_277 : decode cX10_split 277 = .ok (.iload 10, 2) := by decide +kernel
theorem dX10_split_279 : decode cX10_split 279 = .ok (.iadd, 1) := by decide +kernel
theorem dX10_split_280 : decode cX10_split 280 = .ok (.iastore, 1) := by decide +kernel
theorem dX10_split_281 : decode cX10_split 281 = .ok (.aload_n 0, 1) := by decide +kernel
theorem dX10_split_282 : decode cX10_split 282 = .ok (.getfield 22, 3) := by decide +kernel
theorem dX10_split_285 : decode cX10_split 285 = .ok (.iconst 3, 1) := by decide +kernel
theorem dX10_split_286 : decode cX10_split 286 = .ok (.iload 5, 2) := by decide +kernel
theorem dX10_split_288 : decode cX10_split 288 = .ok (.iload_n 3, 1) := by decide +kernel
theorem dX10_split_289 : decode cX10_split 289 = .ok (.isub, 1) := by decide +kernel
theorem dX10_split_290 : decode cX10_split 290 = .ok (.iconst 1, 1) := by decide +kernel
theorem dX10_split_291 : decode cX10_split 291 = .ok (.isub, 1) := by decide +kernel
theorem dX10_split_292 : decode cX10_split 292 = .ok (.iastore, 1) := by decide +kernel
theorem dX10_split_293 : decode cX10_split 293 = .ok (.iconst 0, 1) := by decide +kernel
theorem dX10_split_294 : decode cX10_split 294 = .ok (.istore 11, 2) := by decide +kernel
theorem dX10_split_296 : decode cX10_split 296 = .ok (.iload 11, 2) := by decide +kernel
theorem dX10_split_298 : decode cX10_split 298 = .ok (.bipush 24, 2) := by decide +kernel
theorem dX10_split_300 : decode cX10_split 300 = .ok (.if_icmp .ge 47, 3) := by decide +kernel
theorem dX10_split_303 : decode cX10_split 303 = .ok (.aload_n 0, 1) := by decide +kernel
theorem dX10_split_304 : decode cX10_split 304 = .ok (.getfield 22, 3) := by decide +kernel
theorem dX10_split_307 : decode cX10_split 307 = .ok (.iconst 4, 1) := by decide +kernel
theorem dX10_split_308 : decode cX10_split 308 = .ok (.iload 11, 2) := by decide +kernel
theorem dX10_split_310 : decode cX10_split 310 = .ok (.iadd, 1) := by decide +kernel
theorem dX10_split_311 : decode cX10_split 311 = .ok (.iload 11, 2) := by decide +kernel
theorem dX10_split_313 : decode cX10_split 313 = .ok (.aload_n 0, 1) := by decide +kernel
theorem dX10_split_314 : decode cX10_split 314 = .ok (.getfield 22, 3) := by decide +kernel
theorem dX10_split_317 : decode cX10_split 317 = .ok (.iconst 3, 1) := by decide +kernel
theorem dX10_split_318 : decode cX10_split 318 = .ok (.iaload, 1) := by decide +kernel
theorem dX10_split_319 : decode cX10_split 319 = .ok (.if_icmp .ge 20, 3) := by decide +kernel
theorem dX10_split_322 : decode cX10_split 322 = .ok (.aload_n 0, 1) := by decide +kernel
theorem dX10_split_323 : decode cX10_split 323 = .ok (.getfield 7, 3) := by decide +kernel
theorem dX10_split_326 : decode cX10_split 326 = .ok (.iload 4, 2) := by decide +kernel
theorem dX10_split_328 : decode cX10_split 328 = .ok (.iload_n 3, 1) := by decide +kernel
theorem dX10_split_329 : decode cX10_split 329 = .ok (.iadd, 1) := by decide +kernel
theorem dX10_split_330 : decode cX10_split 330 = .ok (.iconst 1, 1) := by decide +kernel
theorem dX10_split_331 : decode cX10_split 331 = .ok (.iadd, 1) := by decide +kernel
theorem dX10_split_332 : decode cX10_split 332 = .ok (.iload 11, 2) := by decide +kernel
theorem dX10_split_334 : decode cX10_split 334 = .ok (.iadd, 1) := by decide +kernel
theorem dX10_split_335 : decode cX10_split 335 = .ok (.iaload, 1) := by decide +kernel
theorem dX10_split_336 : decode cX10_split 336 = .ok (.goto 4, 3) := by decide +kernel
theorem dX10_split_339 : decode cX10_split 339 = .ok (.iconst 0, 1) := by decide +kernel
theorem dX10_split_340 : decode cX10_split 340 = .ok (.iastore, 1) := by decide +kernel
theorem dX10_split_341 : decode cX10_split 341 = .ok (.iinc 11 1, 3) := by decide +kernel
theorem dX10_split_344 : decode cX10_split 344 = .ok (.goto (-48), 3) := by decide +kernel
theorem dX10_split_347 : decode cX10_split 347 = .ok (.aload_n 0, 1) := by decide +kernel
theorem dX10_split_348 : decode cX10_split 348 = .ok (.getfield 7, 3) := by decide +kernel
theorem dX10_split_351 : decode cX10_split 351 = .ok (.iload_n 1, 1) := by decide +kernel
theorem dX10_split_352 : decode cX10_split 352 = .ok (.iload_n 2, 1) := by decide +kernel
theorem dX10_split_353 : decode cX10_split 353 = .ok (.iconst 1, 1) := by decide +kernel
theorem dX10_split_354 : decode cX10_split 354 = .ok (.invokestatic 56, 3) := by decide +kernel
theorem dX10_split_357 : decode cX10_split 357 = .ok (.aload_n 0, 1) := by decide +kernel
theorem dX10_split_358 : decode cX10_split 358 = .ok (.getfield 22, 3) := by decide +kernel
theorem dX10_split_361 : decode cX10_split 361 = .ok (.iconst 0, 1) := by decide +kernel
theorem dX10_split_362 : decode cX10_split 362 = .ok (.iaload, 1) := by decide +kernel
theorem dX10_split_363 : decode cX10_split 363 = .ok (.iastore, 1) := by decide +kernel
theorem dX10_split_364 : decode cX10_split 364 = .ok (.aload_n 0, 1) := by decide +kernel
theorem dX10_split_365 : decode cX10_split 365 = .ok (.getfield 7, 3) := by decide +kernel
theorem dX10_split_368 : decode cX10_split 368 = .ok (.iload_n 1, 1) := by decide +kernel
theorem dX10_split_369 : decode cX10_split 369 = .ok (.iload_n 2, 1) := by decide +kernel
theorem dX10_split_370 : decode cX10_split 370 = .ok (.iconst 3, 1) := by decide +kernel
theorem dX10_split_371 : decode cX10_split 371 = .ok (.invokestatic 56, 3) := by decide +kernel
theorem dX10_split_374 : decode cX10_split 374 = .ok (.iload_n 3, 1) := by decide +kernel
theorem dX10_split_375 : decode cX10_split 375 = .ok (.iastore, 1) := by decide +kernel
theorem dX10_split_376 : decode cX10_split 376 = .ok (.iload_n 3, 1) := by decide +kernel
theorem dX10_split_377 : decode cX10_split 377 = .ok (.istore 11, 2) := by decide +kernel
theorem dX10_split_379 : decode cX10_split 379 = .ok (.iload 11, 2) := by decide +kernel
theorem dX10_split_381 : decode cX10_split 381 = .ok (.bipush 24, 2) := by decide +kernel
theorem dX10_split_383 : decode cX10_split 383 = .ok (.if_icmp .ge 20, 3) := by decide +kernel
theorem dX10_split_386 : decode cX10_split 386 = .ok (.aload_n 0, 1) := by decide +kernel
theorem dX10_split_387 : decode cX10_split 387 = .ok (.getfield 7, 3) := by decide +kernel
theorem dX10_split_390 : decode cX10_split 390 = .ok (.iload 4, 2) := by decide +kernel
theorem dX10_split_392 : decode cX10_split 392 = .ok (.iload 11, 2) := by decide +kernel
theorem dX10_split_394 : decode cX10_split 394 = .ok (.iadd, 1) := by decide +kernel
theorem dX10_split_395 : decode cX10_split 395 = .ok (.iconst 0, 1) := by decide +kernel
theorem dX10_split_396 : decode cX10_split 396 = .ok (.iastore, 1) := by decide +kernel
theorem dX10_split_397 : decode cX10_split 397 = .ok (.iinc 11 1, 3) := by decide +kernel
theorem dX10_split_400 : decode cX10_split 400 = .ok (.goto (-21), 3) := by decide +kernel
theorem dX10_split_403 : decode cX10_split 403 = .ok (.aload_n 0, 1) := by decide +kernel
theorem dX10_split_404 : decode cX10_split 404 = .ok (.iload_n 1, 1) := by decide +kernel
theorem dX10_split_405 : decode cX10_split 405 = .ok (.invokevirtual 148, 3) := by decide +kernel
theorem dX10_split_408 : decode cX10_split 408 = .ok (.pop, 1) := by decide +kernel
theorem dX10_split_409 : decode cX10_split 409 = .ok (.iload 10, 2) := by decide +kernel
theorem dX10_split_411 : decode cX10_split 411 = .ok (.ireturn, 1) := by decide +kernel
theorem dX10_againstMerge_0 : decode cX10_againstMerge 0 = .ok (.iload_n 2, 1) := by decide +kernel
theorem dX10_againstMerge_1 : decode cX10_againstMerge 1 = .ok (.iconst 1, 1) := by decide +kernel
theorem dX10_againstMerge_2 : decode cX10_againstMerge 2 = .ok (.iadd, 1) := by decide +kernel
theorem dX10_againstMerge_3 : decode cX10_againstMerge 3 = .ok (.aload_n 0, 1) := by decide +kernel
theorem dX10_againstMerge_4 : decode cX10_againstMerge 4 = .ok (.getfield 7, 3) := by decide +kernel
theorem dX10_againstMerge_7 : decode cX10_againstMerge 7 = .ok (.bipush 28, 2) := by decide +kernel
theorem dX10_againstMerge_9 : decode cX10_againstMerge 9 = .ok (.iload_n 1, 1) := by decide +kernel
theorem dX10_againstMerge_10 : decode cX10_againstMerge 10 = .ok (.iadd, 1) := by decide +kernel
theorem dX10_againstMerge_11 : decode cX10_againstMerge 11 = .ok (.iaload, 1) := by decide +kernel
theorem dX10_againstMerge_12 : decode cX10_againstMerge 12 = .ok (.if_icmp .ne 5, 3) := by decide +kernel
theorem dX10_againstMerge_15 : decode cX10_againstMerge 15 = .ok (.iconst 5, 1) := by decide +kernel
theorem dX10_againstMerge_16 : decode cX10_againstMerge 16 = .ok (.ireturn, 1) := by decide +kernel
theorem dX10_againstMerge_17 : decode cX10_againstMerge 17 = .ok (.aload_n 0, 1) := by decide +kernel
theorem dX10_againstMerge_18 : decode cX10_againstMerge 18 = .ok (.getfield 7, 3) := by decide +kernel
theorem dX10_againstMerge_21 : decode cX10_againstMerge 21 = .ok (.iload_n 1, 1) := by decide +kernel
theorem dX10_againstMerge_22 : decode cX10_againstMerge 22 = .ok (.iload_n 2, 1) := by decide +kernel
theorem dX10_againstMerge_23 : decode cX10_againstMerge 23 = .ok (.iconst 2, 1) := by decide +kernel
theorem dX10_againstMerge_24 : decode cX10_againstMerge 24 = .ok (.invokestatic 56, 3) := by decide +kernel
theorem dX10_againstMerge_27 : decode cX10_againstMerge 27 = .ok (.iaload, 1) := by decide +kernel
theorem dX10_againstMerge_28 : decode cX10_againstMerge 28 = .ok (.aload_n 0, 1) := by decide +kernel
theorem dX10_againstMerge_29 : decode cX10_againstMerge 29 = .ok (.getfield 7, 3) := by decide +kernel
theorem dX10_againstMerge_32 : decode cX10_againstMerge 32 = .ok (.iload_n 1, 1) := by decide +kernel
theorem dX10_againstMerge_33 : decode cX10_againstMerge 33 = .ok (.iload_n 2, 1) := by decide +kernel
theorem dX10_againstMerge_34 : decode cX10_againstMerge 34 = .ok (.iconst 1, 1) := by decide +kernel
theorem dX10_againstMerge_35 : decode cX10_againstMerge 35 = .ok (.iadd, 1) := by decide +kernel
theorem dX10_againstMerge_36 : decode cX10_againstMerge 36 = .ok (.iconst 2, 1) := by decide +kernel
theorem dX10_againstMerge_37 : decode cX10_againstMerge 37 = .ok (.invokestatic 56, 3) := by decide +kernel
theorem dX10_againstMerge_40 : decode cX10_againstMerge 40 = .ok (.iaload, 1) := by decide +kernel
theorem dX10_againstMerge_41 : decode cX10_againstMerge 41 = .ok (.if_icmp .eq 6, 3) := by decide +kernel
theorem dX10_againstMerge_44 : decode cX10_againstMerge 44 = .ok (.bipush 6, 2) := by decide +kernel
theorem dX10_againstMerge_46 : decode cX10_againstMerge 46 = .ok (.ireturn, 1) := by decide +kernel
theorem dX10_againstMerge_47 : decode cX10_againstMerge 47 = .ok (.aload_n 0, 1) := by decide +kernel
theorem dX10_againstMerge_48 : decode cX10_againstMerge 48 = .ok (.iload_n 1, 1) := by decide +kernel
theorem dX10_againstMerge_49 : decode cX10_againstMerge 49 = .ok (.iload_n 2, 1) := by decide +kernel
theorem dX10_againstMerge_50 : decode cX10_againstMerge 50 = .ok (.iconst 1, 1) := by decide +kernel
theorem dX10_againstMerge_51 : decode cX10_againstMerge 51 = .ok (.iadd, 1) := by decide +kernel
theorem dX10_againstMerge_52 : decode cX10_againstMerge 52 = .ok (.invokevirtual 128, 3) := by decide +kernel
theorem dX10_againstMerge_55 : decode cX10_againstMerge 55 = .ok (.aload_n 0, 1) := by decide +kernel
theorem dX10_againstMerge_56 : decode cX10_againstMerge 56 = .ok (.getfield 7, 3) := by decide +kernel
theorem dX10_againstMerge_59 : decode cX10_againstMerge 59 = .ok (.iconst 4, 1) := by decide +kernel
theorem dX10_againstMerge_60 : decode cX10_againstMerge 60 = .ok (.iaload, 1) := by decide +kernel
theorem dX10_againstMerge_61 : decode cX10_againstMerge 61 = .ok (.if_icmp .le 6, 3) := by decide +kernel
theorem dX10_againstMerge_64 : decode cX10_againstMerge 64 = .ok (.bipush 7, 2) := by decide +kernel
theorem dX10_againstMerge_66 : decode cX10_againstMerge 66 = .ok (.ireturn, 1) := by decide +kernel
theorem dX10_againstMerge_67 : decode cX10_againstMerge 67 = .ok (.aload_n 0, 1) := by decide +kernel
theorem dX10_againstMerge_68 : decode cX10_againstMerge 68 = .ok (.getfield 7, 3) := by decide +kernel
theorem dX10_againstMerge_71 : decode cX10_againstMerge 71 = .ok (.iload_n 1, 1) := by decide +kernel
theorem dX10_againstMerge_72 : decode cX10_againstMerge 72 = .ok (.iload_n 2, 1) := by decide +kernel
theorem dX10_againstMerge_73 : decode cX10_againstMerge 73 = .ok (.iconst 3, 1) := by decide +kernel
theorem dX10_againstMerge_74 : decode cX10_againstMerge 74 = .ok (.invokestatic 56, 3) := by decide +kernel
theorem dX10_againstMerge_77 : decode cX10_againstMerge 77 = .ok (.iaload, 1) := by decide +kernel
theorem dX10_againstMerge_78 : decode cX10_againstMerge 78 = .ok (.istore_n 3, 1) := by decide +kernel
theorem dX10_againstMerge_79 : decode cX10_againstMerge 79 = .ok (.aload_n 0, 1) := by decide +kernel
theorem dX10_againstMerge_80 : decode cX10_againstMerge 80 = .ok (.getfield 7, 3) := by decide +kernel
theorem dX10_againstMerge_83 : decode cX10_againstMerge 83 = .ok (.iload_n 1, 1) := by decide +kernel
theorem dX10_againstMerge_84 : decode cX10_againstMerge 84 = .ok (.iload_n 2, 1) := by decide +kernel
theorem dX10_againstMerge_85 : decode cX10_againstMerge 85 = .ok (.iconst 1, 1) := by decide +kernel
theorem dX10_againstMerge_86 : decode cX10_againstMerge 86 = .ok (.iadd, 1) := by decide +kernel
theorem dX10_againstMerge_87 : decode cX10_againstMerge 87 = .ok (.iconst 3, 1) := by decide +kernel
theorem dX10_againstMerge_88 : decode cX10_againstMerge 88 = .ok (.invokestatic 56, 3) := by decide +kernel
theorem dX10_againstMerge_91 : decode cX10_againstMerge 91 = .ok (.iaload, 1) := by decide +kernel
theorem dX10_againstMerge_92 : decode cX10_againstMerge 92 = .ok (.istore 4, 2) := by decide +kernel
theorem dX10_againstMerge_94 : decode cX10_againstMerge 94 = .ok (.iload_n 3, 1) := by decide +kernel
theorem dX10_againstMerge_95 : decode cX10_againstMerge 95 = .ok (.iload 4, 2) := by decide +kernel
theorem dX10_againstMerge_97 : decode cX10_againstMerge 97 = .ok (.iadd, 1) := by decide +kernel
theorem dX10_againstMerge_98 : decode cX10_againstMerge 98 = .ok (.iconst 1, 1) := by decide +kernel
theorem dX10_againstMerge_99 : decode cX10_againstMerge 99 = .ok (.iadd, 1) := by decide +kernel
theorem dX10_againstMerge_100 : decode cX10_againstMerge 100 = .ok (.bipush 24, 2) := by decide +kernel
theorem dX10_againstMerge_102 : decode cX10_againstMerge 102 = .ok (.if_icmp .gt 39, 3) := by decide +kernel
theorem dX10_againstMerge_105 : decode cX10_againstMerge 105 = .ok (.aload_n 0, 1) := by decide +kernel
theorem dX10_againstMerge_106 : decode cX10_againstMerge 106 = .ok (.getfield 7, 3) := by decide +kernel
theorem dX10_againstMerge_109 : decode cX10_againstMerge 109 = .ok (.iload_n 1, 1) := by decide +kernel
theorem dX10_againstMerge_110 : decode cX10_againstMerge 110 = .ok (.iload_n 2, 1) := by decide +kernel
theorem dX10_againstMerge_111 : decode cX10_againstMerge 111 = .ok (.iconst 4, 1) := by decide +kernel
theorem dX10_againstMerge_112 : decode cX10_againstMerge 112 = .ok (.invokestatic 56, 3) := by decide +kernel
theorem dX10_againstMerge_115 : decode cX10_againstMerge 115 = .ok (.iload_n 3, 1) := by decide +kernel
theorem dX10_againstMerge_116 : decode cX10_againstMerge 116 = .ok (.invokestatic 103, 3) := by decide +kernel
theorem dX10_againstMerge_119 : decode cX10_againstMerge 119 = .ok (.aload_n 0, 1) := by decide +kernel
theorem dX10_againstMerge_120 : decode cX10_againstMerge 120 = .ok (.getfield 7, 3) := by decide +kernel
theorem dX10_againstMerge_123 : decode cX10_againstMerge 123 = .ok (.iload_n 1, 1) := by decide +kernel
theorem dX10_againstMerge_124 : decode cX10_againstMerge 124 = .ok (.iload_n 2, 1) := by decide +kernel
theorem dX10_againstMerge_125 : decode cX10_againstMerge 125 = .ok (.iconst 1, 1) := by decide +kernel
theorem dX10_againstMerge_126 : decode cX10_againstMerge 126 = .ok (.iadd, 1) := by decide +kernel
theorem dX10_againstMerge_127 : decode cX10_againstMerge 127 = .ok (.iconst 4, 1) := by decide +kernel
theorem dX10_againstMerge_128 : decode cX10_againstMerge 128 = .ok (.invokestatic 56, 3) := by decide +kernel
theorem dX10_againstMerge_131 : decode cX10_againstMerge 131 = .ok (.iload 4, 2) := by decide +kernel
theorem dX10_againstMerge_133 : decode cX10_againstMerge 133 = .ok (.invokestatic 103, 3) := by decide +kernel
theorem dX10_againstMerge_136 : decode cX10_againstMerge 136 = .ok (.iadd, 1) := by decide +kernel
theorem dX10_againstMerge_137 : decode cX10_againstMerge 137 = .ok (.iconst 1, 1) := by decide +kernel
theorem dX10_againstMerge_138 : decode cX10_againstMerge 138 = .ok (.if_icmp .le 7, 3) := by decide +kernel
theorem dX10_againstMerge_141 : decode cX10_againstMerge 141 = .ok (.iconst 4, 1) := by decide +kernel
theorem dX10_againstMerge_142 : decode cX10_againstMerge 142 = .ok (.goto 4, 3) := by decide +kernel
theorem dX10_againstMerge_145 : decode cX10_againstMerge 145 = .ok (.iconst 0, 1) := by decide +kernel
theorem dX10_againstMerge_146 : decode cX10_againstMerge 146 = .ok (.ireturn, 1) := by decide +kernel
theorem dX10_merge_0 : decode cX10_merge 0 = .ok (.aload_n 0, 1) := by decide +kernel
theorem dX10_merge_1 : decode cX10_merge 1 = .ok (.aload_n 0, 1) := by decide +kernel
theorem dX10_merge_2 : decode cX10_merge 2 = .ok (.iload_n 1, 1) := by decide +kernel
theorem dX10_merge_3 : decode cX10_merge 3 = .ok (.iload_n 2, 1) := by decide +kernel
theorem dX10_merge_4 : decode cX10_merge 4 = .ok (.invokevirtual 159, 3) := by decide +kernel
theorem dX10_merge_7 : decode cX10_merge 7 = .ok (.ifCond .eq 7, 3) := by decide +kernel
theorem dX10_merge_10 : decode cX10_merge 10 = .ok (.iconst 0, 1) := by decide +kernel
theorem dX10_merge_11 : decode cX10_merge 11 = .ok (.goto 4, 3) := by decide +kernel
theorem dX10_merge_14 : decode cX10_merge 14 = .ok (.iconst 1, 1) := by decide +kernel
theorem dX10_merge_15 : decode cX10_merge 15 = .ok (.putfield 35, 3) := by decide +kernel
theorem dX10_merge_18 : decode cX10_merge 18 = .ok (.aload_n 0, 1) := by decide +kernel
theorem dX10_merge_19 : decode cX10_merge 19 = .ok (.getfield 35, 3) := by decide +kernel
theorem dX10_merge_22 : decode cX10_merge 22 = .ok (.ifCond .le 5, 3) := by decide +kernel
theorem dX10_merge_25 : decode cX10_merge 25 = .ok (.iconst 0, 1) := by decide +kernel
theorem dX10_merge_26 : decode cX10_merge 26 = .ok (.ireturn, 1) := by decide +kernel
theorem dX10_merge_27 : decode cX10_merge 27 = .ok (.aload_n 0, 1) := by decide +kernel
theorem dX10_merge_28 : decode cX10_merge 28 = .ok (.iload_n 1, 1) := by decide +kernel
theorem dX10_merge_29 : decode cX10_merge 29 = .ok (.iload_n 2, 1) := by decide +kernel
theorem dX10_merge_30 : decode cX10_merge 30 = .ok (.invokevirtual 172, 3) := by decide +kernel
theorem dX10_merge_33 : decode cX10_merge 33 = .ok (.istore_n 3, 1) := by decide +kernel
theorem dX10_merge_34 : decode cX10_merge 34 = .ok (.iload_n 3, 1) := by decide +kernel
theorem dX10_merge_35 : decode cX10_merge 35 = .ok (.ifCond .le 10, 3) := by decide +kernel
theorem dX10_merge_38 : decode cX10_merge 38 = .ok (.aload_n 0, 1) := by decide +kernel
theorem dX10_merge_39 : decode cX10_merge 39 = .ok (.iconst 2, 1) := by decide +kernel
theorem dX10_merge_40 : decode cX10_merge 40 = .ok (.iload_n 3, 1) := by decide +kernel
theorem dX10_merge_41 : decode cX10_merge 41 = .ok (.invokevirtual 75, 3) := by decide +kernel
theorem dX10_merge_44 : decode cX10_merge 44 = .ok (.ireturn, 1) := by decide +kernel
theorem dX10_merge_45 : decode cX10_merge 45 = .ok (.aload_n 0, 1) := by decide +kernel
theorem dX10_merge_46 : decode cX10_merge 46 = .ok (.aload_n 0, 1) := by decide +kernel
theorem dX10_merge_47 : decode cX10_merge 47 = .ok (.getfield 7, 3) := by decide +kernel
theorem dX10_merge_50 : decode cX10_merge 50 = .ok (.invokevirtual 78, 3) := by decide +kernel
theorem dX10_merge_53 : decode cX10_merge 53 = .ok (.aload_n 0, 1) := by decide +kernel
theorem dX10_merge_54 : decode cX10_merge 54 = .ok (.getfield 7, 3) := by decide +kernel
theorem dX10_merge_57 : decode cX10_merge 57 = .ok (.iload_n 1, 1) := by decide +kernel
theorem dX10_merge_58 : decode cX10_merge 58 = .ok (.iload_n 2, 1) := by decide +kernel
theorem dX10_merge_59 : decode cX10_merge 59 = .ok (.iconst 3, 1) := by decide +kernel
theorem dX10_merge_60 : decode cX10_merge 60 = .ok (.invokestatic 56, 3) := by decide +kernel
theorem dX10_merge_63 : decode cX10_merge 63 = .ok (.iaload, 1) := by decide +kernel
theorem dX10_merge_64 : decode cX10_merge 64 = .ok (.istore 4, 2) := by decide +kernel
theorem dX10_merge_66 : decode cX10_merge 66 = .ok (.aload_n 0, 1) := by decide +kernel
theorem dX10_merge_67 : decode cX10_merge 67 = .ok (.getfield 7, 3) := by decide +kernel
theorem dX10_merge_70 : decode cX10_merge 70 = .ok (.iload_n 1, 1) := by decide +kernel
theorem dX10_merge_71 : decode cX10_merge 71 = .ok (.iload_n 2, 1) := by decide +kernel
theorem dX10_merge_72 : decode cX10_merge 72 = .ok (.iconst 1, 1) := by decide +kernel
theorem dX10_merge_73 : decode cX10_merge 73 = .ok (.iadd, 1) := by decide +kernel
theorem dX10_merge_74 : decode cX10_merge 74 = .ok (.iconst 3, 1) := by decide +kernel
theorem dX10_merge_75 : decode cX10_merge 75 = .ok (.invokestatic 56, 3) := by decide +kernel
theorem dX10_merge_78 : decode cX10_merge 78 = .ok (.iaload, 1) := by decide +kernel
theorem dX10_merge_79 : decode cX10_merge 79 = .ok (.istore 5, 2) := by decide +kernel
theorem dX10_merge_81 : decode cX10_merge 81 = .ok (.aload_n 0, 1) := by decide +kernel
theorem dX10_merge_82 : decode cX10_merge 82 = .ok (.getfield 7, 3) := by decide +kernel
theorem dX10_merge_85 : decode cX10_merge 85 = .ok (.iload_n 1, 1) := by decide +kernel
theorem dX10_merge_86 : decode cX10_merge 86 = .ok (.iload_n 2, 1) := by decide +kernel
theorem dX10_merge_87 : decode cX10_merge 87 = .ok (.iconst 4, 1) := by decide +kernel
theorem dX10_merge_88 : decode cX10_merge 88 = .ok (.iload 4, 2) := by decide +kernel
theorem dX10_merge_90 : decode cX10_merge 90 = .ok (.iadd, 1) := by decide +kernel
theorem dX10_merge_91 : decode cX10_merge 91 = .ok (.invokestatic 56, 3) := by decide +kernel
theorem dX10_merge_94 : decode cX10_merge 94 = .ok (.bipush 95, 2) := by decide +kernel
theorem dX10_merge_96 : decode cX10_merge 96 = .ok (.iastore, 1) := by decide +kernel
theorem dX10_merge_97 : decode cX10_merge 97 = .ok (.iconst 0, 1) := by decide +kernel
theorem dX10_merge_98 : decode cX10_merge 98 = .ok (.istore 6, 2) := by decide +kernel
theorem dX10_merge_100 : decode cX10_merge 100 = .ok (.iload 6, 2) := by decide +kernel
theorem dX10_merge_102 : decode cX10_merge 102 = .ok (.iload 5, 2) := by decide +kernel
theorem dX10_merge_104 : decode cX10_merge 104 = .ok (.if_icmp .ge 44, 3) := by decide +kernel
theorem dX10_merge_107 : decode cX10_merge 107 = .ok (.aload_n 0, 1) := by decide +kernel
theorem dX10_merge_108 : decode cX10_merge 108 = .ok (.getfield 7, 3) := by decide +kernel
theorem dX10_merge_111 : decode cX10_merge 111 = .ok (.iload_n 1, 1) := by decide +kernel
theorem dX10_merge_112 : decode cX10_merge 112 = .ok (.iload_n 2, 1) := by decide +kernel
theorem dX10_merge_113 : decode cX10_merge 113 = .ok (.iconst 4, 1) := by decide +kernel
theorem dX10_merge_114 : decode cX10_merge 114 = .ok (.iload 4, 2) := by decide +kernel
theorem dX10_merge_116 : decode cX10_merge 116 = .ok (.iadd, 1) := by decide +kernel
theorem dX10_merge_117 : decode cX10_merge 117 = .ok (.iconst 1, 1) := by decide +kernel
theorem dX10_merge_118 : decode cX10_merge 118 = .ok (.iadd, 1) := by decide +kernel
theorem dX10_merge_119 : decode cX10_merge 119 = .ok (.iload 6, 2) := by decide +kernel
theorem dX10_merge_121 : decode cX10_merge 121 = .ok (.iadd, 1) := by decide +kernel
theorem dX10_merge_122 : decode cX10_merge 122 = .ok (.invokestatic 56, 3) := by decide +kernel
theorem dX10_merge_125 : decode cX10_merge 125 = .ok (.aload_n 0, 1) := by decide +kernel
theorem dX10_merge_126 : decode cX10_merge 126 = .ok (.getfield 7, 3) := by decide +kernel
theorem dX10_merge_129 : decode cX10_merge 129 = .ok (.iload_n 1, 1) := by decide +kernel
theorem dX10_merge_130 : decode cX10_merge 130 = .ok (.iload_n 2, 1) := by decide +kernel
theorem dX10_merge_131 : decode cX10_merge 131 = .ok (.iconst 1, 1) := by decide +kernel
theorem dX10_merge_132 : decode cX10_merge 132 = .ok (.iadd, 1) := by decide +kernel
theorem dX10_merge_133 : decode cX10_merge 133 = .ok (.iconst 4, 1) := by decide +kernel
theorem dX10_merge_134 : decode cX10_merge 134 = .ok (.iload 6, 2) := by decide +kernel
theorem dX10_merge_136 : decode cX10_merge 136 = .ok (.iadd, 1) := by decide +kernel
theorem dX10_merge_137 : decode cX10_merge 137 = .ok (.invokestatic 56, 3) := by decide +kernel
theorem dX10_merge_140 : decode cX10_merge 140 = .ok (.iaload, 1) := by decide +kernel
theorem dX10_merge_141 : decode cX10_merge 141 = .ok (.iastore, 1) := by decide +kernel
theorem dX10_merge_142 : decode cX10_merge 142 = .ok (.iinc 6 1, 3) := by decide +kernel
theorem dX10_merge_145 : decode cX10_merge 145 = .ok (.goto (-45), 3) := by decide +kernel
theorem dX10_merge_148 : decode cX10_merge 148 = .ok (.aload_n 0, 1) := by decide +kernel
theorem dX10_merge_149 : decode cX10_merge 149 = .ok (.getfield 7, 3) := by decide +kernel
theorem dX10_merge_152 : decode cX10_merge 152 = .ok (.iload_n 1, 1) := by decide +kernel
theorem dX10_merge_153 : decode cX10_merge 153 = .ok (.iload_n 2, 1) := by decide +kernel
theorem dX10_merge_154 : decode cX10_merge 154 = .ok (.iconst 3, 1) := by decide +kernel
theorem dX10_merge_155 : decode cX10_merge 155 = .ok (.invokestatic 56, 3) := by decide +kernel
theorem dX10_merge_158 : decode cX10_merge 158 = .ok (.iload 4, 2) := by decide +kernel
theorem dX10_merge_160 : decode cX10_merge 160 = .ok (.iload 5, 2) := by decide +kernel
theorem dX10_merge_162 : decode cX10_merge 162 = .ok (.iadd, 1) := by decide +kernel
theorem dX10_merge_163 : decode cX10_merge 163 = .ok (.iconst 1, 1) := by decide +kernel
theorem dX10_merge_164 : decode cX10_merge 164 = .ok (.iadd, 1) := by decide +kernel
theorem dX10_merge_165 : decode cX10_merge 165 = .ok (.iastore, 1) := by decide +kernel
theorem dX10_merge_166 : decode cX10_merge 166 = .ok (.aload_n 0, 1) := by decide +kernel
theorem dX10_merge_167 : decode cX10_merge 167 = .ok (.getfield 7, 3) := by decide +kernel
theorem dX10_merge_170 : decode cX10_merge 170 = .ok (.iload_n 1, 1) := by decide +kernel
theorem dX10_merge_171 : decode cX10_merge 171 = .ok (.iload_n 2, 1) := by decide +kernel
theorem dX10_merge_172 : decode cX10_merge 172 = .ok (.iconst 1, 1) := by decide +kernel
theorem dX10_merge_173 : decode cX10_merge 173 = .ok (.invokestatic 56, 3) := by decide +kernel
theorem dX10_merge_176 : decode cX10_merge 176 = .ok (.aload_n 0, 1) := by decide +kernel
theorem dX10_merge_177 : decode cX10_merge 177 = .ok (.iload_n 1, 1) := by decide +kernel
theorem dX10_merge_178 : decode cX10_merge 178 = .ok (.iload_n 2, 1) := by decide +kernel
theorem dX10_merge_179 : decode cX10_merge 179 = .ok (.iconst 1, 1) := by decide +kernel
theorem dX10_merge_180 : decode cX10_merge 180 = .ok (.iadd, 1) := by decide +kernel
theorem dX10_merge_181 : decode cX10_merge 181 = .ok (.invokevirtual 71, 3) := by decide +kernel
theorem dX10_merge_184 : decode cX10_merge 184 = .ok (.iastore, 1) := by decide +kernel
theorem dX10_merge_185 : decode cX10_merge 185 = .ok (.aload_n 0, 1) := by decide +kernel
theorem dX10_merge_186 : decode cX10_merge 186 = .ok (.iload_n 1, 1) := by decide +kernel
theorem dX10_merge_187 : decode cX10_merge 187 = .ok (.iload_n 2, 1) := by decide +kernel
theorem dX10_merge_188 : decode cX10_merge 188 = .ok (.iconst 1, 1) := by decide +kernel
theorem dX10_merge_189 : decode cX10_merge 189 = .ok (.iadd, 1) := by decide +kernel
theorem dX10_merge_190 : decode cX10_merge 190 = .ok (.invokevirtual 162, 3) := by decide +kernel
theorem dX10_merge_193 : decode cX10_merge 193 = .ok (.aload_n 0, 1) := by decide +kernel
theorem dX10_merge_194 : decode cX10_merge 194 = .ok (.iload_n 1, 1) := by decide +kernel
theorem dX10_merge_195 : decode cX10_merge 195 = .ok (.iload_n 2, 1) := by decide +kernel
theorem dX10_merge_196 : decode cX10_merge 196 = .ok (.invokevirtual 107, 3) := by decide +kernel
theorem dX10_merge_199 : decode cX10_merge 199 = .ok (.ireturn, 1) := by decide +kernel
theorem dX10_snap_0 : decode cX10_snap 0 = .ok (.aload_n 0, 1) := by decide +kernel
theorem dX10_snap_1 : decode cX10_snap 1 = .ok (.aload_n 0, 1) := by decide +kernel
theorem dX10_snap_2 : decode cX10_snap 2 = .ok (.iload_n 1, 1) := by decide +kernel
theorem dX10_snap_3 : decode cX10_snap 3 = .ok (.iload_n 2, 1) := by decide +kernel
theorem dX10_snap_4 : decode cX10_snap 4 = .ok (.invokevirtual 159, 3) := by decide +kernel
theorem dX10_snap_7 : decode cX10_snap 7 = .ok (.ifCond .eq 7, 3) := by decide +kernel
theorem dX10_snap_10 : decode cX10_snap 10 = .ok (.iconst 0, 1) := by decide +kernel
theorem dX10_snap_11 : decode cX10_snap 11 = .ok (.goto 4, 3) := by decide +kernel
theorem dX10_snap_14 : decode cX10_snap 14 = .ok (.iconst 1, 1) := by decide +kernel
theorem dX10_snap_15 : decode cX10_snap 15 = .ok (.putfield 35, 3) := by decide +kernel
theorem dX10_snap_18 : decode cX10_snap 18 = .ok (.aload_n 0, 1) := by decide +kernel
theorem dX10_snap_19 : decode cX10_snap 19 = .ok (.getfield 35, 3) := by decide +kernel
theorem dX10_snap_22 : decode cX10_snap 22 = .ok (.ifCond .le 5, 3) := by decide +kernel
theorem dX10_snap_25 : decode cX10_snap 25 = .ok (.iconst 0, 1) := by decide +kernel
theorem dX10_snap_26 : decode cX10_snap 26 = .ok (.ireturn, 1) := by decide +kernel
theorem dX10_snap_27 : decode cX10_snap 27 = .ok (.aload_n 0, 1) := by decide +kernel
theorem dX10_snap_28 : decode cX10_snap 28 = .ok (.aload_n 0, 1) := by decide +kernel
theorem dX10_snap_29 : decode cX10_snap 29 = .ok (.iload_n 1, 1) := by decide +kernel
theorem dX10_snap_30 : decode cX10_snap 30 = .ok (.iload_n 2, 1) := by decide +kernel
theorem dX10_snap_31 : decode cX10_snap 31 = .ok (.invokevirtual 113, 3) := by decide +kernel
theorem dX10_snap_34 : decode cX10_snap 34 = .ok (.invokevirtual 125, 3) := by decide +kernel
theorem dX10_snap_37 : decode cX10_snap 37 = .ok (.ifCond .eq 16, 3) := by decide +kernel
theorem dX10_snap_40 : decode cX10_snap 40 = .ok (.aload_n 0, 1) := by decide +kernel
theorem dX10_snap_41 : decode cX10_snap 41 = .ok (.aload_n 0, 1) := by decide +kernel
theorem dX10_snap_42 : decode cX10_snap 42 = .ok (.iload_n 1, 1) := by decide +kernel
theorem dX10_snap_43 : decode cX10_snap 43 = .ok (.iload_n 2, 1) := by decide +kernel
theorem dX10_snap_44 : decode cX10_snap 44 = .ok (.invokevirtual 113, 3) := by decide +kernel
theorem dX10_snap_47 : decode cX10_snap 47 = .ok (.invokevirtual 175, 3) := by decide +kernel
theorem dX10_snap_50 : decode cX10_snap 50 = .ok (.goto 9, 3) := by decide +kernel
theorem dX10_snap_53 : decode cX10_snap 53 = .ok (.aload_n 0, 1) := by decide +kernel
theorem dX10_snap_54 : decode cX10_snap 54 = .ok (.iload_n 1, 1) := by decide +kernel
theorem dX10_snap_55 : decode cX10_snap 55 = .ok (.iload_n 2, 1) := by decide +kernel
theorem dX10_snap_56 : decode cX10_snap 56 = .ok (.invokevirtual 113, 3) := by decide +kernel
theorem dX10_snap_59 : decode cX10_snap 59 = .ok (.istore_n 3, 1) := by decide +kernel
theorem dX10_snap_60 : decode cX10_snap 60 = .ok (.aload_n 0, 1) := by decide +kernel
theorem dX10_snap_61 : decode cX10_snap 61 = .ok (.aload_n 0, 1) := by decide +kernel
theorem dX10_snap_62 : decode cX10_snap 62 = .ok (.iload_n 1, 1) := by decide +kernel
theorem dX10_snap_63 : decode cX10_snap 63 = .ok (.iload_n 2, 1) := by decide +kernel
theorem dX10_snap_64 : decode cX10_snap 64 = .ok (.invokevirtual 71, 3) := by decide +kernel
theorem dX10_snap_67 : decode cX10_snap 67 = .ok (.invokevirtual 125, 3) := by decide +kernel
theorem dX10_snap_70 : decode cX10_snap 70 = .ok (.ifCond .eq 16, 3) := by decide +kernel
theorem dX10_snap_73 : decode cX10_snap 73 = .ok (.aload_n 0, 1) := by decide +kernel
theorem dX10_snap_74 : decode cX10_snap 74 = .ok (.aload_n 0, 1) := by decide +kernel
theorem dX10_snap_75 : decode cX10_snap 75 = .ok (.iload_n 1, 1) := by decide +kernel
theorem dX10_snap_76 : decode cX10_snap 76 = .ok (.iload_n 2, 1) := by decide +kernel
theorem dX10_snap_77 : decode cX10_snap 77 = .ok (.invokevirtual 71, 3) := by decide +kernel
theorem dX10_snap_80 : decode cX10_snap 80 = .ok (.invokevirtual 175, 3) := by decide +kernel
theorem dX10_snap_83 : decode cX10_snap 83 = .ok (.goto 9, 3) := by decide +kernel
theorem dX10_snap_86 : decode cX10_snap 86 = .ok (.aload_n 0, 1) := by decide +kernel
theorem dX10_snap_87 : decode cX10_snap 87 = .ok (.iload_n 1, 1) := by decide +kernel
theorem dX10_snap_88 : decode cX10_snap 88 = .ok (.iload_n 2, 1) := by decide +kernel
theorem dX10_snap_89 : decode cX10_snap 89 = .ok (.invokevirtual 71, 3) := by decide +kernel
theorem dX10_snap_92 : decode cX10_snap 92 = .ok (.istore 4, 2) := by decide +kernel
theorem dX10_snap_94 : decode cX10_snap 94 = .ok (.aload_n 0, 1) := by decide +kernel
theorem dX10_snap_95 : decode cX10_snap 95 = .ok (.iload_n 1, 1) := by decide +kernel
theorem dX10_snap_96 : decode cX10_snap 96 = .ok (.iload_n 2, 1) := by decide +kernel
theorem dX10_snap_97 : decode cX10_snap 97 = .ok (.iload_n 3, 1) := by decide +kernel
theorem dX10_snap_98 : decode cX10_snap 98 = .ok (.iload 4, 2) := by decide +kernel
theorem dX10_snap_100 : decode cX10_snap 100 = .ok (.invokevirtual 140, 3) := by decide +kernel
theorem dX10_snap_103 : decode cX10_snap 103 = .ok (.istore 5, 2) := by decide +kernel
theorem dX10_snap_105 : decode cX10_snap 105 = .ok (.iload 5, 2) := by decide +kernel
theorem dX10_snap_107 : decode cX10_snap 107 = .ok (.ifCond .le 11, 3) := by decide +kernel
theorem dX10_snap_110 : decode cX10_snap 110 = .ok (.aload_n 0, 1) := by decide +kernel
theorem dX10_snap_111 : decode cX10_snap 111 = .ok (.iconst 2, 1) := by decide +kernel
theorem dX10_snap_112 : decode cX10_snap 112 = .ok (.iload 5, 2) := by decide +kernel
theorem dX10_snap_114 : decode cX10_snap 114 = .ok (.invokevirtual 75, 3) := by decide +kernel
theorem dX10_snap_117 : decode cX10_snap 117 = .ok (.ireturn, 1) := by decide +kernel
theorem dX10_snap_118 : decode cX10_snap 118 = .ok (.aload_n 0, 1) := by decide +kernel
theorem dX10_snap_119 : decode cX10_snap 119 = .ok (.aload_n 0, 1) := by decide +kernel
theorem dX10_snap_120 : decode cX10_snap 120 = .ok (.getfield 7, 3) := by decide +kernel
theorem dX10_snap_123 : decode cX10_snap 123 = .ok (.invokevirtual 78, 3) := by decide +kernel
theorem dX10_snap_126 : decode cX10_snap 126 = .ok (.iload_n 3, 1) := by decide +kernel
theorem dX10_snap_127 : decode cX10_snap 127 = .ok (.aload_n 0, 1) := by decide +kernel
theorem dX10_snap_128 : decode cX10_snap 128 = .ok (.iload_n 1, 1) := by decide +kernel
theorem dX10_snap_129 : decode cX10_snap 129 = .ok (.iload_n 2, 1) := by decide +kernel
theorem dX10_snap_130 : decode cX10_snap 130 = .ok (.invokevirtual 113, 3) := by decide +kernel
theorem dX10_snap_133 : decode cX10_snap 133 = .ok (.if_icmp .eq 7, 3) := by decide +kernel
theorem dX10_snap_136 : decode cX10_snap 136 = .ok (.iconst 1, 1) := by decide +kernel
theorem dX10_snap_137 : decode cX10_snap 137 = .ok (.goto 4, 3) := by decide +kernel
theorem dX10_snap_140 : decode cX10_snap 140 = .ok (.iconst 0, 1) := by decide +kernel
theorem dX10_snap_141 : decode cX10_snap 141 = .ok (.iload 4, 2) := by decide +kernel
theorem dX10_snap_143 : decode cX10_snap 143 = .ok (.aload_n 0, 1) := by decide +kernel
theorem dX10_snap_144 : decode cX10_snap 144 = .ok (.iload_n 1, 1) := by decide +kernel
theorem dX10_snap_145 : decode cX10_snap 145 = .ok (.iload_n 2, 1) := by decide +kernel
theorem dX10_snap_146 : decode cX10_snap 146 = .ok (.invokevirtual 71, 3) := by decide +kernel
theorem dX10_snap_149 : decode cX10_snap 149 = .ok (.if_icmp .eq 7, 3) := by decide +kernel
theorem dX10_snap_152 : decode cX10_snap 152 = .ok (.iconst 2, 1) := by decide +kernel
theorem dX10_snap_153 : decode cX10_snap 153 = .ok (.goto 4, 3) := by decide +kernel
theorem dX10_snap_156 : decode cX10_snap 156 = .ok (.iconst 0, 1) := by decide +kernel
theorem dX10_snap_157 : decode cX10_snap 157 = .ok (.iadd, 1) := by decide +kernel
theorem dX10_snap_158 : decode cX10_snap 158 = .ok (.istore 6, 2) := by decide +kernel
theorem dX10_snap_160 : decode cX10_snap 160 = .ok (.aload_n 0, 1) := by decide +kernel
theorem dX10_snap_161 : decode cX10_snap 161 = .ok (.iload_n 1, 1) := by decide +kernel
theorem dX10_snap_162 : decode cX10_snap 162 = .ok (.iload_n 2, 1) := by decide +kernel
theorem dX10_snap_163 : decode cX10_snap 163 = .ok (.iload_n 3, 1) := by decide +kernel
theorem dX10_snap_164 : decode cX10_snap 164 = .ok (.iload 4, 2) := by decide +kernel
theorem dX10_snap_166 : decode cX10_snap 166 = .ok (.invokevirtual 169, 3) := by decide +kernel
theorem dX10_snap_169 : decode cX10_snap 169 = .ok (.pop, 1) := by decide +kernel
theorem dX10_snap_170 : decode cX10_snap 170 = .ok (.iload 6, 2) := by decide +kernel
theorem dX10_snap_172 : decode cX10_snap 172 = .ok (.ireturn, 1) := by decide +kernel
theorem dX10_fit_0 : decode cX10_fit 0 = .ok (.aload_n 0, 1) := by decide +kernel
theorem dX10_fit_1 : decode cX10_fit 1 = .ok (.aload_n 0, 1) := by decide +kernel
theorem dX10_fit_2 : decode cX10_fit 2 = .ok (.iload_n 1, 1) := by decide +kernel
theorem dX10_fit_3 : decode cX10_fit 3 = .ok (.iload_n 2, 1) := by decide +kernel
theorem dX10_fit_4 : decode cX10_fit 4 = .ok (.invokevirtual 159, 3) := by decide +kernel
theorem dX10_fit_7 : decode cX10_fit 7 = .ok (.ifCond .eq 7, 3) := by decide +kernel
theorem dX10_fit_10 : decode cX10_fit 10 = .ok (.iconst 0, 1) := by decide +kernel
theorem dX10_fit_11 : decode cX10_fit 11 = .ok (.goto 4, 3) := by decide +kernel
theorem dX10_fit_14 : decode cX10_fit 14 = .ok (.iconst 1, 1) := by decide +kernel
theorem dX10_fit_15 : decode cX10_fit 15 = .ok (.putfield 35, 3) := by decide +kernel
theorem dX10_fit_18 : decode cX10_fit 18 = .ok (.aload_n 0, 1) := by decide +kernel
theorem dX10_fit_19 : decode cX10_fit 19 = .ok (.getfield 35, 3) := by decide +kernel
theorem dX10_fit_22 : decode cX10_fit 22 = .ok (.ifCond .le 5, 3) := by decide +kernel
theorem dX10_fit_25 : decode cX10_fit 25 = .ok (.iconst 0, 1) := by decide +kernel
theorem dX10_fit_26 : decode cX10_fit 26 = .ok (.ireturn, 1) := by decide +kernel
theorem dX10_fit_27 : decode cX10_fit 27 = .ok (.aload_n 0, 1) := by decide +kernel
theorem dX10_fit_28 : decode cX10_fit 28 = .ok (.iload_n 1, 1) := by decide +kernel
theorem dX10_fit_29 : decode cX10_fit 29 = .ok (.iload_n 2, 1) := by decide +kernel
theorem dX10_fit_30 : decode cX10_fit 30 = .ok (.invokevirtual 113, 3) := by decide +kernel
theorem dX10_fit_33 : decode cX10_fit 33 = .ok (.aload_n 0, 1) := by decide +kernel
theorem dX10_fit_34 : decode cX10_fit 34 = .ok (.iload_n 1, 1) := by decide +kernel
theorem dX10_fit_35 : decode cX10_fit 35 = .ok (.iload_n 2, 1) := by decide +kernel
theorem dX10_fit_36 : decode cX10_fit 36 = .ok (.invokevirtual 122, 3) := by decide +kernel
theorem dX10_fit_39 : decode cX10_fit 39 = .ok (.iadd, 1) := by decide +kernel
theorem dX10_fit_40 : decode cX10_fit 40 = .ok (.istore_n 3, 1) := by decide +kernel
theorem dX10_fit_41 : decode cX10_fit 41 = .ok (.iload_n 3, 1) := by decide +kernel
theorem dX10_fit_42 : decode cX10_fit 42 = .ok (.aload_n 0, 1) := by decide +kernel
theorem dX10_fit_43 : decode cX10_fit 43 = .ok (.getfield 7, 3) := by decide +kernel
theorem dX10_fit_46 : decode cX10_fit 46 = .ok (.iconst 0, 1) := by decide +kernel
theorem dX10_fit_47 : decode cX10_fit 47 = .ok (.iaload, 1) := by decide +kernel
theorem dX10_fit_48 : decode cX10_fit 48 = .ok (.if_icmp .le 12, 3) := by decide +kernel
theorem dX10_fit_51 : decode cX10_fit 51 = .ok (.aload_n 0, 1) := by decide +kernel
theorem dX10_fit_52 : decode cX10_fit 52 = .ok (.getfield 7, 3) := by decide +kernel
theorem dX10_fit_55 : decode cX10_fit 55 = .ok (.iconst 0, 1) := by decide +kernel
theorem dX10_fit_56 : decode cX10_fit 56 = .ok (.iaload, 1) := by decide +kernel
theorem dX10_fit_57 : decode cX10_fit 57 = .ok (.goto 4, 3) := by decide +kernel
theorem dX10_fit_60 : decode cX10_fit 60 = .ok (.iload_n 3, 1) := by decide +kernel
theorem dX10_fit_61 : decode cX10_fit 61 = .ok (.istore_n 3, 1) := by decide +kernel
theorem dX10_fit_62 : decode cX10_fit 62 = .ok (.iload_n 2, 1) := by decide +kernel
theorem dX10_fit_63 : decode cX10_fit 63 = .ok (.iconst 1, 1) := by decide +kernel
theorem dX10_fit_64 : decode cX10_fit 64 = .ok (.iadd, 1) := by decide +kernel
theorem dX10_fit_65 : decode cX10_fit 65 = .ok (.aload_n 0, 1) := by decide +kernel
theorem dX10_fit_66 : decode cX10_fit 66 = .ok (.getfield 7, 3) := by decide +kernel
theorem dX10_fit_69 : decode cX10_fit 69 = .ok (.bipush 28, 2) := by decide +kernel
theorem dX10_fit_71 : decode cX10_fit 71 = .ok (.iload_n 1, 1) := by decide +kernel
theorem dX10_fit_72 : decode cX10_fit 72 = .ok (.iadd, 1) := by decide +kernel
theorem dX10_fit_73 : decode cX10_fit 73 = .ok (.iaload, 1) := by decide +kernel
theorem dX10_fit_74 : decode cX10_fit 74 = .ok (.if_icmp .ge 38, 3) := by decide +kernel
theorem dX10_fit_77 : decode cX10_fit 77 = .ok (.iload_n 3, 1) := by decide +kernel
theorem dX10_fit_78 : decode cX10_fit 78 = .ok (.aload_n 0, 1) := by decide +kernel
theorem dX10_fit_79 : decode cX10_fit 79 = .ok (.iload_n 1, 1) := by decide +kernel
theorem dX10_fit_80 : decode cX10_fit 80 = .ok (.iload_n 2, 1) := by decide +kernel
theorem dX10_fit_81 : decode cX10_fit 81 = .ok (.iconst 1, 1) := by decide +kernel
theorem dX10_fit_82 : decode cX10_fit 82 = .ok (.iadd, 1) := by decide +kernel
theorem dX10_fit_83 : decode cX10_fit 83 = .ok (.invokevirtual 113, 3) := by decide +kernel
theorem dX10_fit_86 : decode cX10_fit 86 = .ok (.aload_n 0, 1) := by decide +kernel
theorem dX10_fit_87 : decode cX10_fit 87 = .ok (.getfield 7, 3) := by decide +kernel
theorem dX10_fit_90 : decode cX10_fit 90 = .ok (.iconst 3, 1) := by decide +kernel
theorem dX10_fit_91 : decode cX10_fit 91 = .ok (.iaload, 1) := by decide +kernel
theorem dX10_fit_92 : decode cX10_fit 92 = .ok (.isub, 1) := by decide +kernel
theorem dX10_fit_93 : decode cX10_fit 93 = .ok (.if_icmp .le 19, 3) := by decide +kernel
theorem dX10_fit_96 : decode cX10_fit 96 = .ok (.aload_n 0, 1) := by decide +kernel
theorem dX10_fit_97 : decode cX10_fit 97 = .ok (.iload_n 1, 1) := by decide +kernel
theorem dX10_fit_98 : decode cX10_fit 98 = .ok (.iload_n 2, 1) := by decide +kernel
theorem dX10_fit_99 : decode cX10_fit 99 = .ok (.iconst 1, 1) := by decide +kernel
theorem dX10_fit_100 : decode cX10_fit 100 = .ok (.iadd, 1) := by decide +kernel
theorem dX10_fit_101 : decode cX10_fit 101 = .ok (.invokevirtual 113, 3) := by decide +kernel
theorem dX10_fit_104 : decode cX10_fit 104 = .ok (.aload_n 0, 1) := by decide +kernel
theorem dX10_fit_105 : decode cX10_fit 105 = .ok (.getfield 7, 3) := by decide +kernel
theorem dX10_fit_108 : decode cX10_fit 108 = .ok (.iconst 3, 1) := by decide +kernel
theorem dX10_fit_109 : decode cX10_fit 109 = .ok (.iaload, 1) := by decide +kernel
theorem dX10_fit_110 : decode cX10_fit 110 = .ok (.isub, 1) := by decide +kernel
theorem dX10_fit_111 : decode cX10_fit 111 = .ok (.istore_n 3, 1) := by decide +kernel
theorem dX10_fit_112 : decode cX10_fit 112 = .ok (.aload_n 0, 1) := by decide +kernel
theorem dX10_fit_113 : decode cX10_fit 113 = .ok (.getfield 7, 3) := by decide +kernel
theorem dX10_fit_116 : decode cX10_fit 116 = .ok (.bipush 7, 2) := by decide +kernel
theorem dX10_fit_118 : decode cX10_fit 118 = .ok (.iaload, 1) := by decide +kernel
theorem dX10_fit_119 : decode cX10_fit 119 = .ok (.iconst 1, 1) := by decide +kernel
theorem dX10_fit_120 : decode cX10_fit 120 = .ok (.isub, 1) := by decide +kernel
theorem dX10_fit_121 : decode cX10_fit 121 = .ok (.istore 4, 2) := by decide +kernel
theorem dX10_fit_123 : decode cX10_fit 123 = .ok (.iload 4, 2) := by decide +kernel
theorem dX10_fit_125 : decode cX10_fit 125 = .ok (.ifCond .lt 57, 3) := by decide +kernel
theorem dX10_fit_128 : decode cX10_fit 128 = .ok (.aload_n 0, 1) := by decide +kernel
theorem dX10_fit_129 : decode cX10_fit 129 = .ok (.getfield 7, 3) := by decide +kernel
theorem dX10_fit_132 : decode cX10_fit 132 = .ok (.bipush 8, 2) := by decide +kernel
theorem dX10_fit_134 : decode cX10_fit 134 = .ok (.iload 4, 2) := by decide +kernel
theorem dX10_fit_136 : decode cX10_fit 136 = .ok (.iadd, 1) := by decide +kernel
theorem dX10_fit_137 : decode cX10_fit 137 = .ok (.iaload, 1) := by decide +kernel
theorem dX10_fit_138 : decode cX10_fit 138 = .ok (.aload_n 0, 1) := by decide +kernel
theorem dX10_fit_139 : decode cX10_fit 139 = .ok (.iload_n 1, 1) := by decide +kernel
theorem dX10_fit_140 : decode cX10_fit 140 = .ok (.iload_n 2, 1) := by decide +kernel
theorem dX10_fit_141 : decode cX10_fit 141 = .ok (.invokevirtual 71, 3) := by decide +kernel
theorem dX10_fit_144 : decode cX10_fit 144 = .ok (.if_icmp .lt 30, 3) := by decide +kernel
theorem dX10_fit_147 : decode cX10_fit 147 = .ok (.iload_n 3, 1) := by decide +kernel
theorem dX10_fit_148 : decode cX10_fit 148 = .ok (.aload_n 0, 1) := by decide +kernel
theorem dX10_fit_149 : decode cX10_fit 149 = .ok (.getfield 7, 3) := by decide +kernel
theorem dX10_fit_152 : decode cX10_fit 152 = .ok (.bipush 8, 2) := by decide +kernel
theorem dX10_fit_154 : decode cX10_fit 154 = .ok (.iload 4, 2) := by decide +kernel
theorem dX10_fit_156 : decode cX10_fit 156 = .ok (.iadd, 1) := by decide +kernel
theorem dX10_fit_157 : decode cX10_fit 157 = .ok (.iaload, 1) := by decide +kernel
theorem dX10_fit_158 : decode cX10_fit 158 = .ok (.if_icmp .le 16, 3) := by decide +kernel
theorem dX10_fit_161 : decode cX10_fit 161 = .ok (.aload_n 0, 1) := by decide +kernel
theorem dX10_fit_162 : decode cX10_fit 162 = .ok (.getfield 7, 3) := by decide +kernel
theorem dX10_fit_165 : decode cX10_fit 165 = .ok (.bipush 8, 2) := by decide +kernel
theorem dX10_fit_167 : decode cX10_fit 167 = .ok (.iload 4, 2) := by decide +kernel
theorem dX10_fit_169 : decode cX10_fit 169 = .ok (.iadd, 1) := by decide +kernel
theorem dX10_fit_170 : decode cX10_fit 170 = .ok (.iaload, 1) := by decide +kernel
theorem dX10_fit_171 : decode cX10_fit 171 = .ok (.goto 4, 3) := by decide +kernel
theorem dX10_fit_174 : decode cX10_fit 174 = .ok (.iload_n 3, 1) := by decide +kernel
theorem dX10_fit_175 : decode cX10_fit 175 = .ok (.istore_n 3, 1) := by decide +kernel
theorem dX10_fit_176 : decode cX10_fit 176 = .ok (.iinc 4 (-1), 3) := by decide +kernel
theorem dX10_fit_179 : decode cX10_fit 179 = .ok (.goto (-56), 3) := by decide +kernel
theorem dX10_fit_182 : decode cX10_fit 182 = .ok (.aload_n 0, 1) := by decide +kernel
theorem dX10_fit_183 : decode cX10_fit 183 = .ok (.aload_n 0, 1) := by decide +kernel
theorem dX10_fit_184 : decode cX10_fit 184 = .ok (.getfield 7, 3) := by decide +kernel
theorem dX10_fit_187 : decode cX10_fit 187 = .ok (.invokevirtual 78, 3) := by decide +kernel
theorem dX10_fit_190 : decode cX10_fit 190 = .ok (.iload_n 3, 1) := by decide +kernel
theorem dX10_fit_191 : decode cX10_fit 191 = .ok (.aload_n 0, 1) := by decide +kernel
theorem dX10_fit_192 : decode cX10_fit 192 = .ok (.iload_n 1, 1) := by decide +kernel
theorem dX10_fit_193 : decode cX10_fit 193 = .ok (.iload_n 2, 1) := by decide +kernel
theorem dX10_fit_194 : decode cX10_fit 194 = .ok (.invokevirtual 71, 3) := by decide +kernel
theorem dX10_fit_197 : decode cX10_fit 197 = .ok (.if_icmp .le 14, 3) := by decide +kernel
theorem dX10_fit_200 : decode cX10_fit 200 = .ok (.iload_n 3, 1) := by decide +kernel
theorem dX10_fit_201 : decode cX10_fit 201 = .ok (.aload_n 0, 1) := by decide +kernel
theorem dX10_fit_202 : decode cX10_fit 202 = .ok (.iload_n 1, 1) := by decide +kernel
theorem dX10_fit_203 : decode cX10_fit 203 = .ok (.iload_n 2, 1) := by decide +kernel
theorem dX10_fit_204 : decode cX10_fit 204 = .ok (.invokevirtual 71, 3) := by decide +kernel
theorem dX10_fit_207 : decode cX10_fit 207 = .ok (.isub, 1) := by decide +kernel
theorem dX10_fit_208 : decode cX10_fit 208 = .ok (.goto 4, 3) := by decide +kernel
theorem dX10_fit_211 : decode cX10_fit 211 = .ok (.iconst 0, 1) := by decide +kernel
theorem dX10_fit_212 : decode cX10_fit 212 = .ok (.istore 4, 2) := by decide +kernel
theorem dX10_fit_214 : decode cX10_fit 214 = .ok (.aload_n 0, 1) := by decide +kernel
theorem dX10_fit_215 : decode cX10_fit 215 = .ok (.getfield 7, 3) := by decide +kernel
theorem dX10_fit_218 : decode cX10_fit 218 = .ok (.iload_n 1, 1) := by decide +kernel
theorem dX10_fit_219 : decode cX10_fit 219 = .ok (.iload_n 2, 1) := by decide +kernel
theorem dX10_fit_220 : decode cX10_fit 220 = .ok (.iconst 1, 1) := by decide +kernel
theorem dX10_fit_221 : decode cX10_fit 221 = .ok (.invokestatic 56, 3) := by decide +kernel
theorem dX10_fit_224 : decode cX10_fit 224 = .ok (.dup2, 1) := by decide +kernel
theorem dX10_fit_225 : decode cX10_fit 225 = .ok (.iaload, 1) := by decide +kernel
theorem dX10_fit_226 : decode cX10_fit 226 = .ok (.iload 4, 2) := by decide +kernel
theorem dX10_fit_228 : decode cX10_fit 228 = .ok (.iadd, 1) := by decide +kernel
theorem dX10_fit_229 : decode cX10_fit 229 = .ok (.iastore, 1) := by decide +kernel
theorem dX10_fit_230 : decode cX10_fit 230 = .ok (.iload 4, 2) := by decide +kernel
theorem dX10_fit_232 : decode cX10_fit 232 = .ok (.ireturn, 1) := by decide +kernel
theorem dX10_floor_0 : decode cX10_floor 0 = .ok (.iload_n 0, 1) := by decide +kernel
theorem dX10_floor_1 : decode cX10_floor 1 = .ok (.ifCond .lt 9, 3) := by decide +kernel
theorem dX10_floor_4 : decode cX10_floor 4 = .ok (.iload_n 0, 1) := by decide +kernel
theorem dX10_floor_5 : decode cX10_floor 5 = .ok (.iload_n 1, 1) := by decide +kernel
theorem dX10_floor_6 : decode cX10_floor 6 = .ok (.idiv, 1) := by decide +kernel
theorem dX10_floor_7 : decode cX10_floor 7 = .ok (.goto 11, 3) := by decide +kernel
theorem dX10_floor_10 : decode cX10_floor 10 = .ok (.iload_n 1, 1) := by decide +kernel
theorem dX10_floor_11 : decode cX10_floor 11 = .ok (.iconst 1, 1) := by decide +kernel
theorem dX10_floor_12 : decode cX10_floor 12 = .ok (.isub, 1) := by decide +kernel
theorem dX10_floor_13 : decode cX10_floor 13 = .ok (.iload_n 0, 1) := by decide +kernel
theorem dX10_floor_14 : decode cX10_floor 14 = .ok (.isub, 1) := by decide +kernel
theorem dX10_floor_15 : decode cX10_floor 15 = .ok (.iload_n 1, 1) := by decide +kernel
theorem dX10_floor_16 : decode cX10_floor 16 = .ok (.idiv, 1) := by decide +kernel
theorem dX10_floor_17 : decode cX10_floor 17 = .ok (.ineg, 1) := by decide +kernel
theorem dX10_floor_18 : decode cX10_floor 18 = .ok (.ireturn, 1) := by decide +kernel
theorem dX10_retimed_0 : decode cX10_retimed 0 = .ok (.iload_n 0, 1) := by decide +kernel
theorem dX10_retimed_1 : decode cX10_retimed 1 = .ok (.iload_n 1, 1) := by decide +kernel
theorem dX10_retimed_2 : decode cX10_retimed 2 = .ok (.isub, 1) := by decide +kernel
theorem dX10_retimed_3 : decode cX10_retimed 3 = .ok (.iload 4, 2) := by decide +kernel
theorem dX10_retimed_5 : decode cX10_retimed 5 = .ok (.iload_n 2, 1) := by decide +kernel
theorem dX10_retimed_6 : decode cX10_retimed 6 = .ok (.isub, 1) := by decide +kernel
theorem dX10_retimed_7 : decode cX10_retimed 7 = .ok (.imul, 1) := by decide +kernel
theorem dX10_retimed_8 : decode cX10_retimed 8 = .ok (.istore 5, 2) := by decide +kernel
theorem dX10_retimed_10 : decode cX10_retimed 10 = .ok (.iload_n 3, 1) := by decide +kernel
theorem dX10_retimed_11 : decode cX10_retimed 11 = .ok (.iload_n 1, 1) := by decide +kernel
theorem dX10_retimed_12 : decode cX10_retimed 12 = .ok (.isub, 1) := by decide +kernel
theorem dX10_retimed_13 : decode cX10_retimed 13 = .ok (.istore 6, 2) := by decide +kernel
theorem dX10_retimed_15 : decode cX10_retimed 15 = .ok (.iload 6, 2) := by decide +kernel
theorem dX10_retimed_17 : decode cX10_retimed 17 = .ok (.ifCond .le 22, 3) := by decide +kernel
theorem dX10_retimed_20 : decode cX10_retimed 20 = .ok (.iload_n 2, 1) := by decide +kernel
theorem dX10_retimed_21 : decode cX10_retimed 21 = .ok (.iconst 2, 1) := by decide +kernel
theorem dX10_retimed_22 : decode cX10_retimed 22 = .ok (.iload 5, 2) := by decide +kernel
theorem dX10_retimed_24 : decode cX10_retimed 24 = .ok (.imul, 1) := by decide +kernel
theorem dX10_retimed_25 : decode cX10_retimed 25 = .ok (.iload 6, 2) := by decide +kernel
theorem dX10_retimed_27 : decode cX10_retimed 27 = .ok (.iadd, 1) := by decide +kernel
theorem dX10_retimed_28 : decode cX10_retimed 28 = .ok (.iconst 2, 1) := by decide +kernel
theorem dX10_retimed_29 : decode cX10_retimed 29 = .ok (.iload 6, 2) := by decide +kernel
theorem dX10_retimed_31 : decode cX10_retimed 31 = .ok (.imul, 1) := by decide +kernel
theorem dX10_retimed_32 : decode cX10_retimed 32 = .ok (.invokestatic 178, 3) := by decide +kernel
theorem dX10_retimed_35 : decode cX10_retimed 35 = .ok (.iadd, 1) := by decide +kernel
theorem dX10_retimed_36 : decode cX10_retimed 36 = .ok (.goto 21, 3) := by decide +kernel
theorem dX10_retimed_39 : decode cX10_retimed 39 = .ok (.iload_n 2, 1) := by decide +kernel
theorem dX10_retimed_40 : decode cX10_retimed 40 = .ok (.bipush (-2), 2) := by decide +kernel
theorem dX10_retimed_42 : decode cX10_retimed 42 = .ok (.iload 5, 2) := by decide +kernel
theorem dX10_retimed_44 : decode cX10_retimed 44 = .ok (.imul, 1) := by decide +kernel
theorem dX10_retimed_45 : decode cX10_retimed 45 = .ok (.iload 6, 2) := by decide +kernel
theorem dX10_retimed_47 : decode cX10_retimed 47 = .ok (.isub, 1) := by decide +kernel
theorem dX10_retimed_48 : decode cX10_retimed 48 = .ok (.bipush (-2), 2) := by decide +kernel
theorem dX10_retimed_50 : decode cX10_retimed 50 = .ok (.iload 6, 2) := by decide +kernel
theorem dX10_retimed_52 : decode cX10_retimed 52 = .ok (.imul, 1) := by decide +kernel
theorem dX10_retimed_53 : decode cX10_retimed 53 = .ok (.invokestatic 178, 3) := by decide +kernel
theorem dX10_retimed_56 : decode cX10_retimed 56 = .ok (.iadd, 1) := by decide +kernel
theorem dX10_retimed_57 : decode cX10_retimed 57 = .ok (.ireturn, 1) := by decide +kernel
theorem dX10_retime_0 : decode cX10_retime 0 = .ok (.aload_n 0, 1) := by decide +kernel
theorem dX10_retime_1 : decode cX10_retime 1 = .ok (.iload_n 1, 1) := by decide +kernel
theorem dX10_retime_2 : decode cX10_retime 2 = .ok (.iconst (-1), 1) := by decide +kernel
theorem dX10_retime_3 : decode cX10_retime 3 = .ok (.iconst 1, 1) := by decide +kernel
theorem dX10_retime_4 : decode cX10_retime 4 = .ok (.invokestatic 48, 3) := by decide +kernel
theorem dX10_retime_7 : decode cX10_retime 7 = .ok (.ifCond .ne 7, 3) := by decide +kernel
theorem dX10_retime_10 : decode cX10_retime 10 = .ok (.iconst 1, 1) := by decide +kernel
theorem dX10_retime_11 : decode cX10_retime 11 = .ok (.goto 91, 3) := by decide +kernel
theorem dX10_retime_14 : decode cX10_retime 14 = .ok (.iload_n 2, 1) := by decide +kernel
theorem dX10_retime_15 : decode cX10_retime 15 = .ok (.iconst 0, 1) := by decide +kernel
theorem dX10_retime_16 : decode cX10_retime 16 = .ok (.sipush 9999, 3) := by decide +kernel
theorem dX10_retime_19 : decode cX10_retime 19 = .ok (.invokestatic 48, 3) := by decide +kernel
theorem dX10_retime_22 : decode cX10_retime 22 = .ok (.ifCond .eq 75, 3) := by decide +kernel
theorem dX10_retime_25 : decode cX10_retime 25 = .ok (.iload_n 3, 1) := by decide +kernel
theorem dX10_retime_26 : decode cX10_retime 26 = .ok (.iconst 0, 1) := by decide +kernel
theorem dX10_retime_27 : decode cX10_retime 27 = .ok (.sipush 9999, 3) := by decide +kernel
theorem dX10_retime_30 : decode cX10_retime 30 = .ok (.invokestatic 48, 3) := by decide +kernel
theorem dX10_retime_33 : decode cX10_retime 33 = .ok (.ifCond .eq 64, 3) := by decide +kernel
theorem dX10_retime_36 : decode cX10_retime 36 = .ok (.iload 4, 2) := by decide +kernel
theorem dX10_retime_38 : decode cX10_retime 38 = .ok (.iconst 0, 1) := by decide +kernel
theorem dX10_retime_39 : decode cX10_retime 39 = .ok (.sipush 9999, 3) := by decide +kernel
theorem dX10_retime_42 : decode cX10_retime 42 = .ok (.invokestatic 48, 3) := by decide +kernel
theorem dX10_retime_45 : decode cX10_retime 45 = .ok (.ifCond .eq 52, 3) := by decide +kernel
theorem dX10_retime_48 : decode cX10_retime 48 = .ok (.iload 5, 2) := by decide +kernel
theorem dX10_retime_50 : decode cX10_retime 50 = .ok (.iconst 0, 1) := by decide +kernel
theorem dX10_retime_51 : decode cX10_retime 51 = .ok (.sipush 9999, 3) := by decide +kernel
theorem dX10_retime_54 : decode cX10_retime 54 = .ok (.invokestatic 48, 3) := by decide +kernel
theorem dX10_retime_57 : decode cX10_retime 57 = .ok (.ifCond .eq 40, 3) := by decide +kernel
theorem dX10_retime_60 : decode cX10_retime 60 = .ok (.iload_n 2, 1) := by decide +kernel
theorem dX10_retime_61 : decode cX10_retime 61 = .ok (.iload 4, 2) := by decide +kernel
theorem dX10_retime_63 : decode cX10_retime 63 = .ok (.if_icmp .eq 34, 3) := by decide +kernel
theorem dX10_retime_66 : decode cX10_retime 66 = .ok (.iload_n 3, 1) := by decide +kernel
theorem dX10_retime_67 : decode cX10_retime 67 = .ok (.iload 5, 2) := by decide +kernel
theorem dX10_retime_69 : decode cX10_retime 69 = .ok (.if_icmp .eq 28, 3) := by decide +kernel
theorem dX10_retime_72 : decode cX10_retime 72 = .ok (.iload_n 2, 1) := by decide +kernel
theorem dX10_retime_73 : decode cX10_retime 73 = .ok (.iload 4, 2) := by decide +kernel
theorem dX10_retime_75 : decode cX10_retime 75 = .ok (.if_icmp .ge 7, 3) := by decide +kernel
theorem dX10_retime_78 : decode cX10_retime 78 = .ok (.iconst 1, 1) := by decide +kernel
theorem dX10_retime_79 : decode cX10_retime 79 = .ok (.goto 4, 3) := by decide +kernel
theorem dX10_retime_82 : decode cX10_retime 82 = .ok (.iconst 0, 1) := by decide +kernel
theorem dX10_retime_83 : decode cX10_retime 83 = .ok (.iload_n 3, 1) := by decide +kernel
theorem dX10_retime_84 : decode cX10_retime 84 = .ok (.iload 5, 2) := by decide +kernel
theorem dX10_retime_86 : decode cX10_retime 86 = .ok (.if_icmp .ge 7, 3) := by decide +kernel
theorem dX10_retime_89 : decode cX10_retime 89 = .ok (.iconst 1, 1) := by decide +kernel
theorem dX10_retime_90 : decode cX10_retime 90 = .ok (.goto 4, 3) := by decide +kernel
theorem dX10_retime_93 : decode cX10_retime 93 = .ok (.iconst 0, 1) := by decide +kernel
theorem dX10_retime_94 : decode cX10_retime 94 = .ok (.if_icmp .eq 7, 3) := by decide +kernel
theorem dX10_retime_97 : decode cX10_retime 97 = .ok (.iconst 2, 1) := by decide +kernel
theorem dX10_retime_98 : decode cX10_retime 98 = .ok (.goto 4, 3) := by decide +kernel
theorem dX10_retime_101 : decode cX10_retime 101 = .ok (.iconst 0, 1) := by decide +kernel
theorem dX10_retime_102 : decode cX10_retime 102 = .ok (.putfield 35, 3) := by decide +kernel
theorem dX10_retime_105 : decode cX10_retime 105 = .ok (.aload_n 0, 1) := by decide +kernel
theorem dX10_retime_106 : decode cX10_retime 106 = .ok (.getfield 35, 3) := by decide +kernel
theorem dX10_retime_109 : decode cX10_retime 109 = .ok (.ifCond .le 5, 3) := by decide +kernel
theorem dX10_retime_112 : decode cX10_retime 112 = .ok (.iconst 0, 1) := by decide +kernel
theorem dX10_retime_113 : decode cX10_retime 113 = .ok (.ireturn, 1) := by decide +kernel
theorem dX10_retime_114 : decode cX10_retime 114 = .ok (.iconst 0, 1) := by decide +kernel
theorem dX10_retime_115 : decode cX10_retime 115 = .ok (.istore 6, 2) := by decide +kernel
theorem dX10_retime_117 : decode cX10_retime 117 = .ok (.iconst 0, 1) := by decide +kernel
theorem dX10_retime_118 : decode cX10_retime 118 = .ok (.istore 7, 2) := by decide +kernel
theorem dX10_retime_120 : decode cX10_retime 120 = .ok (.iload 7, 2) := by decide +kernel
theorem dX10_retime_122 : decode cX10_retime 122 = .ok (.iconst 2, 1) := by decide +kernel
theorem dX10_retime_123 : decode cX10_retime 123 = .ok (.if_icmp .ge 141, 3) := by decide +kernel
theorem dX10_retime_126 : decode cX10_retime 126 = .ok (.iconst 0, 1) := by decide +kernel
theorem dX10_retime_127 : decode cX10_retime 127 = .ok (.istore 8, 2) := by decide +kernel
theorem dX10_retime_129 : decode cX10_retime 129 = .ok (.iload 8, 2) := by decide +kernel
theorem dX10_retime_131 : decode cX10_retime 131 = .ok (.aload_n 0, 1) := by decide +kernel
theorem dX10_retime_132 : decode cX10_retime 132 = .ok (.getfield 7, 3) := by decide +kernel
theorem dX10_retime_135 : decode cX10_retime 135 = .ok (.bipush 28, 2) := by decide +kernel
theorem dX10_retime_137 : decode cX10_retime 137 = .ok (.iload 7, 2) := by decide +kernel
theorem dX10_retime_139 : decode cX10_retime 139 = .ok (.iadd, 1) := by decide +kernel
theorem dX10_retime_140 : decode cX10_retime 140 = .ok (.iaload, 1) := by decide +kernel
theorem dX10_retime_141 : decode cX10_retime 141 = .ok (.if_icmp .ge 117, 3) := by decide +kernel
theorem dX10_retime_144 : decode cX10_retime 144 = .ok (.iload_n 1, 1) := by decide +kernel
theorem dX10_retime_145 : decode cX10_retime 145 = .ok (.ifCond .lt 9, 3) := by decide +kernel
theorem dX10_retime_148 : decode cX10_retime 148 = .ok (.iload_n 1, 1) := by decide +kernel
theorem dX10_retime_149 : decode cX10_retime 149 = .ok (.iload 7, 2) := by decide +kernel
theorem dX10_retime_151 : decode cX10_retime 151 = .ok (.if_icmp .ne 107, 3) := by decide +kernel
theorem dX10_retime_154 : decode cX10_retime 154 = .ok (.aload_n 0, 1) := by decide +kernel
theorem dX10_retime_155 : decode cX10_retime 155 = .ok (.iload 7, 2) := by decide +kernel
theorem dX10_retime_157 : decode cX10_retime 157 = .ok (.iload 8, 2) := by decide +kernel
theorem dX10_retime_159 : decode cX10_retime 159 = .ok (.invokevirtual 113, 3) := by decide +kernel
theorem dX10_retime_162 : decode cX10_retime 162 = .ok (.iload_n 2, 1) := by decide +kernel
theorem dX10_retime_163 : decode cX10_retime 163 = .ok (.iload_n 3, 1) := by decide +kernel
theorem dX10_retime_164 : decode cX10_retime 164 = .ok (.iload 4, 2) := by decide +kernel
theorem dX10_retime_166 : decode cX10_retime 166 = .ok (.iload 5, 2) := by decide +kernel
theorem dX10_retime_168 : decode cX10_retime 168 = .ok (.invokestatic 181, 3) := by decide +kernel
theorem dX10_retime_171 : decode cX10_retime 171 = .ok (.istore 9, 2) := by decide +kernel
theorem dX10_retime_173 : decode cX10_retime 173 = .ok (.aload_n 0, 1) := by decide +kernel
theorem dX10_retime_174 : decode cX10_retime 174 = .ok (.iload 7, 2) := by decide +kernel
theorem dX10_retime_176 : decode cX10_retime 176 = .ok (.iload 8, 2) := by decide +kernel
theorem dX10_retime_178 : decode cX10_retime 178 = .ok (.invokevirtual 71, 3) := by decide +kernel
theorem dX10_retime_181 : decode cX10_retime 181 = .ok (.iload_n 2, 1) := by decide +kernel
theorem dX10_retime_182 : decode cX10_retime 182 = .ok (.iload_n 3, 1) := by decide +kernel
theorem dX10_retime_183 : decode cX10_retime 183 = .ok (.iload 4, 2) := by decide +kernel
theorem dX10_retime_185 : decode cX10_retime 185 = .ok (.iload 5, 2) := by decide +kernel
theorem dX10_retime_187 : decode cX10_retime 187 = .ok (.invokestatic 181, 3) := by decide +kernel
theorem dX10_retime_190 : decode cX10_retime 190 = .ok (.istore 10, 2) := by decide +kernel
theorem dX10_retime_192 : decode cX10_retime 192 = .ok (.iload 9, 2) := by decide +kernel
theorem dX10_retime_194 : decode cX10_retime 194 = .ok (.ifCond .lt 14, 3) := by decide +kernel
theorem dX10_retime_197 : decode cX10_retime 197 = .ok (.iload 10, 2) := by decide +kernel
theorem dX10_retime_199 : decode cX10_retime 199 = .ok (.aload_n 0, 1) := by decide +kernel
theorem dX10_retime_200 : decode cX10_retime 200 = .ok (.getfield 7, 3) := by decide +kernel
theorem dX10_retime_203 : decode cX10_retime 203 = .ok (.iconst 0, 1) := by decide +kernel
theorem dX10_retime_204 : decode cX10_retime 204 = .ok (.iaload, 1) := by decide +kernel
theorem dX10_retime_205 : decode cX10_retime 205 = .ok (.if_icmp .le 7, 3) := by decide +kernel
theorem dX10_retime_208 : decode cX10_retime 208 = .ok (.iconst 1, 1) := by decide +kernel
theorem dX10_retime_209 : decode cX10_retime 209 = .ok (.goto 15, 3) := by decide +kernel
theorem dX10_retime_212 : decode cX10_retime 212 = .ok (.iload 9, 2) := by decide +kernel
theorem dX10_retime_214 : decode cX10_retime 214 = .ok (.iload 10, 2) := by decide +kernel
theorem dX10_retime_216 : decode cX10_retime 216 = .ok (.if_icmp .lt 7, 3) := by decide +kernel
theorem dX10_retime_219 : decode cX10_retime 219 = .ok (.iconst 2, 1) := by decide +kernel
theorem dX10_retime_220 : decode cX10_retime 220 = .ok (.goto 4, 3) := by decide +kernel
theorem dX10_retime_223 : decode cX10_retime 223 = .ok (.iconst 0, 1) := by decide +kernel
theorem dX10_retime_224 : decode cX10_retime 224 = .ok (.istore 11, 2) := by decide +kernel
theorem dX10_retime_226 : decode cX10_retime 226 = .ok (.iload 11, 2) := by decide +kernel
theorem dX10_retime_228 : decode cX10_retime 228 = .ok (.ifCond .le 20, 3) := by decide +kernel
theorem dX10_retime_231 : decode cX10_retime 231 = .ok (.iload 6, 2) := by decide +kernel
theorem dX10_retime_233 : decode cX10_retime 233 = .ok (.ifCond .eq 10, 3) := by decide +kernel
theorem dX10_retime_236 : decode cX10_retime 236 = .ok (.iload 11, 2) := by decide +kernel
theorem dX10_retime_238 : decode cX10_retime 238 = .ok (.iload 6, 2) := by decide +kernel
theorem dX10_retime_240 : decode cX10_retime 240 = .ok (.if_icmp .ge 8, 3) := by decide +kernel
theorem dX10_retime_243 : decode cX10_retime 243 = .ok (.iload 11, 2) := by decide +kernel
theorem dX10_retime_245 : decode cX10_retime 245 = .ok (.goto 5, 3) := by decide +kernel
theorem dX10_retime_248 : decode cX10_retime 248 = .ok (.iload 6, 2) := by decide +kernel
theorem dX10_retime_250 : decode cX10_retime 250 = .ok (.istore 6, 2) := by decide +kernel
theorem dX10_retime_252 : decode cX10_retime 252 = .ok (.iinc 8 1, 3) := by decide +kernel
theorem dX10_retime_255 : decode cX10_retime 255 = .ok (.goto (-126), 3) := by decide +kernel
theorem dX10_retime_258 : decode cX10_retime 258 = .ok (.iinc 7 1, 3) := by decide +kernel
theorem dX10_retime_261 : decode cX10_retime 261 = .ok (.goto (-141), 3) := by decide +kernel
theorem dX10_retime_264 : decode cX10_retime 264 = .ok (.iload 6, 2) := by decide +kernel
theorem dX10_retime_266 : decode cX10_retime 266 = .ok (.ifCond .le 11, 3) := by decide +kernel
theorem dX10_retime_269 : decode cX10_retime 269 = .ok (.aload_n 0, 1) := by decide +kernel
theorem dX10_retime_270 : decode cX10_retime 270 = .ok (.iconst 3, 1) := by decide +kernel
theorem dX10_retime_271 : decode cX10_retime 271 = .ok (.iload 6, 2) := by decide +kernel
theorem dX10_retime_273 : decode cX10_retime 273 = .ok (.invokevirtual 75, 3) := by decide +kernel
theorem dX10_retime_276 : decode cX10_retime 276 = .ok (.ireturn, 1) := by decide +kernel
theorem dX10_retime_277 : decode cX10_retime 277 = .ok (.aload_n 0, 1) := by decide +kernel
theorem dX10_retime_278 : decode cX10_retime 278 = .ok (.aload_n 0, 1) := by decide +kernel
theorem dX10_retime_279 : decode cX10_retime 279 = .ok (.getfield 7, 3) := by decide +kernel
theorem dX10_retime_282 : decode cX10_retime 282 = .ok (.invokevirtual 78, 3) := by decide +kernel
theorem dX10_retime_285 : decode cX10_retime 285 = .ok (.iconst 0, 1) := by decide +kernel
theorem dX10_retime_286 : decode cX10_retime 286 = .ok (.istore 7, 2) := by decide +kernel
theorem dX10_retime_288 : decode cX10_retime 288 = .ok (.iconst 0, 1) := by decide +kernel
theorem dX10_retime_289 : decode cX10_retime 289 = .ok (.istore 8, 2) := by decide +kernel
theorem dX10_retime_291 : decode cX10_retime 291 = .ok (.iload 8, 2) := by decide +kernel
theorem dX10_retime_293 : decode cX10_retime 293 = .ok (.iconst 2, 1) := by decide +kernel
theorem dX10_retime_294 : decode cX10_retime 294 = .ok (.if_icmp .ge 147, 3) := by decide +kernel
theorem dX10_retime_297 : decode cX10_retime 297 = .ok (.iconst 0, 1) := by decide +kernel
theorem dX10_retime_298 : decode cX10_retime 298 = .ok (.istore 9, 2) := by decide +kernel
theorem dX10_retime_300 : decode cX10_retime 300 = .ok (.iload 9, 2) := by decide +kernel
theorem dX10_retime_302 : decode cX10_retime 302 = .ok (.aload_n 0, 1) := by decide +kernel
theorem dX10_retime_303 : decode cX10_retime 303 = .ok (.getfield 7, 3) := by decide +kernel
theorem dX10_retime_306 : decode cX10_retime 306 = .ok (.bipush 28, 2) := by decide +kernel
theorem dX10_retime_308 : decode cX10_retime 308 = .ok (.iload 8, 2) := by decide +kernel
theorem dX10_retime_310 : decode cX10_retime 310 = .ok (.iadd, 1) := by decide +kernel
theorem dX10_retime_311 : decode cX10_retime 311 = .ok (.iaload, 1) := by decide +kernel
theorem dX10_retime_312 : decode cX10_retime 312 = .ok (.if_icmp .ge 123, 3) := by decide +kernel
theorem dX10_retime_315 : decode cX10_retime 315 = .ok (.iload_n 1, 1) := by decide +kernel
theorem dX10_retime_316 : decode cX10_retime 316 = .ok (.ifCond .lt 9, 3) := by decide +kernel
theorem dX10_retime_319 : decode cX10_retime 319 = .ok (.iload_n 1, 1) := by decide +kernel
theorem dX10_retime_320 : decode cX10_retime 320 = .ok (.iload 8, 2) := by decide +kernel
theorem dX10_retime_322 : decode cX10_retime 322 = .ok (.if_icmp .ne 113, 3) := by decide +kernel
theorem dX10_retime_325 : decode cX10_retime 325 = .ok (.aload_n 0, 1) := by decide +kernel
theorem dX10_retime_326 : decode cX10_retime 326 = .ok (.iload 8, 2) := by decide +kernel
theorem dX10_retime_328 : decode cX10_retime 328 = .ok (.iload 9, 2) := by decide +kernel
theorem dX10_retime_330 : decode cX10_retime 330 = .ok (.invokevirtual 113, 3) := by decide +kernel
theorem dX10_retime_333 : decode cX10_retime 333 = .ok (.iload_n 2, 1) := by decide +kernel
theorem dX10_retime_334 : decode cX10_retime 334 = .ok (.iload_n 3, 1) := by decide +kernel
theorem dX10_retime_335 : decode cX10_retime 335 = .ok (.iload 4, 2) := by decide +kernel
theorem dX10_retime_337 : decode cX10_retime 337 = .ok (.iload 5, 2) := by decide +kernel
theorem dX10_retime_339 : decode cX10_retime 339 = .ok (.invokestatic 181, 3) := by decide +kernel
theorem dX10_retime_342 : decode cX10_retime 342 = .ok (.istore 10, 2) := by decide +kernel
theorem dX10_retime_344 : decode cX10_retime 344 = .ok (.aload_n 0, 1) := by decide +kernel
theorem dX10_retime_345 : decode cX10_retime 345 = .ok (.iload 8, 2) := by decide +kernel
theorem dX10_retime_347 : decode cX10_retime 347 = .ok (.iload 9, 2) := by decide +kernel
theorem dX10_retime_349 : decode cX10_retime 349 = .ok (.invokevirtual 71, 3) := by decide +kernel
theorem dX10_retime_352 : decode cX10_retime 352 = .ok (.iload_n 2, 1) := by decide +kernel
theorem dX10_retime_353 : decode cX10_retime 353 = .ok (.iload_n 3, 1) := by decide +kernel
theorem dX10_retime_354 : decode cX10_retime 354 = .ok (.iload 4, 2) := by decide +kernel
theorem dX10_retime_356 : decode cX10_retime 356 = .ok (.iload 5, 2) := by decide +kernel
theorem dX10_retime_358 : decode cX10_retime 358 = .ok (.invokestatic 181, 3) := by decide +kernel
theorem dX10_retime_361 : decode cX10_retime 361 = .ok (.istore 11, 2) := by decide +kernel
theorem dX10_retime_363 : decode cX10_retime 363 = .ok (.iload 7, 2) := by decide +kernel
theorem dX10_retime_365 : decode cX10_retime 365 = .ok (.iload 10, 2) := by decide +kernel
theorem dX10_retime_367 : decode cX10_retime 367 = .ok (.aload_n 0, 1) := by decide +kernel
theorem dX10_retime_368 : decode cX10_retime 368 = .ok (.iload 8, 2) := by decide +kernel
theorem dX10_retime_370 : decode cX10_retime 370 = .ok (.iload 9, 2) := by decide +kernel
theorem dX10_retime_372 : decode cX10_retime 372 = .ok (.invokevirtual 113, 3) := by decide +kernel
theorem dX10_retime_375 : decode cX10_retime 375 = .ok (.if_icmp .ne 16, 3) := by decide +kernel
theorem dX10_retime_378 : decode cX10_retime 378 = .ok (.iload 11, 2) := by decide +kernel
theorem dX10_retime_380 : decode cX10_retime 380 = .ok (.aload_n 0, 1) := by decide +kernel
theorem dX10_retime_381 : decode cX10_retime 381 = .ok (.iload 8, 2) := by decide +kernel
theorem dX10_retime_383 : decode cX10_retime 383 = .ok (.iload 9, 2) := by decide +kernel
theorem dX10_retime_385 : decode cX10_retime 385 = .ok (.invokevirtual 71, 3) := by decide +kernel
theorem dX10_retime_388 : decode cX10_retime 388 = .ok (.if_icmp .eq 7, 3) := by decide +kernel
theorem dX10_retime_391 : decode cX10_retime 391 = .ok (.iconst 1, 1) := by decide +kernel
theorem dX10_retime_392 : decode cX10_retime 392 = .ok (.goto 4, 3) := by decide +kernel
theorem dX10_retime_395 : decode cX10_retime 395 = .ok (.iconst 0, 1) := by decide +kernel
theorem dX10_retime_396 : decode cX10_retime 396 = .ok (.iadd, 1) := by decide +kernel
theorem dX10_retime_397 : decode cX10_retime 397 = .ok (.istore 7, 2) := by decide +kernel
theorem dX10_retime_399 : decode cX10_retime 399 = .ok (.aload_n 0, 1) := by decide +kernel
theorem dX10_retime_400 : decode cX10_retime 400 = .ok (.getfield 7, 3) := by decide +kernel
theorem dX10_retime_403 : decode cX10_retime 403 = .ok (.iload 8, 2) := by decide +kernel
theorem dX10_retime_405 : decode cX10_retime 405 = .ok (.iload 9, 2) := by decide +kernel
theorem dX10_retime_407 : decode cX10_retime 407 = .ok (.iconst 0, 1) := by decide +kernel
theorem dX10_retime_408 : decode cX10_retime 408 = .ok (.invokestatic 56, 3) := by decide +kernel
theorem dX10_retime_411 : decode cX10_retime 411 = .ok (.iload 10, 2) := by decide +kernel
theorem dX10_retime_413 : decode cX10_retime 413 = .ok (.iastore, 1) := by decide +kernel
theorem dX10_retime_414 : decode cX10_retime 414 = .ok (.aload_n 0, 1) := by decide +kernel
theorem dX10_retime_415 : decode cX10_retime 415 = .ok (.getfield 7, 3) := by decide +kernel
theorem dX10_retime_418 : decode cX10_retime 418 = .ok (.iload 8, 2) := by decide +kernel
theorem dX10_retime_420 : decode cX10_retime 420 = .ok (.iload 9, 2) := by decide +kernel
theorem dX10_retime_422 : decode cX10_retime 422 = .ok (.iconst 1, 1) := by decide +kernel
theorem dX10_retime_423 : decode cX10_retime 423 = .ok (.invokestatic 56, 3) := by decide +kernel
theorem dX10_retime_426 : decode cX10_retime 426 = .ok (.iload 11, 2) := by decide +kernel
theorem dX10_retime_428 : decode cX10_retime 428 = .ok (.iastore, 1) := by decide +kernel
theorem dX10_retime_429 : decode cX10_retime 429 = .ok (.iinc 9 1, 3) := by decide +kernel
theorem dX10_retime_432 : decode cX10_retime 432 = .ok (.goto (-132), 3) := by decide +kernel
theorem dX10_retime_435 : decode cX10_retime 435 = .ok (.iinc 8 1, 3) := by decide +kernel
theorem dX10_retime_438 : decode cX10_retime 438 = .ok (.goto (-147), 3) := by decide +kernel
theorem dX10_retime_441 : decode cX10_retime 441 = .ok (.iload 7, 2) := by decide +kernel
theorem dX10_retime_443 : decode cX10_retime 443 = .ok (.ireturn, 1) := by decide +kernel
theorem dX10_both_0 : decode cX10_both 0 = .ok (.iconst 0, 1) := by decide +kernel
theorem dX10_both_1 : decode cX10_both 1 = .ok (.istore_n 1, 1) := by decide +kernel
theorem dX10_both_2 : decode cX10_both 2 = .ok (.iconst 0, 1) := by decide +kernel
theorem dX10_both_3 : decode cX10_both 3 = .ok (.istore_n 2, 1) := by decide +kernel
theorem dX10_both_4 : decode cX10_both 4 = .ok (.iload_n 2, 1) := by decide +kernel
theorem dX10_both_5 : decode cX10_both 5 = .ok (.aload_n 0, 1) := by decide +kernel
theorem dX10_both_6 : decode cX10_both 6 = .ok (.getfield 7, 3) := by decide +kernel
theorem dX10_both_9 : decode cX10_both 9 = .ok (.bipush 28, 2) := by decide +kernel
theorem dX10_both_11 : decode cX10_both 11 = .ok (.iaload, 1) := by decide +kernel
theorem dX10_both_12 : decode cX10_both 12 = .ok (.if_icmp .ge 38, 3) := by decide +kernel
theorem dX10_both_15 : decode cX10_both 15 = .ok (.iconst 0, 1) := by decide +kernel
theorem dX10_both_16 : decode cX10_both 16 = .ok (.istore_n 3, 1) := by decide +kernel
theorem dX10_both_17 : decode cX10_both 17 = .ok (.iload_n 3, 1) := by decide +kernel
theorem dX10_both_18 : decode cX10_both 18 = .ok (.aload_n 0, 1) := by decide +kernel
theorem dX10_both_19 : decode cX10_both 19 = .ok (.getfield 7, 3) := by decide +kernel
theorem dX10_both_22 : decode cX10_both 22 = .ok (.bipush 29, 2) := by decide +kernel
theorem dX10_both_24 : decode cX10_both 24 = .ok (.iaload, 1) := by decide +kernel
theorem dX10_both_25 : decode cX10_both 25 = .ok (.if_icmp .ge 19, 3) := by decide +kernel
theorem dX10_both_28 : decode cX10_both 28 = .ok (.iload_n 1, 1) := by decide +kernel
theorem dX10_both_29 : decode cX10_both 29 = .ok (.aload_n 0, 1) := by decide +kernel
theorem dX10_both_30 : decode cX10_both 30 = .ok (.iconst 0, 1) := by decide +kernel
theorem dX10_both_31 : decode cX10_both 31 = .ok (.iload_n 2, 1) := by decide +kernel
theorem dX10_both_32 : decode cX10_both 32 = .ok (.iload_n 3, 1) := by decide +kernel
theorem dX10_both_33 : decode cX10_both 33 = .ok (.invokevirtual 116, 3) := by decide +kernel
theorem dX10_both_36 : decode cX10_both 36 = .ok (.iadd, 1) := by decide +kernel
theorem dX10_both_37 : decode cX10_both 37 = .ok (.istore_n 1, 1) := by decide +kernel
theorem dX10_both_38 : decode cX10_both 38 = .ok (.iinc 3 1, 3) := by decide +kernel
theorem dX10_both_41 : decode cX10_both 41 = .ok (.goto (-24), 3) := by decide +kernel
theorem dX10_both_44 : decode cX10_both 44 = .ok (.iinc 2 1, 3) := by decide +kernel
theorem dX10_both_47 : decode cX10_both 47 = .ok (.goto (-43), 3) := by decide +kernel
theorem dX10_both_50 : decode cX10_both 50 = .ok (.iload_n 1, 1) := by decide +kernel
theorem dX10_both_51 : decode cX10_both 51 = .ok (.ireturn, 1) := by decide +kernel
theorem dX10_with_0 : decode cX10_with 0 = .ok (.iconst 0, 1) := by decide +kernel
theorem dX10_with_1 : decode cX10_with 1 = .ok (.istore_n 3, 1) := by decide +kernel
theorem dX10_with_2 : decode cX10_with 2 = .ok (.iconst 0, 1) := by decide +kernel
theorem dX10_with_3 : decode cX10_with 3 = .ok (.istore 4, 2) := by decide +kernel
theorem dX10_with_5 : decode cX10_with 5 = .ok (.iload 4, 2) := by decide +kernel
theorem dX10_with_7 : decode cX10_with 7 = .ok (.aload_n 0, 1) := by decide +kernel
theorem dX10_with_8 : decode cX10_with 8 = .ok (.getfield 7, 3) := by decide +kernel
theorem dX10_with_11 : decode cX10_with 11 = .ok (.bipush 28, 2) := by decide +kernel
theorem dX10_with_13 : decode cX10_with 13 = .ok (.iload_n 1, 1) := by decide +kernel
theorem dX10_with_14 : decode cX10_with 14 = .ok (.iadd, 1) := by decide +kernel
theorem dX10_with_15 : decode cX10_with 15 = .ok (.iaload, 1) := by decide +kernel
theorem dX10_with_16 : decode cX10_with 16 = .ok (.if_icmp .ge 29, 3) := by decide +kernel
theorem dX10_with_19 : decode cX10_with 19 = .ok (.iload_n 3, 1) := by decide +kernel
theorem dX10_with_20 : decode cX10_with 20 = .ok (.aload_n 0, 1) := by decide +kernel
theorem dX10_with_21 : decode cX10_with 21 = .ok (.iload_n 1, 1) := by decide +kernel
theorem dX10_with_22 : decode cX10_with 22 = .ok (.iload 4, 2) := by decide +kernel
theorem dX10_with_24 : decode cX10_with 24 = .ok (.invokevirtual 184, 3) := by decide +kernel
theorem dX10_with_27 : decode cX10_with 27 = .ok (.iload_n 2, 1) := by decide +kernel
theorem dX10_with_28 : decode cX10_with 28 = .ok (.iand, 1) := by decide +kernel
theorem dX10_with_29 : decode cX10_with 29 = .ok (.ifCond .eq 7, 3) := by decide +kernel
theorem dX10_with_32 : decode cX10_with 32 = .ok (.iconst 1, 1) := by decide +kernel
theorem dX10_with_33 : decode cX10_with 33 = .ok (.goto 4, 3) := by decide +kernel
theorem dX10_with_36 : decode cX10_with 36 = .ok (.iconst 0, 1) := by decide +kernel
theorem dX10_with_37 : decode cX10_with 37 = .ok (.iadd, 1) := by decide +kernel
theorem dX10_with_38 : decode cX10_with 38 = .ok (.istore_n 3, 1) := by decide +kernel
theorem dX10_with_39 : decode cX10_with 39 = .ok (.iinc 4 1, 3) := by decide +kernel
theorem dX10_with_42 : decode cX10_with 42 = .ok (.goto (-37), 3) := by decide +kernel
theorem dX10_with_45 : decode cX10_with 45 = .ok (.iload_n 3, 1) := by decide +kernel
theorem dX10_with_46 : decode cX10_with 46 = .ok (.ireturn, 1) := by decide +kernel
theorem dX10_number_0 : decode cX10_number 0 = .ok (.aload_n 0, 1) := by decide +kernel
theorem dX10_number_1 : decode cX10_number 1 = .ok (.iload_n 1, 1) := by decide +kernel
theorem dX10_number_2 : decode cX10_number 2 = .ok (.iconst 0, 1) := by decide +kernel
theorem dX10_number_3 : decode cX10_number 3 = .ok (.bipush 13, 2) := by decide +kernel
theorem dX10_number_5 : decode cX10_number 5 = .ok (.invokestatic 48, 3) := by decide +kernel
theorem dX10_number_8 : decode cX10_number 8 = .ok (.ifCond .eq 7, 3) := by decide +kernel
theorem dX10_number_11 : decode cX10_number 11 = .ok (.iconst 0, 1) := by decide +kernel
theorem dX10_number_12 : decode cX10_number 12 = .ok (.goto 4, 3) := by decide +kernel
theorem dX10_number_15 : decode cX10_number 15 = .ok (.iconst 1, 1) := by decide +kernel
theorem dX10_number_16 : decode cX10_number 16 = .ok (.putfield 35, 3) := by decide +kernel
theorem dX10_number_19 : decode cX10_number 19 = .ok (.aload_n 0, 1) := by decide +kernel
theorem dX10_number_20 : decode cX10_number 20 = .ok (.getfield 35, 3) := by decide +kernel
theorem dX10_number_23 : decode cX10_number 23 = .ok (.ifCond .le 5, 3) := by decide +kernel
theorem dX10_number_26 : decode cX10_number 26 = .ok (.iconst 0, 1) := by decide +kernel
theorem dX10_number_27 : decode cX10_number 27 = .ok (.ireturn, 1) := by decide +kernel
theorem dX10_number_28 : decode cX10_number 28 = .ok (.iload_n 1, 1) := by decide +kernel
theorem dX10_number_29 : decode cX10_number 29 = .ok (.bipush 6, 2) := by decide +kernel
theorem dX10_number_31 : decode cX10_number 31 = .ok (.if_icmp .ge 12, 3) := by decide +kernel
theorem dX10_number_34 : decode cX10_number 34 = .ok (.aload_n 0, 1) := by decide +kernel
theorem dX10_number_35 : decode cX10_number 35 = .ok (.getfield 7, 3) := by decide +kernel
theorem dX10_number_38 : decode cX10_number 38 = .ok (.iconst 1, 1) := by decide +kernel
theorem dX10_number_39 : decode cX10_number 39 = .ok (.iload_n 1, 1) := by decide +kernel
theorem dX10_number_40 : decode cX10_number 40 = .ok (.iadd, 1) := by decide +kernel
theorem dX10_number_41 : decode cX10_number 41 = .ok (.iaload, 1) := by decide +kernel
theorem dX10_number_42 : decode cX10_number 42 = .ok (.ireturn, 1) := by decide +kernel
theorem dX10_number_43 : decode cX10_number 43 = .ok (.iload_n 1, 1) := by decide +kernel
theorem dX10_number_44 : decode cX10_number 44 = .ok (.tableswitch 98 6 12 #[44, 51, 59, 59, 72, 77, 93], 44) := by decide +kernel
theorem dX10_number_88 : decode cX10_number 88 = .ok (.aload_n 0, 1) := by decide +kernel
theorem dX10_number_89 : decode cX10_number 89 = .ok (.getfield 7, 3) := by decide +kernel
theorem dX10_number_92 : decode cX10_number 92 = .ok (.iconst 0, 1) := by decide +kernel
theorem dX10_number_93 : decode cX10_number 93 = .ok (.iaload, 1) := by decide +kernel
theorem dX10_number_94 : decode cX10_number 94 = .ok (.ireturn, 1) := by decide +kernel
theorem dX10_number_95 : decode cX10_number 95 = .ok (.aload_n 0, 1) := by decide +kernel
theorem dX10_number_96 : decode cX10_number 96 = .ok (.getfield 7, 3) := by decide +kernel
theorem dX10_number_99 : decode cX10_number 99 = .ok (.bipush 7, 2) := by decide +kernel
theorem dX10_number_101 : decode cX10_number 101 = .ok (.iaload, 1) := by decide +kernel
theorem dX10_number_102 : decode cX10_number 102 = .ok (.ireturn, 1) := by decide +kernel
theorem dX10_number_103 : decode cX10_number 103 = .ok (.aload_n 0, 1) := by decide +kernel
theorem dX10_number_104 : decode cX10_number 104 = .ok (.getfield 7, 3) := by decide +kernel
theorem dX10_number_107 : decode cX10_number 107 = .ok (.bipush 28, 2) := by decide +kernel
theorem dX10_number_109 : decode cX10_number 109 = .ok (.iload_n 1, 1) := by decide +kernel
theorem dX10_number_110 : decode cX10_number 110 = .ok (.iadd, 1) := by decide +kernel
theorem dX10_number_111 : decode cX10_number 111 = .ok (.bipush 8, 2) := by decide +kernel
theorem dX10_number_113 : decode cX10_number 113 = .ok (.isub, 1) := by decide +kernel
theorem dX10_number_114 : decode cX10_number 114 = .ok (.iaload, 1) := by decide +kernel
theorem dX10_number_115 : decode cX10_number 115 = .ok (.ireturn, 1) := by decide +kernel
theorem dX10_number_116 : decode cX10_number 116 = .ok (.aload_n 0, 1) := by decide +kernel
theorem dX10_number_117 : decode cX10_number 117 = .ok (.invokevirtual 187, 3) := by decide +kernel
theorem dX10_number_120 : decode cX10_number 120 = .ok (.ireturn, 1) := by decide +kernel
theorem dX10_number_121 : decode cX10_number 121 = .ok (.aload_n 0, 1) := by decide +kernel
theorem dX10_number_122 : decode cX10_number 122 = .ok (.iconst 0, 1) := by decide +kernel
theorem dX10_number_123 : decode cX10_number 123 = .ok (.bipush 63, 2) := by decide +kernel
theorem dX10_number_125 : decode cX10_number 125 = .ok (.invokevirtual 191, 3) := by decide +kernel
theorem dX10_number_128 : decode cX10_number 128 = .ok (.aload_n 0, 1) := by decide +kernel
theorem dX10_number_129 : decode cX10_number 129 = .ok (.iconst 1, 1) := by decide +kernel
theorem dX10_number_130 : decode cX10_number 130 = .ok (.bipush 63, 2) := by decide +kernel
theorem dX10_number_132 : decode cX10_number 132 = .ok (.invokevirtual 191, 3) := by decide +kernel
theorem dX10_number_135 : decode cX10_number 135 = .ok (.iadd, 1) := by decide +kernel
theorem dX10_number_136 : decode cX10_number 136 = .ok (.ireturn, 1) := by decide +kernel
theorem dX10_number_137 : decode cX10_number 137 = .ok (.aload_n 0, 1) := by decide +kernel
theorem dX10_number_138 : decode cX10_number 138 = .ok (.getfield 60, 3) := by decide +kernel
theorem dX10_number_141 : decode cX10_number 141 = .ok (.ireturn, 1) := by decide +kernel
theorem dX10_number_142 : decode cX10_number 142 = .ok (.aload_n 0, 1) := by decide +kernel
theorem dX10_number_143 : decode cX10_number 143 = .ok (.getfield 137, 3) := by decide +kernel
theorem dX10_number_146 : decode cX10_number 146 = .ok (.ireturn, 1) := by decide +kernel
theorem dX10_caption_0 : decode cX10_caption 0 = .ok (.aload_n 0, 1) := by decide +kernel
theorem dX10_caption_1 : decode cX10_caption 1 = .ok (.aload_n 0, 1) := by decide +kernel
theorem dX10_caption_2 : decode cX10_caption 2 = .ok (.iload_n 1, 1) := by decide +kernel
theorem dX10_caption_3 : decode cX10_caption 3 = .ok (.iload_n 2, 1) := by decide +kernel
theorem dX10_caption_4 : decode cX10_caption 4 = .ok (.invokevirtual 159, 3) := by decide +kernel
theorem dX10_caption_7 : decode cX10_caption 7 = .ok (.ifCond .eq 21, 3) := by decide +kernel
theorem dX10_caption_10 : decode cX10_caption 10 = .ok (.iload_n 3, 1) := by decide +kernel
theorem dX10_caption_11 : decode cX10_caption 11 = .ok (.iconst 0, 1) := by decide +kernel
theorem dX10_caption_12 : decode cX10_caption 12 = .ok (.bipush 11, 2) := by decide +kernel
theorem dX10_caption_14 : decode cX10_caption 14 = .ok (.invokestatic 48, 3) := by decide +kernel
theorem dX10_caption_17 : decode cX10_caption 17 = .ok (.ifCond .eq 7, 3) := by decide +kernel
theorem dX10_caption_20 : decode cX10_caption 20 = .ok (.iconst 0, 1) := by decide +kernel
theorem dX10_caption_21 : decode cX10_caption 21 = .ok (.goto 8, 3) := by decide +kernel
theorem dX10_caption_24 : decode cX10_caption 24 = .ok (.iconst 2, 1) := by decide +kernel
theorem dX10_caption_25 : decode cX10_caption 25 = .ok (.goto 4, 3) := by decide +kernel
theorem dX10_caption_28 : decode cX10_caption 28 = .ok (.iconst 1, 1) := by decide +kernel
theorem dX10_caption_29 : decode cX10_caption 29 = .ok (.putfield 35, 3) := by decide +kernel
theorem dX10_caption_32 : decode cX10_caption 32 = .ok (.aload_n 0, 1) := by decide +kernel
theorem dX10_caption_33 : decode cX10_caption 33 = .ok (.getfield 35, 3) := by decide +kernel
theorem dX10_caption_36 : decode cX10_caption 36 = .ok (.ifCond .le 5, 3) := by decide +kernel
theorem dX10_caption_39 : decode cX10_caption 39 = .ok (.iconst 0, 1) := by decide +kernel
theorem dX10_caption_40 : decode cX10_caption 40 = .ok (.ireturn, 1) := by decide +kernel
theorem dX10_caption_41 : decode cX10_caption 41 = .ok (.iload_n 3, 1) := by decide +kernel
theorem dX10_caption_42 : decode cX10_caption 42 = .ok (.tableswitch 145 3 11 #[50, 57, 64, 71, 78, 90, 97, 104, 119], 50) := by decide +kernel
theorem dX10_caption_92 : decode cX10_caption 92 = .ok (.aload_n 0, 1) := by decide +kernel
theorem dX10_caption_93 : decode cX10_caption 93 = .ok (.iload_n 1, 1) := by decide +kernel
theorem dX10_caption_94 : decode cX10_caption 94 = .ok (.iload_n 2, 1) := by decide +kernel
theorem dX10_caption_95 : decode cX10_caption 95 = .ok (.invokevirtual 107, 3) := by decide +kernel
theorem dX10_caption_98 : decode cX10_caption 98 = .ok (.ireturn, 1) := by decide +kernel
theorem dX10_caption_99 : decode cX10_caption 99 = .ok (.aload_n 0, 1) := by decide +kernel
theorem dX10_caption_100 : decode cX10_caption 100 = .ok (.iload_n 1, 1) := by decide +kernel
theorem dX10_caption_101 : decode cX10_caption 101 = .ok (.iload_n 2, 1) := by decide +kernel
theorem dX10_caption_102 : decode cX10_caption 102 = .ok (.invokevirtual 122, 3) := by decide +kernel
theorem dX10_caption_105 : decode cX10_caption 105 = .ok (.ireturn, 1) := by decide +kernel
theorem dX10_caption_106 : decode cX10_caption 106 = .ok (.aload_n 0, 1) := by decide +kernel
theorem dX10_caption_107 : decode cX10_caption 107 = .ok (.iload_n 1, 1) := by decide +kernel
theorem dX10_caption_108 : decode cX10_caption 108 = .ok (.iload_n 2, 1) := by decide +kernel
theorem dX10_caption_109 : decode cX10_caption 109 = .ok (.invokevirtual 184, 3) := by decide +kernel
theorem dX10_caption_112 : decode cX10_caption 112 = .ok (.ireturn, 1) := by decide +kernel
theorem dX10_caption_113 : decode cX10_caption 113 = .ok (.aload_n 0, 1) := by decide +kernel
theorem dX10_caption_114 : decode cX10_caption 114 = .ok (.iload_n 1, 1) := by decide +kernel
theorem dX10_caption_115 : decode cX10_caption 115 = .ok (.iload_n 2, 1) := by decide +kernel
theorem dX10_caption_116 : decode cX10_caption 116 = .ok (.invokevirtual 119, 3) := by decide +kernel
theorem dX10_caption_119 : decode cX10_caption 119 = .ok (.ireturn, 1) := by decide +kernel
theorem dX10_caption_120 : decode cX10_caption 120 = .ok (.aload_n 0, 1) := by decide +kernel
theorem dX10_caption_121 : decode cX10_caption 121 = .ok (.getfield 7, 3) := by decide +kernel
theorem dX10_caption_124 : decode cX10_caption 124 = .ok (.iload_n 1, 1) := by decide +kernel
theorem dX10_caption_125 : decode cX10_caption 125 = .ok (.iload_n 2, 1) := by decide +kernel
theorem dX10_caption_126 : decode cX10_caption 126 = .ok (.iconst 3, 1) := by decide +kernel
theorem dX10_caption_127 : decode cX10_caption 127 = .ok (.invokestatic 56, 3) := by decide +kernel
theorem dX10_caption_130 : decode cX10_caption 130 = .ok (.iaload, 1) := by decide +kernel
theorem dX10_caption_131 : decode cX10_caption 131 = .ok (.ireturn, 1) := by decide +kernel
theorem dX10_caption_132 : decode cX10_caption 132 = .ok (.aload_n 0, 1) := by decide +kernel
theorem dX10_caption_133 : decode cX10_caption 133 = .ok (.iload_n 1, 1) := by decide +kernel
theorem dX10_caption_134 : decode cX10_caption 134 = .ok (.iload_n 2, 1) := by decide +kernel
theorem dX10_caption_135 : decode cX10_caption 135 = .ok (.invokevirtual 131, 3) := by decide +kernel
theorem dX10_caption_138 : decode cX10_caption 138 = .ok (.ireturn, 1) := by decide +kernel
theorem dX10_caption_139 : decode cX10_caption 139 = .ok (.aload_n 0, 1) := by decide +kernel
theorem dX10_caption_140 : decode cX10_caption 140 = .ok (.iload_n 1, 1) := by decide +kernel
theorem dX10_caption_141 : decode cX10_caption 141 = .ok (.iload_n 2, 1) := by decide +kernel
theorem dX10_caption_142 : decode cX10_caption 142 = .ok (.invokevirtual 194, 3) := by decide +kernel
theorem dX10_caption_145 : decode cX10_caption 145 = .ok (.ireturn, 1) := by decide +kernel
theorem dX10_caption_146 : decode cX10_caption 146 = .ok (.iload_n 2, 1) := by decide +kernel
theorem dX10_caption_147 : decode cX10_caption 147 = .ok (.ifCond .ne 7, 3) := by decide +kernel
theorem dX10_caption_150 : decode cX10_caption 150 = .ok (.iconst (-1), 1) := by decide +kernel
theorem dX10_caption_151 : decode cX10_caption 151 = .ok (.goto 9, 3) := by decide +kernel
theorem dX10_caption_154 : decode cX10_caption 154 = .ok (.aload_n 0, 1) := by decide +kernel
theorem dX10_caption_155 : decode cX10_caption 155 = .ok (.iload_n 1, 1) := by decide +kernel
theorem dX10_caption_156 : decode cX10_caption 156 = .ok (.iload_n 2, 1) := by decide +kernel
theorem dX10_caption_157 : decode cX10_caption 157 = .ok (.invokevirtual 128, 3) := by decide +kernel
theorem dX10_caption_160 : decode cX10_caption 160 = .ok (.ireturn, 1) := by decide +kernel
theorem dX10_caption_161 : decode cX10_caption 161 = .ok (.aload_n 0, 1) := by decide +kernel
theorem dX10_caption_162 : decode cX10_caption 162 = .ok (.iload_n 1, 1) := by decide +kernel
theorem dX10_caption_163 : decode cX10_caption 163 = .ok (.iload_n 2, 1) := by decide +kernel
theorem dX10_caption_164 : decode cX10_caption 164 = .ok (.invokevirtual 119, 3) := by decide +kernel
theorem dX10_caption_167 : decode cX10_caption 167 = .ok (.ifCond .ge 7, 3) := by decide +kernel
theorem dX10_caption_170 : decode cX10_caption 170 = .ok (.iconst 0, 1) := by decide +kernel
theorem dX10_caption_171 : decode cX10_caption 171 = .ok (.goto 15, 3) := by decide +kernel
theorem dX10_caption_174 : decode cX10_caption 174 = .ok (.aload_n 0, 1) := by decide +kernel
theorem dX10_caption_175 : decode cX10_caption 175 = .ok (.iload_n 1, 1) := by decide +kernel
theorem dX10_caption_176 : decode cX10_caption 176 = .ok (.iload_n 2, 1) := by decide +kernel
theorem dX10_caption_177 : decode cX10_caption 177 = .ok (.aload_n 0, 1) := by decide +kernel
theorem dX10_caption_178 : decode cX10_caption 178 = .ok (.iload_n 1, 1) := by decide +kernel
theorem dX10_caption_179 : decode cX10_caption 179 = .ok (.iload_n 2, 1) := by decide +kernel
theorem dX10_caption_180 : decode cX10_caption 180 = .ok (.invokevirtual 119, 3) := by decide +kernel
theorem dX10_caption_183 : decode cX10_caption 183 = .ok (.invokevirtual 116, 3) := by decide +kernel
theorem dX10_caption_186 : decode cX10_caption 186 = .ok (.ireturn, 1) := by decide +kernel
theorem dX10_caption_187 : decode cX10_caption 187 = .ok (.aload_n 0, 1) := by decide +kernel
theorem dX10_caption_188 : decode cX10_caption 188 = .ok (.getfield 7, 3) := by decide +kernel
theorem dX10_caption_191 : decode cX10_caption 191 = .ok (.iload_n 1, 1) := by decide +kernel
theorem dX10_caption_192 : decode cX10_caption 192 = .ok (.iload_n 2, 1) := by decide +kernel
theorem dX10_caption_193 : decode cX10_caption 193 = .ok (.iload_n 3, 1) := by decide +kernel
theorem dX10_caption_194 : decode cX10_caption 194 = .ok (.invokestatic 56, 3) := by decide +kernel
theorem dX10_caption_197 : decode cX10_caption 197 = .ok (.iaload, 1) := by decide +kernel
theorem dX10_caption_198 : decode cX10_caption 198 = .ok (.ireturn, 1) := by decide +kernel
theorem dX10_letter_0 : decode cX10_letter 0 = .ok (.aload_n 0, 1) := by decide +kernel
theorem dX10_letter_1 : decode cX10_letter 1 = .ok (.aload_n 0, 1) := by decide +kernel
theorem dX10_letter_2 : decode cX10_letter 2 = .ok (.iload_n 1, 1) := by decide +kernel
theorem dX10_letter_3 : decode cX10_letter 3 = .ok (.iload_n 2, 1) := by decide +kernel
theorem dX10_letter_4 : decode cX10_letter 4 = .ok (.invokevirtual 159, 3) := by decide +kernel
theorem dX10_letter_7 : decode cX10_letter 7 = .ok (.ifCond .eq 32, 3) := by decide +kernel
theorem dX10_letter_10 : decode cX10_letter 10 = .ok (.iload_n 3, 1) := by decide +kernel
theorem dX10_letter_11 : decode cX10_letter 11 = .ok (.iconst 0, 1) := by decide +kernel
theorem dX10_letter_12 : decode cX10_letter 12 = .ok (.aload_n 0, 1) := by decide +kernel
theorem dX10_letter_13 : decode cX10_letter 13 = .ok (.getfield 7, 3) := by decide +kernel
theorem dX10_letter_16 : decode cX10_letter 16 = .ok (.iload_n 1, 1) := by decide +kernel
theorem dX10_letter_17 : decode cX10_letter 17 = .ok (.iload_n 2, 1) := by decide +kernel
theorem dX10_letter_18 : decode cX10_letter 18 = .ok (.iconst 3, 1) := by decide +kernel
theorem dX10_letter_19 : decode cX10_letter 19 = .ok (.invokestatic 56, 3) := by decide +kernel
theorem dX10_letter_22 : decode cX10_letter 22 = .ok (.iaload, 1) := by decide +kernel
theorem dX10_letter_23 : decode cX10_letter 23 = .ok (.iconst 1, 1) := by decide +kernel
theorem dX10_letter_24 : decode cX10_letter 24 = .ok (.isub, 1) := by decide +kernel
theorem dX10_letter_25 : decode cX10_letter 25 = .ok (.invokestatic 48, 3) := by decide +kernel
theorem dX10_letter_28 : decode cX10_letter 28 = .ok (.ifCond .eq 7, 3) := by decide +kernel
theorem dX10_letter_31 : decode cX10_letter 31 = .ok (.iconst 0, 1) := by decide +kernel
theorem dX10_letter_32 : decode cX10_letter 32 = .ok (.goto 8, 3) := by decide +kernel
theorem dX10_letter_35 : decode cX10_letter 35 = .ok (.iconst 2, 1) := by decide +kernel
theorem dX10_letter_36 : decode cX10_letter 36 = .ok (.goto 4, 3) := by decide +kernel
theorem dX10_letter_39 : decode cX10_letter 39 = .ok (.iconst 1, 1) := by decide +kernel
theorem dX10_letter_40 : decode cX10_letter 40 = .ok (.putfield 35, 3) := by decide +kernel
theorem dX10_letter_43 : decode cX10_letter 43 = .ok (.aload_n 0, 1) := by decide +kernel
theorem dX10_letter_44 : decode cX10_letter 44 = .ok (.getfield 35, 3) := by decide +kernel
theorem dX10_letter_47 : decode cX10_letter 47 = .ok (.ifCond .le 8, 3) := by decide +kernel
theorem dX10_letter_50 : decode cX10_letter 50 = .ok (.bipush 97, 2) := by decide +kernel
theorem dX10_letter_52 : decode cX10_letter 52 = .ok (.goto 16, 3) := by decide +kernel
theorem dX10_letter_55 : decode cX10_letter 55 = .ok (.aload_n 0, 1) := by decide +kernel
theorem dX10_letter_56 : decode cX10_letter 56 = .ok (.getfield 7, 3) := by decide +kernel
theorem dX10_letter_59 : decode cX10_letter 59 = .ok (.iload_n 1, 1) := by decide +kernel
theorem dX10_letter_60 : decode cX10_letter 60 = .ok (.iload_n 2, 1) := by decide +kernel
theorem dX10_letter_61 : decode cX10_letter 61 = .ok (.iconst 4, 1) := by decide +kernel
theorem dX10_letter_62 : decode cX10_letter 62 = .ok (.iload_n 3, 1) := by decide +kernel
theorem dX10_letter_63 : decode cX10_letter 63 = .ok (.iadd, 1) := by decide +kernel
theorem dX10_letter_64 : decode cX10_letter 64 = .ok (.invokestatic 56, 3) := by decide +kernel
theorem dX10_letter_67 : decode cX10_letter 67 = .ok (.iaload, 1) := by decide +kernel
theorem dX10_letter_68 : decode cX10_letter 68 = .ok (.i2c, 1) := by decide +kernel
theorem dX10_letter_69 : decode cX10_letter 69 = .ok (.ireturn, 1) := by decide +kernel
theorem dX10_shown_0 : decode cX10_shown 0 = .ok (.aload_n 0, 1) := by decide +kernel
theorem dX10_shown_1 : decode cX10_shown 1 = .ok (.iload_n 1, 1) := by decide +kernel
theorem dX10_shown_2 : decode cX10_shown 2 = .ok (.invokestatic 52, 3) := by decide +kernel
theorem dX10_shown_5 : decode cX10_shown 5 = .ok (.ifCond .eq 23, 3) := by decide +kernel
theorem dX10_shown_8 : decode cX10_shown 8 = .ok (.iload_n 2, 1) := by decide +kernel
theorem dX10_shown_9 : decode cX10_shown 9 = .ok (.iconst 0, 1) := by decide +kernel
theorem dX10_shown_10 : decode cX10_shown 10 = .ok (.aload_n 0, 1) := by decide +kernel
theorem dX10_shown_11 : decode cX10_shown 11 = .ok (.getfield 7, 3) := by decide +kernel
theorem dX10_shown_14 : decode cX10_shown 14 = .ok (.iconst 0, 1) := by decide +kernel
theorem dX10_shown_15 : decode cX10_shown 15 = .ok (.iaload, 1) := by decide +kernel
theorem dX10_shown_16 : decode cX10_shown 16 = .ok (.iconst 1, 1) := by decide +kernel
theorem dX10_shown_17 : decode cX10_shown 17 = .ok (.isub, 1) := by decide +kernel
theorem dX10_shown_18 : decode cX10_shown 18 = .ok (.invokestatic 48, 3) := by decide +kernel
theorem dX10_shown_21 : decode cX10_shown 21 = .ok (.ifCond .eq 7, 3) := by decide +kernel
theorem dX10_shown_24 : decode cX10_shown 24 = .ok (.iconst 0, 1) := by decide +kernel
theorem dX10_shown_25 : decode cX10_shown 25 = .ok (.goto 4, 3) := by decide +kernel
theorem dX10_shown_28 : decode cX10_shown 28 = .ok (.iconst 1, 1) := by decide +kernel
theorem dX10_shown_29 : decode cX10_shown 29 = .ok (.putfield 35, 3) := by decide +kernel
theorem dX10_shown_32 : decode cX10_shown 32 = .ok (.aload_n 0, 1) := by decide +kernel
theorem dX10_shown_33 : decode cX10_shown 33 = .ok (.getfield 35, 3) := by decide +kernel
theorem dX10_shown_36 : decode cX10_shown 36 = .ok (.ifCond .le 5, 3) := by decide +kernel
theorem dX10_shown_39 : decode cX10_shown 39 = .ok (.iconst 0, 1) := by decide +kernel
theorem dX10_shown_40 : decode cX10_shown 40 = .ok (.ireturn, 1) := by decide +kernel
theorem dX10_shown_41 : decode cX10_shown 41 = .ok (.iconst 0, 1) := by decide +kernel
theorem dX10_shown_42 : decode cX10_shown 42 = .ok (.istore_n 3, 1) := by decide +kernel
theorem dX10_shown_43 : decode cX10_shown 43 = .ok (.iload_n 3, 1) := by decide +kernel
theorem dX10_shown_44 : decode cX10_shown 44 = .ok (.aload_n 0, 1) := by decide +kernel
theorem dX10_shown_45 : decode cX10_shown 45 = .ok (.getfield 7, 3) := by decide +kernel
theorem dX10_shown_48 : decode cX10_shown 48 = .ok (.bipush 28, 2) := by decide +kernel
theorem dX10_shown_50 : decode cX10_shown 50 = .ok (.iload_n 1, 1) := by decide +kernel
theorem dX10_shown_51 : decode cX10_shown 51 = .ok (.iadd, 1) := by decide +kernel
theorem dX10_shown_52 : decode cX10_shown 52 = .ok (.iaload, 1) := by decide +kernel
theorem dX10_shown_53 : decode cX10_shown 53 = .ok (.if_icmp .ge 32, 3) := by decide +kernel
theorem dX10_shown_56 : decode cX10_shown 56 = .ok (.iload_n 2, 1) := by decide +kernel
theorem dX10_shown_57 : decode cX10_shown 57 = .ok (.aload_n 0, 1) := by decide +kernel
theorem dX10_shown_58 : decode cX10_shown 58 = .ok (.iload_n 1, 1) := by decide +kernel
theorem dX10_shown_59 : decode cX10_shown 59 = .ok (.iload_n 3, 1) := by decide +kernel
theorem dX10_shown_60 : decode cX10_shown 60 = .ok (.invokevirtual 113, 3) := by decide +kernel
theorem dX10_shown_63 : decode cX10_shown 63 = .ok (.aload_n 0, 1) := by decide +kernel
theorem dX10_shown_64 : decode cX10_shown 64 = .ok (.iload_n 1, 1) := by decide +kernel
theorem dX10_shown_65 : decode cX10_shown 65 = .ok (.iload_n 3, 1) := by decide +kernel
theorem dX10_shown_66 : decode cX10_shown 66 = .ok (.invokevirtual 71, 3) := by decide +kernel
theorem dX10_shown_69 : decode cX10_shown 69 = .ok (.iconst 1, 1) := by decide +kernel
theorem dX10_shown_70 : decode cX10_shown 70 = .ok (.isub, 1) := by decide +kernel
theorem dX10_shown_71 : decode cX10_shown 71 = .ok (.invokestatic 48, 3) := by decide +kernel
theorem dX10_shown_74 : decode cX10_shown 74 = .ok (.ifCond .eq 5, 3) := by decide +kernel
theorem dX10_shown_77 : decode cX10_shown 77 = .ok (.iload_n 3, 1) := by decide +kernel
theorem dX10_shown_78 : decode cX10_shown 78 = .ok (.ireturn, 1) := by decide +kernel
theorem dX10_shown_79 : decode cX10_shown 79 = .ok (.iinc 3 1, 3) := by decide +kernel
theorem dX10_shown_82 : decode cX10_shown 82 = .ok (.goto (-39), 3) := by decide +kernel
theorem dX10_shown_85 : decode cX10_shown 85 = .ok (.aload_n 0, 1) := by decide +kernel
theorem dX10_shown_86 : decode cX10_shown 86 = .ok (.iconst 2, 1) := by decide +kernel
theorem dX10_shown_87 : decode cX10_shown 87 = .ok (.invokevirtual 44, 3) := by decide +kernel
theorem dX10_shown_90 : decode cX10_shown 90 = .ok (.ireturn, 1) := by decide +kernel
theorem dX10_frames_0 : decode cX10_frames 0 = .ok (.iconst 0, 1) := by decide +kernel
theorem dX10_frames_1 : decode cX10_frames 1 = .ok (.istore_n 2, 1) := by decide +kernel
theorem dX10_frames_2 : decode cX10_frames 2 = .ok (.iconst 0, 1) := by decide +kernel
theorem dX10_frames_3 : decode cX10_frames 3 = .ok (.istore_n 3, 1) := by decide +kernel
theorem dX10_frames_4 : decode cX10_frames 4 = .ok (.iload_n 3, 1) := by decide +kernel
theorem dX10_frames_5 : decode cX10_frames 5 = .ok (.aload_n 0, 1) := by decide +kernel
theorem dX10_frames_6 : decode cX10_frames 6 = .ok (.getfield 7, 3) := by decide +kernel
theorem dX10_frames_9 : decode cX10_frames 9 = .ok (.bipush 28, 2) := by decide +kernel
theorem dX10_frames_11 : decode cX10_frames 11 = .ok (.iload_n 1, 1) := by decide +kernel
theorem dX10_frames_12 : decode cX10_frames 12 = .ok (.iadd, 1) := by decide +kernel
theorem dX10_frames_13 : decode cX10_frames 13 = .ok (.iaload, 1) := by decide +kernel
theorem dX10_frames_14 : decode cX10_frames 14 = .ok (.if_icmp .ge 25, 3) := by decide +kernel
theorem dX10_frames_17 : decode cX10_frames 17 = .ok (.iload_n 2, 1) := by decide +kernel
theorem dX10_frames_18 : decode cX10_frames 18 = .ok (.aload_n 0, 1) := by decide +kernel
theorem dX10_frames_19 : decode cX10_frames 19 = .ok (.iload_n 1, 1) := by decide +kernel
theorem dX10_frames_20 : decode cX10_frames 20 = .ok (.iload_n 3, 1) := by decide +kernel
theorem dX10_frames_21 : decode cX10_frames 21 = .ok (.invokevirtual 71, 3) := by decide +kernel
theorem dX10_frames_24 : decode cX10_frames 24 = .ok (.aload_n 0, 1) := by decide +kernel
theorem dX10_frames_25 : decode cX10_frames 25 = .ok (.iload_n 1, 1) := by decide +kernel
theorem dX10_frames_26 : decode cX10_frames 26 = .ok (.iload_n 3, 1) := by decide +kernel
theorem dX10_frames_27 : decode cX10_frames 27 = .ok (.invokevirtual 113, 3) := by decide +kernel
theorem dX10_frames_30 : decode cX10_frames 30 = .ok (.isub, 1) := by decide +kernel
theorem dX10_frames_31 : decode cX10_frames 31 = .ok (.iadd, 1) := by decide +kernel
theorem dX10_frames_32 : decode cX10_frames 32 = .ok (.istore_n 2, 1) := by decide +kernel
theorem dX10_frames_33 : decode cX10_frames 33 = .ok (.iinc 3 1, 3) := by decide +kernel
theorem dX10_frames_36 : decode cX10_frames 36 = .ok (.goto (-32), 3) := by decide +kernel
theorem dX10_frames_39 : decode cX10_frames 39 = .ok (.iload_n 2, 1) := by decide +kernel
theorem dX10_frames_40 : decode cX10_frames 40 = .ok (.ireturn, 1) := by decide +kernel
theorem dX10_loads_0 : decode cX10_loads 0 = .ok (.iconst 0, 1) := by decide +kernel
theorem dX10_loads_1 : decode cX10_loads 1 = .ok (.istore_n 2, 1) := by decide +kernel
theorem dX10_loads_2 : decode cX10_loads 2 = .ok (.iconst 0, 1) := by decide +kernel
theorem dX10_loads_3 : decode cX10_loads 3 = .ok (.istore_n 3, 1) := by decide +kernel
theorem dX10_loads_4 : decode cX10_loads 4 = .ok (.iload_n 3, 1) := by decide +kernel
theorem dX10_loads_5 : decode cX10_loads 5 = .ok (.aload_n 0, 1) := by decide +kernel
theorem dX10_loads_6 : decode cX10_loads 6 = .ok (.getfield 7, 3) := by decide +kernel
theorem dX10_loads_9 : decode cX10_loads 9 = .ok (.bipush 28, 2) := by decide +kernel
theorem dX10_loads_11 : decode cX10_loads 11 = .ok (.iload_n 1, 1) := by decide +kernel
theorem dX10_loads_12 : decode cX10_loads 12 = .ok (.iadd, 1) := by decide +kernel
theorem dX10_loads_13 : decode cX10_loads 13 = .ok (.iaload, 1) := by decide +kernel
theorem dX10_loads_14 : decode cX10_loads 14 = .ok (.if_icmp .ge 18, 3) := by decide +kernel
theorem dX10_loads_17 : decode cX10_loads 17 = .ok (.iload_n 2, 1) := by decide +kernel
theorem dX10_loads_18 : decode cX10_loads 18 = .ok (.aload_n 0, 1) := by decide +kernel
theorem dX10_loads_19 : decode cX10_loads 19 = .ok (.iload_n 1, 1) := by decide +kernel
theorem dX10_loads_20 : decode cX10_loads 20 = .ok (.iload_n 3, 1) := by decide +kernel
theorem dX10_loads_21 : decode cX10_loads 21 = .ok (.invokevirtual 107, 3) := by decide +kernel
theorem dX10_loads_24 : decode cX10_loads 24 = .ok (.iadd, 1) := by decide +kernel
theorem dX10_loads_25 : decode cX10_loads 25 = .ok (.istore_n 2, 1) := by decide +kernel
theorem dX10_loads_26 : decode cX10_loads 26 = .ok (.iinc 3 1, 3) := by decide +kernel
theorem dX10_loads_29 : decode cX10_loads 29 = .ok (.goto (-25), 3) := by decide +kernel
theorem dX10_loads_32 : decode cX10_loads 32 = .ok (.iload_n 2, 1) := by decide +kernel
theorem dX10_loads_33 : decode cX10_loads 33 = .ok (.ireturn, 1) := by decide +kernel
theorem dX10_overCuts_0 : decode cX10_overCuts 0 = .ok (.iconst 0, 1) := by decide +kernel
theorem dX10_overCuts_1 : decode cX10_overCuts 1 = .ok (.istore_n 2, 1) := by decide +kernel
theorem dX10_overCuts_2 : decode cX10_overCuts 2 = .ok (.iconst 0, 1) := by decide +kernel
theorem dX10_overCuts_3 : decode cX10_overCuts 3 = .ok (.istore_n 3, 1) := by decide +kernel
theorem dX10_overCuts_4 : decode cX10_overCuts 4 = .ok (.iload_n 3, 1) := by decide +kernel
theorem dX10_overCuts_5 : decode cX10_overCuts 5 = .ok (.aload_n 0, 1) := by decide +kernel
theorem dX10_overCuts_6 : decode cX10_overCuts 6 = .ok (.getfield 7, 3) := by decide +kernel
theorem dX10_overCuts_9 : decode cX10_overCuts 9 = .ok (.bipush 28, 2) := by decide +kernel
theorem dX10_overCuts_11 : decode cX10_overCuts 11 = .ok (.iload_n 1, 1) := by decide +kernel
theorem dX10_overCuts_12 : decode cX10_overCuts 12 = .ok (.iadd, 1) := by decide +kernel
theorem dX10_overCuts_13 : decode cX10_overCuts 13 = .ok (.iaload, 1) := by decide +kernel
theorem dX10_overCuts_14 : decode cX10_overCuts 14 = .ok (.if_icmp .ge 26, 3) := by decide +kernel
theorem dX10_overCuts_17 : decode cX10_overCuts 17 = .ok (.iload_n 2, 1) := by decide +kernel
theorem dX10_overCuts_18 : decode cX10_overCuts 18 = .ok (.aload_n 0, 1) := by decide +kernel
theorem dX10_overCuts_19 : decode cX10_overCuts 19 = .ok (.iload_n 1, 1) := by decide +kernel
theorem dX10_overCuts_20 : decode cX10_overCuts 20 = .ok (.iload_n 3, 1) := by decide +kernel
theorem dX10_overCuts_21 : decode cX10_overCuts 21 = .ok (.invokevirtual 194, 3) := by decide +kernel
theorem dX10_overCuts_24 : decode cX10_overCuts 24 = .ok (.ifCond .le 7, 3) := by decide +kernel
theorem dX10_overCuts_27 : decode cX10_overCuts 27 = .ok (.iconst 1, 1) := by decide +kernel
theorem dX10_overCuts_28 : decode cX10_overCuts 28 = .ok (.goto 4, 3) := by decide +kernel
theorem dX10_overCuts_31 : decode cX10_overCuts 31 = .ok (.iconst 0, 1) := by decide +kernel
theorem dX10_overCuts_32 : decode cX10_overCuts 32 = .ok (.iadd, 1) := by decide +kernel
theorem dX10_overCuts_33 : decode cX10_overCuts 33 = .ok (.istore_n 2, 1) := by decide +kernel
theorem dX10_overCuts_34 : decode cX10_overCuts 34 = .ok (.iinc 3 1, 3) := by decide +kernel
theorem dX10_overCuts_37 : decode cX10_overCuts 37 = .ok (.goto (-33), 3) := by decide +kernel
theorem dX10_overCuts_40 : decode cX10_overCuts 40 = .ok (.iload_n 2, 1) := by decide +kernel
theorem dX10_overCuts_41 : decode cX10_overCuts 41 = .ok (.ireturn, 1) := by decide +kernel
theorem dX10_merging_0 : decode cX10_merging 0 = .ok (.iconst 0, 1) := by decide +kernel
theorem dX10_merging_1 : decode cX10_merging 1 = .ok (.istore_n 2, 1) := by decide +kernel
theorem dX10_merging_2 : decode cX10_merging 2 = .ok (.iconst 0, 1) := by decide +kernel
theorem dX10_merging_3 : decode cX10_merging 3 = .ok (.istore_n 3, 1) := by decide +kernel
theorem dX10_merging_4 : decode cX10_merging 4 = .ok (.iload_n 3, 1) := by decide +kernel
theorem dX10_merging_5 : decode cX10_merging 5 = .ok (.aload_n 0, 1) := by decide +kernel
theorem dX10_merging_6 : decode cX10_merging 6 = .ok (.getfield 7, 3) := by decide +kernel
theorem dX10_merging_9 : decode cX10_merging 9 = .ok (.bipush 28, 2) := by decide +kernel
theorem dX10_merging_11 : decode cX10_merging 11 = .ok (.iload_n 1, 1) := by decide +kernel
theorem dX10_merging_12 : decode cX10_merging 12 = .ok (.iadd, 1) := by decide +kernel
theorem dX10_merging_13 : decode cX10_merging 13 = .ok (.iaload, 1) := by decide +kernel
theorem dX10_merging_14 : decode cX10_merging 14 = .ok (.if_icmp .ge 26, 3) := by decide +kernel
theorem dX10_merging_17 : decode cX10_merging 17 = .ok (.iload_n 2, 1) := by decide +kernel
theorem dX10_merging_18 : decode cX10_merging 18 = .ok (.aload_n 0, 1) := by decide +kernel
theorem dX10_merging_19 : decode cX10_merging 19 = .ok (.iload_n 1, 1) := by decide +kernel
theorem dX10_merging_20 : decode cX10_merging 20 = .ok (.iload_n 3, 1) := by decide +kernel
theorem dX10_merging_21 : decode cX10_merging 21 = .ok (.invokevirtual 172, 3) := by decide +kernel
theorem dX10_merging_24 : decode cX10_merging 24 = .ok (.ifCond .ne 7, 3) := by decide +kernel
theorem dX10_merging_27 : decode cX10_merging 27 = .ok (.iconst 1, 1) := by decide +kernel
theorem dX10_merging_28 : decode cX10_merging 28 = .ok (.goto 4, 3) := by decide +kernel
theorem dX10_merging_31 : decode cX10_merging 31 = .ok (.iconst 0, 1) := by decide +kernel
theorem dX10_merging_32 : decode cX10_merging 32 = .ok (.iadd, 1) := by decide +kernel
theorem dX10_merging_33 : decode cX10_merging 33 = .ok (.istore_n 2, 1) := by decide +kernel
theorem dX10_merging_34 : decode cX10_merging 34 = .ok (.iinc 3 1, 3) := by decide +kernel
theorem dX10_merging_37 : decode cX10_merging 37 = .ok (.goto (-33), 3) := by decide +kernel
theorem dX10_merging_40 : decode cX10_merging 40 = .ok (.iload_n 2, 1) := by decide +kernel
theorem dX10_merging_41 : decode cX10_merging 41 = .ok (.ireturn, 1) := by decide +kernel
theorem dX10_track_0 : decode cX10_track 0 = .ok (.aload_n 0, 1) := by decide +kernel
theorem dX10_track_1 : decode cX10_track 1 = .ok (.iload_n 1, 1) := by decide +kernel
theorem dX10_track_2 : decode cX10_track 2 = .ok (.invokestatic 52, 3) := by decide +kernel
theorem dX10_track_5 : decode cX10_track 5 = .ok (.ifCond .eq 21, 3) := by decide +kernel
theorem dX10_track_8 : decode cX10_track 8 = .ok (.iload_n 2, 1) := by decide +kernel
theorem dX10_track_9 : decode cX10_track 9 = .ok (.iconst 0, 1) := by decide +kernel
theorem dX10_track_10 : decode cX10_track 10 = .ok (.bipush 8, 2) := by decide +kernel
theorem dX10_track_12 : decode cX10_track 12 = .ok (.invokestatic 48, 3) := by decide +kernel
theorem dX10_track_15 : decode cX10_track 15 = .ok (.ifCond .eq 7, 3) := by decide +kernel
theorem dX10_track_18 : decode cX10_track 18 = .ok (.iconst 0, 1) := by decide +kernel
theorem dX10_track_19 : decode cX10_track 19 = .ok (.goto 8, 3) := by decide +kernel
theorem dX10_track_22 : decode cX10_track 22 = .ok (.iconst 2, 1) := by decide +kernel
theorem dX10_track_23 : decode cX10_track 23 = .ok (.goto 4, 3) := by decide +kernel
theorem dX10_track_26 : decode cX10_track 26 = .ok (.iconst 1, 1) := by decide +kernel
theorem dX10_track_27 : decode cX10_track 27 = .ok (.putfield 35, 3) := by decide +kernel
theorem dX10_track_30 : decode cX10_track 30 = .ok (.aload_n 0, 1) := by decide +kernel
theorem dX10_track_31 : decode cX10_track 31 = .ok (.getfield 35, 3) := by decide +kernel
theorem dX10_track_34 : decode cX10_track 34 = .ok (.ifCond .le 5, 3) := by decide +kernel
theorem dX10_track_37 : decode cX10_track 37 = .ok (.iconst 0, 1) := by decide +kernel
theorem dX10_track_38 : decode cX10_track 38 = .ok (.ireturn, 1) := by decide +kernel
theorem dX10_track_39 : decode cX10_track 39 = .ok (.iload_n 2, 1) := by decide +kernel
theorem dX10_track_40 : decode cX10_track 40 = .ok (.tableswitch 93 0 7 #[48, 54, 60, 67, 75, 75, 75, 87], 48) := by decide +kernel
theorem dX10_track_88 : decode cX10_track 88 = .ok (.aload_n 0, 1) := by decide +kernel
theorem dX10_track_89 : decode cX10_track 89 = .ok (.iload_n 1, 1) := by decide +kernel
theorem dX10_track_90 : decode cX10_track 90 = .ok (.invokevirtual 197, 3) := by decide +kernel
theorem dX10_track_93 : decode cX10_track 93 = .ok (.ireturn, 1) := by decide +kernel
theorem dX10_track_94 : decode cX10_track 94 = .ok (.aload_n 0, 1) := by decide +kernel
theorem dX10_track_95 : decode cX10_track 95 = .ok (.iload_n 1, 1) := by decide +kernel
theorem dX10_track_96 : decode cX10_track 96 = .ok (.invokevirtual 200, 3) := by decide +kernel
theorem dX10_track_99 : decode cX10_track 99 = .ok (.ireturn, 1) := by decide +kernel
theorem dX10_track_100 : decode cX10_track 100 = .ok (.aload_n 0, 1) := by decide +kernel
theorem dX10_track_101 : decode cX10_track 101 = .ok (.iload_n 1, 1) := by decide +kernel
theorem dX10_track_102 : decode cX10_track 102 = .ok (.iconst 1, 1) := by decide +kernel
theorem dX10_track_103 : decode cX10_track 103 = .ok (.invokevirtual 191, 3) := by decide +kernel
theorem dX10_track_106 : decode cX10_track 106 = .ok (.ireturn, 1) := by decide +kernel
theorem dX10_track_107 : decode cX10_track 107 = .ok (.aload_n 0, 1) := by decide +kernel
theorem dX10_track_108 : decode cX10_track 108 = .ok (.iload_n 1, 1) := by decide +kernel
theorem dX10_track_109 : decode cX10_track 109 = .ok (.bipush 6, 2) := by decide +kernel
theorem dX10_track_111 : decode cX10_track 111 = .ok (.invokevirtual 191, 3) := by decide +kernel
theorem dX10_track_114 : decode cX10_track 114 = .ok (.ireturn, 1) := by decide +kernel
theorem dX10_track_115 : decode cX10_track 115 = .ok (.aload_n 0, 1) := by decide +kernel
theorem dX10_track_116 : decode cX10_track 116 = .ok (.iload_n 1, 1) := by decide +kernel
theorem dX10_track_117 : decode cX10_track 117 = .ok (.bipush 8, 2) := by decide +kernel
theorem dX10_track_119 : decode cX10_track 119 = .ok (.iload_n 2, 1) := by decide +kernel
theorem dX10_track_120 : decode cX10_track 120 = .ok (.iconst 4, 1) := by decide +kernel
theorem dX10_track_121 : decode cX10_track 121 = .ok (.isub, 1) := by decide +kernel
theorem dX10_track_122 : decode cX10_track 122 = .ok (.ishl, 1) := by decide +kernel
theorem dX10_track_123 : decode cX10_track 123 = .ok (.invokevirtual 191, 3) := by decide +kernel
theorem dX10_track_126 : decode cX10_track 126 = .ok (.ireturn, 1) := by decide +kernel
theorem dX10_track_127 : decode cX10_track 127 = .ok (.aload_n 0, 1) := by decide +kernel
theorem dX10_track_128 : decode cX10_track 128 = .ok (.iload_n 1, 1) := by decide +kernel
theorem dX10_track_129 : decode cX10_track 129 = .ok (.invokevirtual 203, 3) := by decide +kernel
theorem dX10_track_132 : decode cX10_track 132 = .ok (.ireturn, 1) := by decide +kernel
theorem dX10_track_133 : decode cX10_track 133 = .ok (.aload_n 0, 1) := by decide +kernel
theorem dX10_track_134 : decode cX10_track 134 = .ok (.iload_n 1, 1) := by decide +kernel
theorem dX10_track_135 : decode cX10_track 135 = .ok (.invokevirtual 206, 3) := by decide +kernel
theorem dX10_track_138 : decode cX10_track 138 = .ok (.ireturn, 1) := by decide +kernel
theorem dX10_fastest_0 : decode cX10_fastest 0 = .ok (.aload_n 0, 1) := by decide +kernel
theorem dX10_fastest_1 : decode cX10_fastest 1 = .ok (.iload_n 1, 1) := by decide +kernel
theorem dX10_fastest_2 : decode cX10_fastest 2 = .ok (.invokestatic 52, 3) := by decide +kernel
theorem dX10_fastest_5 : decode cX10_fastest 5 = .ok (.ifCond .eq 23, 3) := by decide +kernel
theorem dX10_fastest_8 : decode cX10_fastest 8 = .ok (.aload_n 0, 1) := by decide +kernel
theorem dX10_fastest_9 : decode cX10_fastest 9 = .ok (.getfield 7, 3) := by decide +kernel
theorem dX10_fastest_12 : decode cX10_fastest 12 = .ok (.bipush 28, 2) := by decide +kernel
theorem dX10_fastest_14 : decode cX10_fastest 14 = .ok (.iload_n 1, 1) := by decide +kernel
theorem dX10_fastest_15 : decode cX10_fastest 15 = .ok (.iadd, 1) := by decide +kernel
theorem dX10_fastest_16 : decode cX10_fastest 16 = .ok (.iaload, 1) := by decide +kernel
theorem dX10_fastest_17 : decode cX10_fastest 17 = .ok (.ifCond .ne 7, 3) := by decide +kernel
theorem dX10_fastest_20 : decode cX10_fastest 20 = .ok (.iconst 2, 1) := by decide +kernel
theorem dX10_fastest_21 : decode cX10_fastest 21 = .ok (.goto 8, 3) := by decide +kernel
theorem dX10_fastest_24 : decode cX10_fastest 24 = .ok (.iconst 0, 1) := by decide +kernel
theorem dX10_fastest_25 : decode cX10_fastest 25 = .ok (.goto 4, 3) := by decide +kernel
theorem dX10_fastest_28 : decode cX10_fastest 28 = .ok (.iconst 1, 1) := by decide +kernel
theorem dX10_fastest_29 : decode cX10_fastest 29 = .ok (.putfield 35, 3) := by decide +kernel
theorem dX10_fastest_32 : decode cX10_fastest 32 = .ok (.iconst 0, 1) := by decide +kernel
theorem dX10_fastest_33 : decode cX10_fastest 33 = .ok (.istore_n 2, 1) := by decide +kernel
theorem dX10_fastest_34 : decode cX10_fastest 34 = .ok (.iconst 1, 1) := by decide +kernel
theorem dX10_fastest_35 : decode cX10_fastest 35 = .ok (.istore_n 3, 1) := by decide +kernel
theorem dX10_fastest_36 : decode cX10_fastest 36 = .ok (.aload_n 0, 1) := by decide +kernel
theorem dX10_fastest_37 : decode cX10_fastest 37 = .ok (.getfield 35, 3) := by decide +kernel
theorem dX10_fastest_40 : decode cX10_fastest 40 = .ok (.ifCond .ne 71, 3) := by decide +kernel
theorem dX10_fastest_43 : decode cX10_fastest 43 = .ok (.iload_n 3, 1) := by decide +kernel
theorem dX10_fastest_44 : decode cX10_fastest 44 = .ok (.aload_n 0, 1) := by decide +kernel
theorem dX10_fastest_45 : decode cX10_fastest 45 = .ok (.getfield 7, 3) := by decide +kernel
theorem dX10_fastest_48 : decode cX10_fastest 48 = .ok (.bipush 28, 2) := by decide +kernel
theorem dX10_fastest_50 : decode cX10_fastest 50 = .ok (.iload_n 1, 1) := by decide +kernel
theorem dX10_fastest_51 : decode cX10_fastest 51 = .ok (.iadd, 1) := by decide +kernel
theorem dX10_fastest_52 : decode cX10_fastest 52 = .ok (.iaload, 1) := by decide +kernel
theorem dX10_fastest_53 : decode cX10_fastest 53 = .ok (.if_icmp .ge 58, 3) := by decide +kernel
theorem dX10_fastest_56 : decode cX10_fastest 56 = .ok (.aload_n 0, 1) := by decide +kernel
theorem dX10_fastest_57 : decode cX10_fastest 57 = .ok (.iload_n 1, 1) := by decide +kernel
theorem dX10_fastest_58 : decode cX10_fastest 58 = .ok (.iload_n 3, 1) := by decide +kernel
theorem dX10_fastest_59 : decode cX10_fastest 59 = .ok (.invokevirtual 107, 3) := by decide +kernel
theorem dX10_fastest_62 : decode cX10_fastest 62 = .ok (.aload_n 0, 1) := by decide +kernel
theorem dX10_fastest_63 : decode cX10_fastest 63 = .ok (.iload_n 1, 1) := by decide +kernel
theorem dX10_fastest_64 : decode cX10_fastest 64 = .ok (.iload_n 2, 1) := by decide +kernel
theorem dX10_fastest_65 : decode cX10_fastest 65 = .ok (.invokevirtual 71, 3) := by decide +kernel
theorem dX10_fastest_68 : decode cX10_fastest 68 = .ok (.aload_n 0, 1) := by decide +kernel
theorem dX10_fastest_69 : decode cX10_fastest 69 = .ok (.iload_n 1, 1) := by decide +kernel
theorem dX10_fastest_70 : decode cX10_fastest 70 = .ok (.iload_n 2, 1) := by decide +kernel
theorem dX10_fastest_71 : decode cX10_fastest 71 = .ok (.invokevirtual 113, 3) := by decide +kernel
theorem dX10_fastest_74 : decode cX10_fastest 74 = .ok (.isub, 1) := by decide +kernel
theorem dX10_fastest_75 : decode cX10_fastest 75 = .ok (.imul, 1) := by decide +kernel
theorem dX10_fastest_76 : decode cX10_fastest 76 = .ok (.aload_n 0, 1) := by decide +kernel
theorem dX10_fastest_77 : decode cX10_fastest 77 = .ok (.iload_n 1, 1) := by decide +kernel
theorem dX10_fastest_78 : decode cX10_fastest 78 = .ok (.iload_n 2, 1) := by decide +kernel
theorem dX10_fastest_79 : decode cX10_fastest 79 = .ok (.invokevirtual 107, 3) := by decide +kernel
theorem dX10_fastest_82 : decode cX10_fastest 82 = .ok (.aload_n 0, 1) := by decide +kernel
theorem dX10_fastest_83 : decode cX10_fastest 83 = .ok (.iload_n 1, 1) := by decide +kernel
theorem dX10_fastest_84 : decode cX10_fastest 84 = .ok (.iload_n 3, 1) := by decide +kernel
theorem dX10_fastest_85 : decode cX10_fastest 85 = .ok (.invokevirtual 71, 3) := by decide +kernel
theorem dX10_fastest_88 : decode cX10_fastest 88 = .ok (.aload_n 0, 1) := by decide +kernel
theorem dX10_fastest_89 : decode cX10_fastest 89 = .ok (.iload_n 1, 1) := by decide +kernel
theorem dX10_fastest_90 : decode cX10_fastest 90 = .ok (.iload_n 3, 1) := by decide +kernel
theorem dX10_fastest_91 : decode cX10_fastest 91 = .ok (.invokevirtual 113, 3) := by decide +kernel
theorem dX10_fastest_94 : decode cX10_fastest 94 = .ok (.isub, 1) := by decide +kernel
theorem dX10_fastest_95 : decode cX10_fastest 95 = .ok (.imul, 1) := by decide +kernel
theorem dX10_fastest_96 : decode cX10_fastest 96 = .ok (.if_icmp .le 7, 3) := by decide +kernel
theorem dX10_fastest_99 : decode cX10_fastest 99 = .ok (.iload_n 3, 1) := by decide +kernel
theorem dX10_fastest_100 : decode cX10_fastest 100 = .ok (.goto 4, 3) := by decide +kernel
theorem dX10_fastest_103 : decode cX10_fastest 103 = .ok (.iload_n 2, 1) := by decide +kernel
theorem dX10_fastest_104 : decode cX10_fastest 104 = .ok (.istore_n 2, 1) := by decide +kernel
theorem dX10_fastest_105 : decode cX10_fastest 105 = .ok (.iinc 3 1, 3) := by decide +kernel
theorem dX10_fastest_108 : decode cX10_fastest 108 = .ok (.goto (-72), 3) := by decide +kernel
theorem dX10_fastest_111 : decode cX10_fastest 111 = .ok (.iload_n 2, 1) := by decide +kernel
theorem dX10_fastest_112 : decode cX10_fastest 112 = .ok (.ireturn, 1) := by decide +kernel
theorem dX10_speed_0 : decode cX10_speed 0 = .ok (.aload_n 0, 1) := by decide +kernel
theorem dX10_speed_1 : decode cX10_speed 1 = .ok (.iload_n 1, 1) := by decide +kernel
theorem dX10_speed_2 : decode cX10_speed 2 = .ok (.invokestatic 52, 3) := by decide +kernel
theorem dX10_speed_5 : decode cX10_speed 5 = .ok (.ifCond .eq 23, 3) := by decide +kernel
theorem dX10_speed_8 : decode cX10_speed 8 = .ok (.aload_n 0, 1) := by decide +kernel
theorem dX10_speed_9 : decode cX10_speed 9 = .ok (.getfield 7, 3) := by decide +kernel
theorem dX10_speed_12 : decode cX10_speed 12 = .ok (.bipush 28, 2) := by decide +kernel
theorem dX10_speed_14 : decode cX10_speed 14 = .ok (.iload_n 1, 1) := by decide +kernel
theorem dX10_speed_15 : decode cX10_speed 15 = .ok (.iadd, 1) := by decide +kernel
theorem dX10_speed_16 : decode cX10_speed 16 = .ok (.iaload, 1) := by decide +kernel
theorem dX10_speed_17 : decode cX10_speed 17 = .ok (.ifCond .ne 7, 3) := by decide +kernel
theorem dX10_speed_20 : decode cX10_speed 20 = .ok (.iconst 2, 1) := by decide +kernel
theorem dX10_speed_21 : decode cX10_speed 21 = .ok (.goto 8, 3) := by decide +kernel
theorem dX10_speed_24 : decode cX10_speed 24 = .ok (.iconst 0, 1) := by decide +kernel
theorem dX10_speed_25 : decode cX10_speed 25 = .ok (.goto 4, 3) := by decide +kernel
theorem dX10_speed_28 : decode cX10_speed 28 = .ok (.iconst 1, 1) := by decide +kernel
theorem dX10_speed_29 : decode cX10_speed 29 = .ok (.putfield 35, 3) := by decide +kernel
theorem dX10_speed_32 : decode cX10_speed 32 = .ok (.aload_n 0, 1) := by decide +kernel
theorem dX10_speed_33 : decode cX10_speed 33 = .ok (.getfield 35, 3) := by decide +kernel
theorem dX10_speed_36 : decode cX10_speed 36 = .ok (.ifCond .le 7, 3) := by decide +kernel
theorem dX10_speed_39 : decode cX10_speed 39 = .ok (.dconst 0, 1) := by decide +kernel
theorem dX10_speed_40 : decode cX10_speed 40 = .ok (.goto 20, 3) := by decide +kernel
theorem dX10_speed_43 : decode cX10_speed 43 = .ok (.ldc2_w 209, 3) := by decide +kernel
theorem dX10_speed_46 : decode cX10_speed 46 = .ok (.aload_n 0, 1) := by decide +kernel
theorem dX10_speed_47 : decode cX10_speed 47 = .ok (.iload_n 1, 1) := by decide +kernel
theorem dX10_speed_48 : decode cX10_speed 48 = .ok (.invokevirtual 200, 3) := by decide +kernel
theorem dX10_speed_51 : decode cX10_speed 51 = .ok (.i2d, 1) := by decide +kernel
theorem dX10_speed_52 : decode cX10_speed 52 = .ok (.dmul, 1) := by decide +kernel
theorem dX10_speed_53 : decode cX10_speed 53 = .ok (.aload_n 0, 1) := by decide +kernel
theorem dX10_speed_54 : decode cX10_speed 54 = .ok (.iload_n 1, 1) := by decide +kernel
theorem dX10_speed_55 : decode cX10_speed 55 = .ok (.invokevirtual 197, 3) := by decide +kernel
theorem dX10_speed_58 : decode cX10_speed 58 = .ok (.i2d, 1) := by decide +kernel
theorem dX10_speed_59 : decode cX10_speed 59 = .ok (.ddiv, 1) := by decide +kernel
theorem dX10_speed_60 : decode cX10_speed 60 = .ok (.dreturn, 1) := by decide +kernel
theorem dX10_here_0 : decode cX10_here 0 = .ok (.aload_n 0, 1) := by decide +kernel
theorem dX10_here_1 : decode cX10_here 1 = .ok (.getfield 211, 3) := by decide +kernel
theorem dX10_here_4 : decode cX10_here 4 = .ok (.aload_n 0, 1) := by decide +kernel
theorem dX10_here_5 : decode cX10_here 5 = .ok (.getfield 137, 3) := by decide +kernel
theorem dX10_here_8 : decode cX10_here 8 = .ok (.if_icmp .ge 15, 3) := by decide +kernel
theorem dX10_here_11 : decode cX10_here 11 = .ok (.aload_n 0, 1) := by decide +kernel
theorem dX10_here_12 : decode cX10_here 12 = .ok (.getfield 29, 3) := by decide +kernel
theorem dX10_here_15 : decode cX10_here 15 = .ok (.aload_n 0, 1) := by decide +kernel
theorem dX10_here_16 : decode cX10_here 16 = .ok (.getfield 211, 3) := by decide +kernel
theorem dX10_here_19 : decode cX10_here 19 = .ok (.iaload, 1) := by decide +kernel
theorem dX10_here_20 : decode cX10_here 20 = .ok (.goto 4, 3) := by decide +kernel
theorem dX10_here_23 : decode cX10_here 23 = .ok (.iconst (-1), 1) := by decide +kernel
theorem dX10_here_24 : decode cX10_here 24 = .ok (.ireturn, 1) := by decide +kernel
theorem dX10_skips_0 : decode cX10_skips 0 = .ok (.aload_n 0, 1) := by decide +kernel
theorem dX10_skips_1 : decode cX10_skips 1 = .ok (.invokevirtual 214, 3) := by decide +kernel
theorem dX10_skips_4 : decode cX10_skips 4 = .ok (.iload_n 1, 1) := by decide +kernel
theorem dX10_skips_5 : decode cX10_skips 5 = .ok (.if_icmp .ne 7, 3) := by decide +kernel
theorem dX10_skips_8 : decode cX10_skips 8 = .ok (.iconst 1, 1) := by decide +kernel
theorem dX10_skips_9 : decode cX10_skips 9 = .ok (.goto 4, 3) := by decide +kernel
theorem dX10_skips_12 : decode cX10_skips 12 = .ok (.iconst 0, 1) := by decide +kernel
theorem dX10_skips_13 : decode cX10_skips 13 = .ok (.istore_n 2, 1) := by decide +kernel
theorem dX10_skips_14 : decode cX10_skips 14 = .ok (.aload_n 0, 1) := by decide +kernel
theorem dX10_skips_15 : decode cX10_skips 15 = .ok (.dup, 1) := by decide +kernel
theorem dX10_skips_16 : decode cX10_skips 16 = .ok (.getfield 211, 3) := by decide +kernel
theorem dX10_skips_19 : decode cX10_skips 19 = .ok (.iload_n 2, 1) := by decide +kernel
theorem dX10_skips_20 : decode cX10_skips 20 = .ok (.ifCond .eq 7, 3) := by decide +kernel
theorem dX10_skips_23 : decode cX10_skips 23 = .ok (.iconst 1, 1) := by decide +kernel
theorem dX10_skips_24 : decode cX10_skips 24 = .ok (.goto 4, 3) := by decide +kernel
theorem dX10_skips_27 : decode cX10_skips 27 = .ok (.iconst 0, 1) := by decide +kernel
theorem dX10_skips_28 : decode cX10_skips 28 = .ok (.iadd, 1) := by decide +kernel
theorem dX10_skips_29 : decode cX10_skips 29 = .ok (.putfield 211, 3) := by decide +kernel
theorem dX10_skips_32 : decode cX10_skips 32 = .ok (.iload_n 2, 1) := by decide +kernel
theorem dX10_skips_33 : decode cX10_skips 33 = .ok (.ireturn, 1) := by decide +kernel
theorem dX10_digits_0 : decode cX10_digits 0 = .ok (.aload_n 0, 1) := by decide +kernel
theorem dX10_digits_1 : decode cX10_digits 1 = .ok (.invokevirtual 214, 3) := by decide +kernel
theorem dX10_digits_4 : decode cX10_digits 4 = .ok (.bipush 48, 2) := by decide +kernel
theorem dX10_digits_6 : decode cX10_digits 6 = .ok (.bipush 57, 2) := by decide +kernel
theorem dX10_digits_8 : decode cX10_digits 8 = .ok (.invokestatic 48, 3) := by decide +kernel
theorem dX10_digits_11 : decode cX10_digits 11 = .ok (.ifCond .ne 5, 3) := by decide +kernel
theorem dX10_digits_14 : decode cX10_digits 14 = .ok (.iconst 0, 1) := by decide +kernel
theorem dX10_digits_15 : decode cX10_digits 15 = .ok (.ireturn, 1) := by decide +kernel
theorem dX10_digits_16 : decode cX10_digits 16 = .ok (.aload_n 0, 1) := by decide +kernel
theorem dX10_digits_17 : decode cX10_digits 17 = .ok (.iconst 0, 1) := by decide +kernel
theorem dX10_digits_18 : decode cX10_digits 18 = .ok (.putfield 217, 3) := by decide +kernel
theorem dX10_digits_21 : decode cX10_digits 21 = .ok (.iconst 0, 1) := by decide +kernel
theorem dX10_digits_22 : decode cX10_digits 22 = .ok (.istore_n 2, 1) := by decide +kernel
theorem dX10_digits_23 : decode cX10_digits 23 = .ok (.iload_n 2, 1) := by decide +kernel
theorem dX10_digits_24 : decode cX10_digits 24 = .ok (.iconst 4, 1) := by decide +kernel
theorem dX10_digits_25 : decode cX10_digits 25 = .ok (.if_icmp .ge 52, 3) := by decide +kernel
theorem dX10_digits_28 : decode cX10_digits 28 = .ok (.aload_n 0, 1) := by decide +kernel
theorem dX10_digits_29 : decode cX10_digits 29 = .ok (.invokevirtual 214, 3) := by decide +kernel
theorem dX10_digits_32 : decode cX10_digits 32 = .ok (.bipush 48, 2) := by decide +kernel
theorem dX10_digits_34 : decode cX10_digits 34 = .ok (.bipush 57, 2) := by decide +kernel
theorem dX10_digits_36 : decode cX10_digits 36 = .ok (.invokestatic 48, 3) := by decide +kernel
theorem dX10_digits_39 : decode cX10_digits 39 = .ok (.ifCond .eq 38, 3) := by decide +kernel
theorem dX10_digits_42 : decode cX10_digits 42 = .ok (.aload_n 0, 1) := by decide +kernel
theorem dX10_digits_43 : decode cX10_digits 43 = .ok (.bipush 10, 2) := by decide +kernel
theorem dX10_digits_45 : decode cX10_digits 45 = .ok (.aload_n 0, 1) := by decide +kernel
theorem dX10_digits_46 : decode cX10_digits 46 = .ok (.getfield 217, 3) := by decide +kernel
theorem dX10_digits_49 : decode cX10_digits 49 = .ok (.imul, 1) := by decide +kernel
theorem dX10_digits_50 : decode cX10_digits 50 = .ok (.aload_n 0, 1) := by decide +kernel
theorem dX10_digits_51 : decode cX10_digits 51 = .ok (.invokevirtual 214, 3) := by decide +kernel
theorem dX10_digits_54 : decode cX10_digits 54 = .ok (.iadd, 1) := by decide +kernel
theorem dX10_digits_55 : decode cX10_digits 55 = .ok (.bipush 48, 2) := by decide +kernel
theorem dX10_digits_57 : decode cX10_digits 57 = .ok (.isub, 1) := by decide +kernel
theorem dX10_digits_58 : decode cX10_digits 58 = .ok (.putfield 217, 3) := by decide +kernel
theorem dX10_digits_61 : decode cX10_digits 61 = .ok (.aload_n 0, 1) := by decide +kernel
theorem dX10_digits_62 : decode cX10_digits 62 = .ok (.dup, 1) := by decide +kernel
theorem dX10_digits_63 : decode cX10_digits 63 = .ok (.getfield 211, 3) := by decide +kernel
theorem dX10_digits_66 : decode cX10_digits 66 = .ok (.iconst 1, 1) := by decide +kernel
theorem dX10_digits_67 : decode cX10_digits 67 = .ok (.iadd, 1) := by decide +kernel
theorem dX10_digits_68 : decode cX10_digits 68 = .ok (.putfield 211, 3) := by decide +kernel
theorem dX10_digits_71 : decode cX10_digits 71 = .ok (.iinc 2 1, 3) := by decide +kernel
theorem dX10_digits_74 : decode cX10_digits 74 = .ok (.goto (-51), 3) := by decide +kernel
theorem dX10_digits_77 : decode cX10_digits 77 = .ok (.aload_n 0, 1) := by decide +kernel
theorem dX10_digits_78 : decode cX10_digits 78 = .ok (.getfield 32, 3) := by decide +kernel
theorem dX10_digits_81 : decode cX10_digits 81 = .ok (.iload_n 1, 1) := by decide +kernel
theorem dX10_digits_82 : decode cX10_digits 82 = .ok (.aload_n 0, 1) := by decide +kernel
theorem dX10_digits_83 : decode cX10_digits 83 = .ok (.getfield 217, 3) := by decide +kernel
theorem dX10_digits_86 : decode cX10_digits 86 = .ok (.iastore, 1) := by decide +kernel
theorem dX10_digits_87 : decode cX10_digits 87 = .ok (.iconst 1, 1) := by decide +kernel
theorem dX10_digits_88 : decode cX10_digits 88 = .ok (.ireturn, 1) := by decide +kernel
theorem dX10_words_0 : decode cX10_words 0 = .ok (.aload_n 0, 1) := by decide +kernel
theorem dX10_words_1 : decode cX10_words 1 = .ok (.getfield 32, 3) := by decide +kernel
theorem dX10_words_4 : decode cX10_words 4 = .ok (.iload_n 1, 1) := by decide +kernel
theorem dX10_words_5 : decode cX10_words 5 = .ok (.iconst 4, 1) := by decide +kernel
theorem dX10_words_6 : decode cX10_words 6 = .ok (.iadd, 1) := by decide +kernel
theorem dX10_words_7 : decode cX10_words 7 = .ok (.aload_n 0, 1) := by decide +kernel
theorem dX10_words_8 : decode cX10_words 8 = .ok (.getfield 211, 3) := by decide +kernel
theorem dX10_words_11 : decode cX10_words 11 = .ok (.iastore, 1) := by decide +kernel
theorem dX10_words_12 : decode cX10_words 12 = .ok (.aload_n 0, 1) := by decide +kernel
theorem dX10_words_13 : decode cX10_words 13 = .ok (.invokevirtual 214, 3) := by decide +kernel
theorem dX10_words_16 : decode cX10_words 16 = .ok (.invokestatic 100, 3) := by decide +kernel
theorem dX10_words_19 : decode cX10_words 19 = .ok (.ifCond .eq 34, 3) := by decide +kernel
theorem dX10_words_22 : decode cX10_words 22 = .ok (.aload_n 0, 1) := by decide +kernel
theorem dX10_words_23 : decode cX10_words 23 = .ok (.getfield 211, 3) := by decide +kernel
theorem dX10_words_26 : decode cX10_words 26 = .ok (.aload_n 0, 1) := by decide +kernel
theorem dX10_words_27 : decode cX10_words 27 = .ok (.getfield 32, 3) := by decide +kernel
theorem dX10_words_30 : decode cX10_words 30 = .ok (.iload_n 1, 1) := by decide +kernel
theorem dX10_words_31 : decode cX10_words 31 = .ok (.iconst 4, 1) := by decide +kernel
theorem dX10_words_32 : decode cX10_words 32 = .ok (.iadd, 1) := by decide +kernel
theorem dX10_words_33 : decode cX10_words 33 = .ok (.iaload, 1) := by decide +kernel
theorem dX10_words_34 : decode cX10_words 34 = .ok (.isub, 1) := by decide +kernel
theorem dX10_words_35 : decode cX10_words 35 = .ok (.bipush 24, 2) := by decide +kernel
theorem dX10_words_37 : decode cX10_words 37 = .ok (.if_icmp .ge 16, 3) := by decide +kernel
theorem dX10_words_40 : decode cX10_words 40 = .ok (.aload_n 0, 1) := by decide +kernel
theorem dX10_words_41 : decode cX10_words 41 = .ok (.dup, 1) := by decide +kernel
theorem dX10_words_42 : decode cX10_words 42 = .ok (.getfield 211, 3) := by decide +kernel
theorem dX10_words_45 : decode cX10_words 45 = .ok (.iconst 1, 1) := by decide +kernel
theorem dX10_words_46 : decode cX10_words 46 = .ok (.iadd, 1) := by decide +kernel
theorem dX10_words_47 : decode cX10_words 47 = .ok (.putfield 211, 3) := by decide +kernel
theorem dX10_words_50 : decode cX10_words 50 = .ok (.goto (-38), 3) := by decide +kernel
theorem dX10_words_53 : decode cX10_words 53 = .ok (.aload_n 0, 1) := by decide +kernel
theorem dX10_words_54 : decode cX10_words 54 = .ok (.getfield 32, 3) := by decide +kernel
theorem dX10_words_57 : decode cX10_words 57 = .ok (.iload_n 1, 1) := by decide +kernel
theorem dX10_words_58 : decode cX10_words 58 = .ok (.iconst 5, 1) := by decide +kernel
theorem dX10_words_59 : decode cX10_words 59 = .ok (.iadd, 1) := by decide +kernel
theorem dX10_words_60 : decode cX10_words 60 = .ok (.aload_n 0, 1) := by decide +kernel
theorem dX10_words_61 : decode cX10_words 61 = .ok (.getfield 211, 3) := by decide +kernel
theorem dX10_words_64 : decode cX10_words 64 = .ok (.aload_n 0, 1) := by decide +kernel
theorem dX10_words_65 : decode cX10_words 65 = .ok (.getfield 32, 3) := by decide +kernel
theorem dX10_words_68 : decode cX10_words 68 = .ok (.iload_n 1, 1) := by decide +kernel
theorem dX10_words_69 : decode cX10_words 69 = .ok (.iconst 4, 1) := by decide +kernel
theorem dX10_words_70 : decode cX10_words 70 = .ok (.iadd, 1) := by decide +kernel
theorem dX10_words_71 : decode cX10_words 71 = .ok (.iaload, 1) := by decide +kernel
theorem dX10_words_72 : decode cX10_words 72 = .ok (.isub, 1) := by decide +kernel
theorem dX10_words_73 : decode cX10_words 73 = .ok (.iastore, 1) := by decide +kernel
theorem dX10_words_74 : decode cX10_words 74 = .ok (.aload_n 0, 1) := by decide +kernel
theorem dX10_words_75 : decode cX10_words 75 = .ok (.getfield 32, 3) := by decide +kernel
theorem dX10_words_78 : decode cX10_words 78 = .ok (.iload_n 1, 1) := by decide +kernel
theorem dX10_words_79 : decode cX10_words 79 = .ok (.iconst 5, 1) := by decide +kernel
theorem dX10_words_80 : decode cX10_words 80 = .ok (.iadd, 1) := by decide +kernel
theorem dX10_words_81 : decode cX10_words 81 = .ok (.iaload, 1) := by decide +kernel
theorem dX10_words_82 : decode cX10_words 82 = .ok (.ifCond .le 7, 3) := by decide +kernel
theorem dX10_words_85 : decode cX10_words 85 = .ok (.iconst 1, 1) := by decide +kernel
theorem dX10_words_86 : decode cX10_words 86 = .ok (.goto 4, 3) := by decide +kernel
theorem dX10_words_89 : decode cX10_words 89 = .ok (.iconst 0, 1) := by decide +kernel
theorem dX10_words_90 : decode cX10_words 90 = .ok (.ireturn, 1) := by decide +kernel
theorem dX10_item_0 : decode cX10_item 0 = .ok (.bipush 6, 2) := by decide +kernel
theorem dX10_item_2 : decode cX10_item 2 = .ok (.aload_n 0, 1) := by decide +kernel
theorem dX10_item_3 : decode cX10_item 3 = .ok (.getfield 220, 3) := by decide +kernel
theorem dX10_item_6 : decode cX10_item 6 = .ok (.imul, 1) := by decide +kernel
theorem dX10_item_7 : decode cX10_item 7 = .ok (.istore_n 1, 1) := by decide +kernel
theorem dX10_item_8 : decode cX10_item 8 = .ok (.aload_n 0, 1) := by decide +kernel
theorem dX10_item_9 : decode cX10_item 9 = .ok (.invokevirtual 214, 3) := by decide +kernel
theorem dX10_item_12 : decode cX10_item 12 = .ok (.istore_n 2, 1) := by decide +kernel
theorem dX10_item_13 : decode cX10_item 13 = .ok (.iload_n 2, 1) := by decide +kernel
theorem dX10_item_14 : decode cX10_item 14 = .ok (.bipush 97, 2) := by decide +kernel
theorem dX10_item_16 : decode cX10_item 16 = .ok (.if_icmp .eq 23, 3) := by decide +kernel
theorem dX10_item_19 : decode cX10_item 19 = .ok (.iload_n 2, 1) := by decide +kernel
theorem dX10_item_20 : decode cX10_item 20 = .ok (.bipush 98, 2) := by decide +kernel
theorem dX10_item_22 : decode cX10_item 22 = .ok (.if_icmp .eq 17, 3) := by decide +kernel
theorem dX10_item_25 : decode cX10_item 25 = .ok (.iload_n 2, 1) := by decide +kernel
theorem dX10_item_26 : decode cX10_item 26 = .ok (.bipush 99, 2) := by decide +kernel
theorem dX10_item_28 : decode cX10_item 28 = .ok (.if_icmp .eq 11, 3) := by decide +kernel
theorem dX10_item_31 : decode cX10_item 31 = .ok (.iload_n 2, 1) := by decide +kernel
theorem dX10_item_32 : decode cX10_item 32 = .ok (.bipush 117, 2) := by decide +kernel
theorem dX10_item_34 : decode cX10_item 34 = .ok (.if_icmp .eq 5, 3) := by decide +kernel
theorem dX10_item_37 : decode cX10_item 37 = .ok (.iconst 0, 1) := by decide +kernel
theorem dX10_item_38 : decode cX10_item 38 = .ok (.ireturn, 1) := by decide +kernel
theorem dX10_item_39 : decode cX10_item 39 = .ok (.aload_n 0, 1) := by decide +kernel
theorem dX10_item_40 : decode cX10_item 40 = .ok (.getfield 32, 3) := by decide +kernel
theorem dX10_item_43 : decode cX10_item 43 = .ok (.iload_n 1, 1) := by decide +kernel
theorem dX10_item_44 : decode cX10_item 44 = .ok (.iload_n 2, 1) := by decide +kernel
theorem dX10_item_45 : decode cX10_item 45 = .ok (.iastore, 1) := by decide +kernel
theorem dX10_item_46 : decode cX10_item 46 = .ok (.aload_n 0, 1) := by decide +kernel
theorem dX10_item_47 : decode cX10_item 47 = .ok (.dup, 1) := by decide +kernel
theorem dX10_item_48 : decode cX10_item 48 = .ok (.getfield 211, 3) := by decide +kernel
theorem dX10_item_51 : decode cX10_item 51 = .ok (.iconst 1, 1) := by decide +kernel
theorem dX10_item_52 : decode cX10_item 52 = .ok (.iadd, 1) := by decide +kernel
theorem dX10_item_53 : decode cX10_item 53 = .ok (.putfield 211, 3) := by decide +kernel
theorem dX10_item_56 : decode cX10_item 56 = .ok (.aload_n 0, 1) := by decide +kernel
theorem dX10_item_57 : decode cX10_item 57 = .ok (.dup, 1) := by decide +kernel
theorem dX10_item_58 : decode cX10_item 58 = .ok (.getfield 220, 3) := by decide +kernel
theorem dX10_item_61 : decode cX10_item 61 = .ok (.iconst 1, 1) := by decide +kernel
theorem dX10_item_62 : decode cX10_item 62 = .ok (.iadd, 1) := by decide +kernel
theorem dX10_item_63 : decode cX10_item 63 = .ok (.putfield 220, 3) := by decide +kernel
theorem dX10_item_66 : decode cX10_item 66 = .ok (.iload_n 2, 1) := by decide +kernel
theorem dX10_item_67 : decode cX10_item 67 = .ok (.bipush 99, 2) := by decide +kernel
theorem dX10_item_69 : decode cX10_item 69 = .ok (.if_icmp .eq 9, 3) := by decide +kernel
theorem dX10_item_72 : decode cX10_item 72 = .ok (.iload_n 2, 1) := by decide +kernel
theorem dX10_item_73 : decode cX10_item 73 = .ok (.bipush 117, 2) := by decide +kernel
theorem dX10_item_75 : decode cX10_item 75 = .ok (.if_icmp .ne 11, 3) := by decide +kernel
theorem dX10_item_78 : decode cX10_item 78 = .ok (.aload_n 0, 1) := by decide +kernel
theorem dX10_item_79 : decode cX10_item 79 = .ok (.iload_n 1, 1) := by decide +kernel
theorem dX10_item_80 : decode cX10_item 80 = .ok (.iconst 2, 1) := by decide +kernel
theorem dX10_item_81 : decode cX10_item 81 = .ok (.iadd, 1) := by decide +kernel
theorem dX10_item_82 : decode cX10_item 82 = .ok (.invokevirtual 223, 3) := by decide +kernel
theorem dX10_item_85 : decode cX10_item 85 = .ok (.ireturn, 1) := by decide +kernel
theorem dX10_item_86 : decode cX10_item 86 = .ok (.aload_n 0, 1) := by decide +kernel
theorem dX10_item_87 : decode cX10_item 87 = .ok (.invokevirtual 214, 3) := by decide +kernel
theorem dX10_item_90 : decode cX10_item 90 = .ok (.bipush 46, 2) := by decide +kernel
theorem dX10_item_92 : decode cX10_item 92 = .ok (.if_icmp .ne 7, 3) := by decide +kernel
theorem dX10_item_95 : decode cX10_item 95 = .ok (.iconst 0, 1) := by decide +kernel
theorem dX10_item_96 : decode cX10_item 96 = .ok (.goto 30, 3) := by decide +kernel
theorem dX10_item_99 : decode cX10_item 99 = .ok (.aload_n 0, 1) := by decide +kernel
theorem dX10_item_100 : decode cX10_item 100 = .ok (.invokevirtual 214, 3) := by decide +kernel
theorem dX10_item_103 : decode cX10_item 103 = .ok (.bipush 33, 2) := by decide +kernel
theorem dX10_item_105 : decode cX10_item 105 = .ok (.if_icmp .ne 7, 3) := by decide +kernel
theorem dX10_item_108 : decode cX10_item 108 = .ok (.iconst 1, 1) := by decide +kernel
theorem dX10_item_109 : decode cX10_item 109 = .ok (.goto 17, 3) := by decide +kernel
theorem dX10_item_112 : decode cX10_item 112 = .ok (.aload_n 0, 1) := by decide +kernel
theorem dX10_item_113 : decode cX10_item 113 = .ok (.invokevirtual 214, 3) := by decide +kernel
theorem dX10_item_116 : decode cX10_item 116 = .ok (.bipush 42, 2) := by decide +kernel
theorem dX10_item_118 : decode cX10_item 118 = .ok (.if_icmp .ne 7, 3) := by decide +kernel
theorem dX10_item_121 : decode cX10_item 121 = .ok (.iconst 2, 1) := by decide +kernel
theorem dX10_item_122 : decode cX10_item 122 = .ok (.goto 4, 3) := by decide +kernel
theorem dX10_item_125 : decode cX10_item 125 = .ok (.iconst (-1), 1) := by decide +kernel
theorem dX10_item_126 : decode cX10_item 126 = .ok (.istore_n 3, 1) := by decide +kernel
theorem dX10_item_127 : decode cX10_item 127 = .ok (.iload_n 3, 1) := by decide +kernel
theorem dX10_item_128 : decode cX10_item 128 = .ok (.ifCond .ge 5, 3) := by decide +kernel
theorem dX10_item_131 : decode cX10_item 131 = .ok (.iconst 0, 1) := by decide +kernel
theorem dX10_item_132 : decode cX10_item 132 = .ok (.ireturn, 1) := by decide +kernel
theorem dX10_item_133 : decode cX10_item 133 = .ok (.aload_n 0, 1) := by decide +kernel
theorem dX10_item_134 : decode cX10_item 134 = .ok (.getfield 32, 3) := by decide +kernel
theorem dX10_item_137 : decode cX10_item 137 = .ok (.iload_n 1, 1) := by decide +kernel
theorem dX10_item_138 : decode cX10_item 138 = .ok (.iconst 1, 1) := by decide +kernel
theorem dX10_item_139 : decode cX10_item 139 = .ok (.iadd, 1) := by decide +kernel
theorem dX10_item_140 : decode cX10_item 140 = .ok (.iload_n 3, 1) := by decide +kernel
theorem dX10_item_141 : decode cX10_item 141 = .ok (.iastore, 1) := by decide +kernel
theorem dX10_item_142 : decode cX10_item 142 = .ok (.aload_n 0, 1) := by decide +kernel
theorem dX10_item_143 : decode cX10_item 143 = .ok (.dup, 1) := by decide +kernel
theorem dX10_item_144 : decode cX10_item 144 = .ok (.getfield 211, 3) := by decide +kernel
theorem dX10_item_147 : decode cX10_item 147 = .ok (.iconst 1, 1) := by decide +kernel
theorem dX10_item_148 : decode cX10_item 148 = .ok (.iadd, 1) := by decide +kernel
theorem dX10_item_149 : decode cX10_item 149 = .ok (.putfield 211, 3) := by decide +kernel
theorem dX10_item_152 : decode cX10_item 152 = .ok (.aload_n 0, 1) := by decide +kernel
theorem dX10_item_153 : decode cX10_item 153 = .ok (.iload_n 1, 1) := by decide +kernel
theorem dX10_item_154 : decode cX10_item 154 = .ok (.iconst 2, 1) := by decide +kernel
theorem dX10_item_155 : decode cX10_item 155 = .ok (.iadd, 1) := by decide +kernel
theorem dX10_item_156 : decode cX10_item 156 = .ok (.invokevirtual 223, 3) := by decide +kernel
theorem dX10_item_159 : decode cX10_item 159 = .ok (.ifCond .eq 43, 3) := by decide +kernel
theorem dX10_item_162 : decode cX10_item 162 = .ok (.aload_n 0, 1) := by decide +kernel
theorem dX10_item_163 : decode cX10_item 163 = .ok (.bipush 45, 2) := by decide +kernel
theorem dX10_item_165 : decode cX10_item 165 = .ok (.invokevirtual 226, 3) := by decide +kernel
theorem dX10_item_168 : decode cX10_item 168 = .ok (.ifCond .eq 34, 3) := by decide +kernel
theorem dX10_item_171 : decode cX10_item 171 = .ok (.aload_n 0, 1) := by decide +kernel
theorem dX10_item_172 : decode cX10_item 172 = .ok (.iload_n 1, 1) := by decide +kernel
theorem dX10_item_173 : decode cX10_item 173 = .ok (.iconst 3, 1) := by decide +kernel
theorem dX10_item_174 : decode cX10_item 174 = .ok (.iadd, 1) := by decide +kernel
theorem dX10_item_175 : decode cX10_item 175 = .ok (.invokevirtual 223, 3) := by decide +kernel
theorem dX10_item_178 : decode cX10_item 178 = .ok (.ifCond .eq 24, 3) := by decide +kernel
theorem dX10_item_181 : decode cX10_item 181 = .ok (.aload_n 0, 1) := by decide +kernel
theorem dX10_item_182 : decode cX10_item 182 = .ok (.bipush 58, 2) := by decide +kernel
theorem dX10_item_184 : decode cX10_item 184 = .ok (.invokevirtual 226, 3) := by decide +kernel
theorem dX10_item_187 : decode cX10_item 187 = .ok (.ifCond .eq 15, 3) := by decide +kernel
theorem dX10_item_190 : decode cX10_item 190 = .ok (.aload_n 0, 1) := by decide +kernel
theorem dX10_item_191 : decode cX10_item 191 = .ok (.iload_n 1, 1) := by decide +kernel
theorem dX10_item_192 : decode cX10_item 192 = .ok (.invokevirtual 229, 3) := by decide +kernel
theorem dX10_item_195 : decode cX10_item 195 = .ok (.ifCond .eq 7, 3) := by decide +kernel
theorem dX10_item_198 : decode cX10_item 198 = .ok (.iconst 1, 1) := by decide +kernel
theorem dX10_item_199 : decode cX10_item 199 = .ok (.goto 4, 3) := by decide +kernel
theorem dX10_item_202 : decode cX10_item 202 = .ok (.iconst 0, 1) := by decide +kernel
theorem dX10_item_203 : decode cX10_item 203 = .ok (.ireturn, 1) := by decide +kernel
theorem dX10_isItems_0 : decode cX10_isItems 0 = .ok (.aload_n 0, 1) := by decide +kernel
theorem dX10_isItems_1 : decode cX10_isItems 1 = .ok (.iconst 0, 1) := by decide +kernel
theorem dX10_isItems_2 : decode cX10_isItems 2 = .ok (.putfield 211, 3) := by decide +kernel
theorem dX10_isItems_5 : decode cX10_isItems 5 = .ok (.aload_n 0, 1) := by decide +kernel
theorem dX10_isItems_6 : decode cX10_isItems 6 = .ok (.iconst 0, 1) := by decide +kernel
theorem dX10_isItems_7 : decode cX10_isItems 7 = .ok (.putfield 220, 3) := by decide +kernel
theorem dX10_isItems_10 : decode cX10_isItems 10 = .ok (.aload_n 0, 1) := by decide +kernel
theorem dX10_isItems_11 : decode cX10_isItems 11 = .ok (.invokevirtual 232, 3) := by decide +kernel
theorem dX10_isItems_14 : decode cX10_isItems 14 = .ok (.ifCond .ne 5, 3) := by decide +kernel
theorem dX10_isItems_17 : decode cX10_isItems 17 = .ok (.iconst 0, 1) := by decide +kernel
theorem dX10_isItems_18 : decode cX10_isItems 18 = .ok (.ireturn, 1) := by decide +kernel
theorem dX10_isItems_19 : decode cX10_isItems 19 = .ok (.aload_n 0, 1) := by decide +kernel
theorem dX10_isItems_20 : decode cX10_isItems 20 = .ok (.bipush 59, 2) := by decide +kernel
theorem dX10_isItems_22 : decode cX10_isItems 22 = .ok (.invokevirtual 226, 3) := by decide +kernel
theorem dX10_isItems_25 : decode cX10_isItems 25 = .ok (.ifCond .ne (-15), 3) := by decide +kernel
theorem dX10_isItems_28 : decode cX10_isItems 28 = .ok (.aload_n 0, 1) := by decide +kernel
theorem dX10_isItems_29 : decode cX10_isItems 29 = .ok (.getfield 211, 3) := by decide +kernel
theorem dX10_isItems_32 : decode cX10_isItems 32 = .ok (.aload_n 0, 1) := by decide +kernel
theorem dX10_isItems_33 : decode cX10_isItems 33 = .ok (.getfield 137, 3) := by decide +kernel
theorem dX10_isItems_36 : decode cX10_isItems 36 = .ok (.if_icmp .ne 7, 3) := by decide +kernel
theorem dX10_isItems_39 : decode cX10_isItems 39 = .ok (.iconst 1, 1) := by decide +kernel
theorem dX10_isItems_40 : decode cX10_isItems 40 = .ok (.goto 4, 3) := by decide +kernel
theorem dX10_isItems_43 : decode cX10_isItems 43 = .ok (.iconst 0, 1) := by decide +kernel
theorem dX10_isItems_44 : decode cX10_isItems 44 = .ok (.ireturn, 1) := by decide +kernel
theorem dX10_does_0 : decode cX10_does 0 = .ok (.bipush 6, 2) := by decide +kernel
theorem dX10_does_2 : decode cX10_does 2 = .ok (.iload_n 1, 1) := by decide +kernel
theorem dX10_does_3 : decode cX10_does 3 = .ok (.imul, 1) := by decide +kernel
theorem dX10_does_4 : decode cX10_does 4 = .ok (.istore_n 2, 1) := by decide +kernel
theorem dX10_does_5 : decode cX10_does 5 = .ok (.aload_n 0, 1) := by decide +kernel
theorem dX10_does_6 : decode cX10_does 6 = .ok (.getfield 32, 3) := by decide +kernel
theorem dX10_does_9 : decode cX10_does 9 = .ok (.iload_n 2, 1) := by decide +kernel
theorem dX10_does_10 : decode cX10_does 10 = .ok (.iaload, 1) := by decide +kernel
theorem dX10_does_11 : decode cX10_does 11 = .ok (.bipush 99, 2) := by decide +kernel
theorem dX10_does_13 : decode cX10_does 13 = .ok (.if_icmp .eq 14, 3) := by decide +kernel
theorem dX10_does_16 : decode cX10_does 16 = .ok (.aload_n 0, 1) := by decide +kernel
theorem dX10_does_17 : decode cX10_does 17 = .ok (.getfield 32, 3) := by decide +kernel
theorem dX10_does_20 : decode cX10_does 20 = .ok (.iload_n 2, 1) := by decide +kernel
theorem dX10_does_21 : decode cX10_does 21 = .ok (.iaload, 1) := by decide +kernel
theorem dX10_does_22 : decode cX10_does 22 = .ok (.bipush 117, 2) := by decide +kernel
theorem dX10_does_24 : decode cX10_does 24 = .ok (.if_icmp .ne 66, 3) := by decide +kernel
theorem dX10_does_27 : decode cX10_does 27 = .ok (.aload_n 0, 1) := by decide +kernel
theorem dX10_does_28 : decode cX10_does 28 = .ok (.aload_n 0, 1) := by decide +kernel
theorem dX10_does_29 : decode cX10_does 29 = .ok (.getfield 32, 3) := by decide +kernel
theorem dX10_does_32 : decode cX10_does 32 = .ok (.iload_n 2, 1) := by decide +kernel
theorem dX10_does_33 : decode cX10_does 33 = .ok (.iconst 2, 1) := by decide +kernel
theorem dX10_does_34 : decode cX10_does 34 = .ok (.iadd, 1) := by decide +kernel
theorem dX10_does_35 : decode cX10_does 35 = .ok (.iaload, 1) := by decide +kernel
theorem dX10_does_36 : decode cX10_does 36 = .ok (.aload_n 0, 1) := by decide +kernel
theorem dX10_does_37 : decode cX10_does 37 = .ok (.getfield 32, 3) := by decide +kernel
theorem dX10_does_40 : decode cX10_does 40 = .ok (.iload_n 2, 1) := by decide +kernel
theorem dX10_does_41 : decode cX10_does 41 = .ok (.iaload, 1) := by decide +kernel
theorem dX10_does_42 : decode cX10_does 42 = .ok (.bipush 99, 2) := by decide +kernel
theorem dX10_does_44 : decode cX10_does 44 = .ok (.if_icmp .ne 7, 3) := by decide +kernel
theorem dX10_does_47 : decode cX10_does 47 = .ok (.iconst 1, 1) := by decide +kernel
theorem dX10_does_48 : decode cX10_does 48 = .ok (.goto 4, 3) := by decide +kernel
theorem dX10_does_51 : decode cX10_does 51 = .ok (.iconst 0, 1) := by decide +kernel
theorem dX10_does_52 : decode cX10_does 52 = .ok (.invokevirtual 89, 3) := by decide +kernel
theorem dX10_does_55 : decode cX10_does 55 = .ok (.istore_n 3, 1) := by decide +kernel
theorem dX10_does_56 : decode cX10_does 56 = .ok (.iload_n 3, 1) := by decide +kernel
theorem dX10_does_57 : decode cX10_does 57 = .ok (.ifCond .ne 31, 3) := by decide +kernel
theorem dX10_does_60 : decode cX10_does 60 = .ok (.aload_n 0, 1) := by decide +kernel
theorem dX10_does_61 : decode cX10_does 61 = .ok (.aload_n 0, 1) := by decide +kernel
theorem dX10_does_62 : decode cX10_does 62 = .ok (.getfield 32, 3) := by decide +kernel
theorem dX10_does_65 : decode cX10_does 65 = .ok (.iload_n 2, 1) := by decide +kernel
theorem dX10_does_66 : decode cX10_does 66 = .ok (.iconst 2, 1) := by decide +kernel
theorem dX10_does_67 : decode cX10_does 67 = .ok (.iadd, 1) := by decide +kernel
theorem dX10_does_68 : decode cX10_does 68 = .ok (.iaload, 1) := by decide +kernel
theorem dX10_does_69 : decode cX10_does 69 = .ok (.aload_n 0, 1) := by decide +kernel
theorem dX10_does_70 : decode cX10_does 70 = .ok (.getfield 32, 3) := by decide +kernel
theorem dX10_does_73 : decode cX10_does 73 = .ok (.iload_n 2, 1) := by decide +kernel
theorem dX10_does_74 : decode cX10_does 74 = .ok (.iaload, 1) := by decide +kernel
theorem dX10_does_75 : decode cX10_does 75 = .ok (.bipush 99, 2) := by decide +kernel
theorem dX10_does_77 : decode cX10_does 77 = .ok (.if_icmp .ne 7, 3) := by decide +kernel
theorem dX10_does_80 : decode cX10_does 80 = .ok (.iconst 1, 1) := by decide +kernel
theorem dX10_does_81 : decode cX10_does 81 = .ok (.goto 4, 3) := by decide +kernel
theorem dX10_does_84 : decode cX10_does 84 = .ok (.iconst 0, 1) := by decide +kernel
theorem dX10_does_85 : decode cX10_does 85 = .ok (.invokevirtual 93, 3) := by decide +kernel
theorem dX10_does_88 : decode cX10_does 88 = .ok (.iload_n 3, 1) := by decide +kernel
theorem dX10_does_89 : decode cX10_does 89 = .ok (.ireturn, 1) := by decide +kernel
theorem dX10_does_90 : decode cX10_does 90 = .ok (.aload_n 0, 1) := by decide +kernel
theorem dX10_does_91 : decode cX10_does 91 = .ok (.getfield 32, 3) := by decide +kernel
theorem dX10_does_94 : decode cX10_does 94 = .ok (.iload_n 2, 1) := by decide +kernel
theorem dX10_does_95 : decode cX10_does 95 = .ok (.iaload, 1) := by decide +kernel
theorem dX10_does_96 : decode cX10_does 96 = .ok (.bipush 97, 2) := by decide +kernel
theorem dX10_does_98 : decode cX10_does 98 = .ok (.isub, 1) := by decide +kernel
theorem dX10_does_99 : decode cX10_does 99 = .ok (.istore_n 3, 1) := by decide +kernel
theorem dX10_does_100 : decode cX10_does 100 = .ok (.aload_n 0, 1) := by decide +kernel
theorem dX10_does_101 : decode cX10_does 101 = .ok (.iload_n 3, 1) := by decide +kernel
theorem dX10_does_102 : decode cX10_does 102 = .ok (.aload_n 0, 1) := by decide +kernel
theorem dX10_does_103 : decode cX10_does 103 = .ok (.getfield 32, 3) := by decide +kernel
theorem dX10_does_106 : decode cX10_does 106 = .ok (.iload_n 2, 1) := by decide +kernel
theorem dX10_does_107 : decode cX10_does 107 = .ok (.iconst 2, 1) := by decide +kernel
theorem dX10_does_108 : decode cX10_does 108 = .ok (.iadd, 1) := by decide +kernel
theorem dX10_does_109 : decode cX10_does 109 = .ok (.iaload, 1) := by decide +kernel
theorem dX10_does_110 : decode cX10_does 110 = .ok (.aload_n 0, 1) := by decide +kernel
theorem dX10_does_111 : decode cX10_does 111 = .ok (.getfield 32, 3) := by decide +kernel
theorem dX10_does_114 : decode cX10_does 114 = .ok (.iload_n 2, 1) := by decide +kernel
theorem dX10_does_115 : decode cX10_does 115 = .ok (.iconst 3, 1) := by decide +kernel
theorem dX10_does_116 : decode cX10_does 116 = .ok (.iadd, 1) := by decide +kernel
theorem dX10_does_117 : decode cX10_does 117 = .ok (.iaload, 1) := by decide +kernel
theorem dX10_does_118 : decode cX10_does 118 = .ok (.aload_n 0, 1) := by decide +kernel
theorem dX10_does_119 : decode cX10_does 119 = .ok (.getfield 32, 3) := by decide +kernel
theorem dX10_does_122 : decode cX10_does 122 = .ok (.iload_n 2, 1) := by decide +kernel
theorem dX10_does_123 : decode cX10_does 123 = .ok (.iconst 4, 1) := by decide +kernel
theorem dX10_does_124 : decode cX10_does 124 = .ok (.iadd, 1) := by decide +kernel
theorem dX10_does_125 : decode cX10_does 125 = .ok (.iaload, 1) := by decide +kernel
theorem dX10_does_126 : decode cX10_does 126 = .ok (.aload_n 0, 1) := by decide +kernel
theorem dX10_does_127 : decode cX10_does 127 = .ok (.getfield 32, 3) := by decide +kernel
theorem dX10_does_130 : decode cX10_does 130 = .ok (.iload_n 2, 1) := by decide +kernel
theorem dX10_does_131 : decode cX10_does 131 = .ok (.iconst 5, 1) := by decide +kernel
theorem dX10_does_132 : decode cX10_does 132 = .ok (.iadd, 1) := by decide +kernel
theorem dX10_does_133 : decode cX10_does 133 = .ok (.iaload, 1) := by decide +kernel
theorem dX10_does_134 : decode cX10_does 134 = .ok (.invokevirtual 151, 3) := by decide +kernel
theorem dX10_does_137 : decode cX10_does 137 = .ok (.istore 4, 2) := by decide +kernel
theorem dX10_does_139 : decode cX10_does 139 = .ok (.iload 4, 2) := by decide +kernel
theorem dX10_does_141 : decode cX10_does 141 = .ok (.ifCond .ne 49, 3) := by decide +kernel
theorem dX10_does_144 : decode cX10_does 144 = .ok (.aload_n 0, 1) := by decide +kernel
theorem dX10_does_145 : decode cX10_does 145 = .ok (.iload_n 3, 1) := by decide +kernel
theorem dX10_does_146 : decode cX10_does 146 = .ok (.aload_n 0, 1) := by decide +kernel
theorem dX10_does_147 : decode cX10_does 147 = .ok (.getfield 32, 3) := by decide +kernel
theorem dX10_does_150 : decode cX10_does 150 = .ok (.iload_n 2, 1) := by decide +kernel
theorem dX10_does_151 : decode cX10_does 151 = .ok (.iconst 1, 1) := by decide +kernel
theorem dX10_does_152 : decode cX10_does 152 = .ok (.iadd, 1) := by decide +kernel
theorem dX10_does_153 : decode cX10_does 153 = .ok (.iaload, 1) := by decide +kernel
theorem dX10_does_154 : decode cX10_does 154 = .ok (.aload_n 0, 1) := by decide +kernel
theorem dX10_does_155 : decode cX10_does 155 = .ok (.getfield 32, 3) := by decide +kernel
theorem dX10_does_158 : decode cX10_does 158 = .ok (.iload_n 2, 1) := by decide +kernel
theorem dX10_does_159 : decode cX10_does 159 = .ok (.iconst 2, 1) := by decide +kernel
theorem dX10_does_160 : decode cX10_does 160 = .ok (.iadd, 1) := by decide +kernel
theorem dX10_does_161 : decode cX10_does 161 = .ok (.iaload, 1) := by decide +kernel
theorem dX10_does_162 : decode cX10_does 162 = .ok (.aload_n 0, 1) := by decide +kernel
theorem dX10_does_163 : decode cX10_does 163 = .ok (.getfield 32, 3) := by decide +kernel
theorem dX10_does_166 : decode cX10_does 166 = .ok (.iload_n 2, 1) := by decide +kernel
theorem dX10_does_167 : decode cX10_does 167 = .ok (.iconst 3, 1) := by decide +kernel
theorem dX10_does_168 : decode cX10_does 168 = .ok (.iadd, 1) := by decide +kernel
theorem dX10_does_169 : decode cX10_does 169 = .ok (.iaload, 1) := by decide +kernel
theorem dX10_does_170 : decode cX10_does 170 = .ok (.aload_n 0, 1) := by decide +kernel
theorem dX10_does_171 : decode cX10_does 171 = .ok (.getfield 32, 3) := by decide +kernel
theorem dX10_does_174 : decode cX10_does 174 = .ok (.iload_n 2, 1) := by decide +kernel
theorem dX10_does_175 : decode cX10_does 175 = .ok (.iconst 4, 1) := by decide +kernel
theorem dX10_does_176 : decode cX10_does 176 = .ok (.iadd, 1) := by decide +kernel
theorem dX10_does_177 : decode cX10_does 177 = .ok (.iaload, 1) := by decide +kernel
theorem dX10_does_178 : decode cX10_does 178 = .ok (.aload_n 0, 1) := by decide +kernel
theorem dX10_does_179 : decode cX10_does 179 = .ok (.getfield 32, 3) := by decide +kernel
theorem dX10_does_182 : decode cX10_does 182 = .ok (.iload_n 2, 1) := by decide +kernel
theorem dX10_does_183 : decode cX10_does 183 = .ok (.iconst 5, 1) := by decide +kernel
theorem dX10_does_184 : decode cX10_does 184 = .ok (.iadd, 1) := by decide +kernel
theorem dX10_does_185 : decode cX10_does 185 = .ok (.iaload, 1) := by decide +kernel
theorem dX10_does_186 : decode cX10_does 186 = .ok (.invokevirtual 155, 3) := by decide +kernel
theorem dX10_does_189 : decode cX10_does 189 = .ok (.pop, 1) := by decide +kernel
theorem dX10_does_190 : decode cX10_does 190 = .ok (.iload 4, 2) := by decide +kernel
theorem dX10_does_192 : decode cX10_does 192 = .ok (.ireturn, 1) := by decide +kernel
theorem dX10_read_0 : decode cX10_read 0 = .ok (.aload_n 0, 1) := by decide +kernel
theorem dX10_read_1 : decode cX10_read 1 = .ok (.iconst 0, 1) := by decide +kernel
theorem dX10_read_2 : decode cX10_read 2 = .ok (.putfield 35, 3) := by decide +kernel
theorem dX10_read_5 : decode cX10_read 5 = .ok (.aload_n 0, 1) := by decide +kernel
theorem dX10_read_6 : decode cX10_read 6 = .ok (.invokevirtual 236, 3) := by decide +kernel
theorem dX10_read_9 : decode cX10_read 9 = .ok (.istore_n 1, 1) := by decide +kernel
theorem dX10_read_10 : decode cX10_read 10 = .ok (.aload_n 0, 1) := by decide +kernel
theorem dX10_read_11 : decode cX10_read 11 = .ok (.iconst 0, 1) := by decide +kernel
theorem dX10_read_12 : decode cX10_read 12 = .ok (.putfield 137, 3) := by decide +kernel
theorem dX10_read_15 : decode cX10_read 15 = .ok (.iload_n 1, 1) := by decide +kernel
theorem dX10_read_16 : decode cX10_read 16 = .ok (.ifCond .ne 17, 3) := by decide +kernel
theorem dX10_read_19 : decode cX10_read 19 = .ok (.aload_n 0, 1) := by decide +kernel
theorem dX10_read_20 : decode cX10_read 20 = .ok (.aload_n 0, 1) := by decide +kernel
theorem dX10_read_21 : decode cX10_read 21 = .ok (.getfield 211, 3) := by decide +kernel
theorem dX10_read_24 : decode cX10_read 24 = .ok (.putfield 25, 3) := by decide +kernel
theorem dX10_read_27 : decode cX10_read 27 = .ok (.aload_n 0, 1) := by decide +kernel
theorem dX10_read_28 : decode cX10_read 28 = .ok (.iconst 1, 1) := by decide +kernel
theorem dX10_read_29 : decode cX10_read 29 = .ok (.invokevirtual 44, 3) := by decide +kernel
theorem dX10_read_32 : decode cX10_read 32 = .ok (.ireturn, 1) := by decide +kernel
theorem dX10_read_33 : decode cX10_read 33 = .ok (.aload_n 0, 1) := by decide +kernel
theorem dX10_read_34 : decode cX10_read 34 = .ok (.getfield 7, 3) := by decide +kernel
theorem dX10_read_37 : decode cX10_read 37 = .ok (.iconst 0, 1) := by decide +kernel
theorem dX10_read_38 : decode cX10_read 38 = .ok (.aload_n 0, 1) := by decide +kernel
theorem dX10_read_39 : decode cX10_read 39 = .ok (.getfield 16, 3) := by decide +kernel
theorem dX10_read_42 : decode cX10_read 42 = .ok (.iconst 0, 1) := by decide +kernel
theorem dX10_read_43 : decode cX10_read 43 = .ok (.invokestatic 63, 3) := by decide +kernel
theorem dX10_read_46 : decode cX10_read 46 = .ok (.iconst 0, 1) := by decide +kernel
theorem dX10_read_47 : decode cX10_read 47 = .ok (.istore_n 2, 1) := by decide +kernel
theorem dX10_read_48 : decode cX10_read 48 = .ok (.iload_n 2, 1) := by decide +kernel
theorem dX10_read_49 : decode cX10_read 49 = .ok (.aload_n 0, 1) := by decide +kernel
theorem dX10_read_50 : decode cX10_read 50 = .ok (.getfield 220, 3) := by decide +kernel
theorem dX10_read_53 : decode cX10_read 53 = .ok (.if_icmp .ge 46, 3) := by decide +kernel
theorem dX10_read_56 : decode cX10_read 56 = .ok (.aload_n 0, 1) := by decide +kernel
theorem dX10_read_57 : decode cX10_read 57 = .ok (.iload_n 2, 1) := by decide +kernel
theorem dX10_read_58 : decode cX10_read 58 = .ok (.invokevirtual 239, 3) := by decide +kernel
theorem dX10_read_61 : decode cX10_read 61 = .ok (.istore_n 3, 1) := by decide +kernel
theorem dX10_read_62 : decode cX10_read 62 = .ok (.iload_n 3, 1) := by decide +kernel
theorem dX10_read_63 : decode cX10_read 63 = .ok (.ifCond .le 30, 3) := by decide +kernel
theorem dX10_read_66 : decode cX10_read 66 = .ok (.aload_n 0, 1) := by decide +kernel
theorem dX10_read_67 : decode cX10_read 67 = .ok (.getfield 16, 3) := by decide +kernel
theorem dX10_read_70 : decode cX10_read 70 = .ok (.iconst 0, 1) := by decide +kernel
theorem dX10_read_71 : decode cX10_read 71 = .ok (.aload_n 0, 1) := by decide +kernel
theorem dX10_read_72 : decode cX10_read 72 = .ok (.getfield 7, 3) := by decide +kernel
theorem dX10_read_75 : decode cX10_read 75 = .ok (.iconst 0, 1) := by decide +kernel
theorem dX10_read_76 : decode cX10_read 76 = .ok (.invokestatic 63, 3) := by decide +kernel
theorem dX10_read_79 : decode cX10_read 79 = .ok (.aload_n 0, 1) := by decide +kernel
theorem dX10_read_80 : decode cX10_read 80 = .ok (.iconst 2, 1) := by decide +kernel
theorem dX10_read_81 : decode cX10_read 81 = .ok (.iload_n 3, 1) := by decide +kernel
theorem dX10_read_82 : decode cX10_read 82 = .ok (.invokevirtual 75, 3) := by decide +kernel
theorem dX10_read_85 : decode cX10_read 85 = .ok (.pop, 1) := by decide +kernel
theorem dX10_read_86 : decode cX10_read 86 = .ok (.aload_n 0, 1) := by decide +kernel
theorem dX10_read_87 : decode cX10_read 87 = .ok (.iload_n 2, 1) := by decide +kernel
theorem dX10_read_88 : decode cX10_read 88 = .ok (.putfield 41, 3) := by decide +kernel
theorem dX10_read_91 : decode cX10_read 91 = .ok (.iconst 0, 1) := by decide +kernel
theorem dX10_read_92 : decode cX10_read 92 = .ok (.ireturn, 1) := by decide +kernel
theorem dX10_read_93 : decode cX10_read 93 = .ok (.iinc 2 1, 3) := by decide +kernel
theorem dX10_read_96 : decode cX10_read 96 = .ok (.goto (-48), 3) := by decide +kernel
theorem dX10_read_99 : decode cX10_read 99 = .ok (.aload_n 0, 1) := by decide +kernel
theorem dX10_read_100 : decode cX10_read 100 = .ok (.aload_n 0, 1) := by decide +kernel
theorem dX10_read_101 : decode cX10_read 101 = .ok (.getfield 16, 3) := by decide +kernel
theorem dX10_read_104 : decode cX10_read 104 = .ok (.invokevirtual 78, 3) := by decide +kernel
theorem dX10_read_107 : decode cX10_read 107 = .ok (.aload_n 0, 1) := by decide +kernel
theorem dX10_read_108 : decode cX10_read 108 = .ok (.getfield 220, 3) := by decide +kernel
theorem dX10_read_111 : decode cX10_read 111 = .ok (.ireturn, 1) := by decide +kernel
theorem dX10_faultPosition_0 : decode cX10_faultPosition 0 = .ok (.aload_n 0, 1) := by decide +kernel
theorem dX10_faultPosition_1 : decode cX10_faultPosition 1 = .ok (.aload_n 0, 1) := by decide +kernel
theorem dX10_faultPosition_2 : decode cX10_faultPosition 2 = .ok (.getfield 25, 3) := by decide +kernel
theorem dX10_faultPosition_5 : decode cX10_faultPosition 5 = .ok (.ifCond .ge 7, 3) := by decide +kernel
theorem dX10_faultPosition_8 : decode cX10_faultPosition 8 = .ok (.iconst 1, 1) := by decide +kernel
theorem dX10_faultPosition_9 : decode cX10_faultPosition 9 = .ok (.goto 4, 3) := by decide +kernel
theorem dX10_faultPosition_12 : decode cX10_faultPosition 12 = .ok (.iconst 0, 1) := by decide +kernel
theorem dX10_faultPosition_13 : decode cX10_faultPosition 13 = .ok (.putfield 35, 3) := by decide +kernel
theorem dX10_faultPosition_16 : decode cX10_faultPosition 16 = .ok (.aload_n 0, 1) := by decide +kernel
theorem dX10_faultPosition_17 : decode cX10_faultPosition 17 = .ok (.getfield 35, 3) := by decide +kernel
theorem dX10_faultPosition_20 : decode cX10_faultPosition 20 = .ok (.ifCond .le 7, 3) := by decide +kernel
theorem dX10_faultPosition_23 : decode cX10_faultPosition 23 = .ok (.iconst 0, 1) := by decide +kernel
theorem dX10_faultPosition_24 : decode cX10_faultPosition 24 = .ok (.goto 7, 3) := by decide +kernel
theorem dX10_faultPosition_27 : decode cX10_faultPosition 27 = .ok (.aload_n 0, 1) := by decide +kernel
theorem dX10_faultPosition_28 : decode cX10_faultPosition 28 = .ok (.getfield 25, 3) := by decide +kernel
theorem dX10_faultPosition_31 : decode cX10_faultPosition 31 = .ok (.ireturn, 1) := by decide +kernel
theorem dX10_refusal_0 : decode cX10_refusal 0 = .ok (.aload_n 0, 1) := by decide +kernel
theorem dX10_refusal_1 : decode cX10_refusal 1 = .ok (.aload_n 0, 1) := by decide +kernel
theorem dX10_refusal_2 : decode cX10_refusal 2 = .ok (.getfield 38, 3) := by decide +kernel
theorem dX10_refusal_5 : decode cX10_refusal 5 = .ok (.ifCond .ne 7, 3) := by decide +kernel
theorem dX10_refusal_8 : decode cX10_refusal 8 = .ok (.iconst 1, 1) := by decide +kernel
theorem dX10_refusal_9 : decode cX10_refusal 9 = .ok (.goto 4, 3) := by decide +kernel
theorem dX10_refusal_12 : decode cX10_refusal 12 = .ok (.iconst 0, 1) := by decide +kernel
theorem dX10_refusal_13 : decode cX10_refusal 13 = .ok (.putfield 35, 3) := by decide +kernel
theorem dX10_refusal_16 : decode cX10_refusal 16 = .ok (.iload_n 1, 1) := by decide +kernel
theorem dX10_refusal_17 : decode cX10_refusal 17 = .ok (.ifCond .eq 10, 3) := by decide +kernel
theorem dX10_refusal_20 : decode cX10_refusal 20 = .ok (.aload_n 0, 1) := by decide +kernel
theorem dX10_refusal_21 : decode cX10_refusal 21 = .ok (.getfield 38, 3) := by decide +kernel
theorem dX10_refusal_24 : decode cX10_refusal 24 = .ok (.goto 7, 3) := by decide +kernel
theorem dX10_refusal_27 : decode cX10_refusal 27 = .ok (.aload_n 0, 1) := by decide +kernel
theorem dX10_refusal_28 : decode cX10_refusal 28 = .ok (.getfield 41, 3) := by decide +kernel
theorem dX10_refusal_31 : decode cX10_refusal 31 = .ok (.ireturn, 1) := by decide +kernel
