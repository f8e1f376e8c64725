theorem dX0_init_0 : decode cX0_init 0 = .ok (.aload_n 0, 1) := by decide +kernel
theorem dX0_init_1 : decode cX0_init 1 = .ok (.invokespecial 3, 3) := by decide +kernel
theorem dX0_init_4 : decode cX0_init 4 = .ok (.aload_n 0, 1) := by decide +kernel
theorem dX0_init_5 : decode cX0_init 5 = .ok (.bipush 20, 2) := by decide +kernel
theorem dX0_init_7 : decode cX0_init 7 = .ok (.newarray .int, 2) := by decide +kernel
theorem dX0_init_9 : decode cX0_init 9 = .ok (.putfield 9, 3) := by decide +kernel
theorem dX0_init_12 : decode cX0_init 12 = .ok (.aload_n 0, 1) := by decide +kernel
theorem dX0_init_13 : decode cX0_init 13 = .ok (.iconst 0, 1) := by decide +kernel
theorem dX0_init_14 : decode cX0_init 14 = .ok (.putfield 15, 3) := by decide +kernel
theorem dX0_init_17 : decode cX0_init 17 = .ok (.return_, 1) := by decide +kernel
theorem dX0_copyFrom_0 : decode cX0_copyFrom 0 = .ok (.aload_n 1, 1) := by decide +kernel
theorem dX0_copyFrom_1 : decode cX0_copyFrom 1 = .ok (.getfield 9, 3) := by decide +kernel
theorem dX0_copyFrom_4 : decode cX0_copyFrom 4 = .ok (.iconst 0, 1) := by decide +kernel
theorem dX0_copyFrom_5 : decode cX0_copyFrom 5 = .ok (.aload_n 0, 1) := by decide +kernel
theorem dX0_copyFrom_6 : decode cX0_copyFrom 6 = .ok (.getfield 9, 3) := by decide +kernel
theorem dX0_copyFrom_9 : decode cX0_copyFrom 9 = .ok (.iconst 0, 1) := by decide +kernel
theorem dX0_copyFrom_10 : decode cX0_copyFrom 10 = .ok (.bipush 20, 2) := by decide +kernel
theorem dX0_copyFrom_12 : decode cX0_copyFrom 12 = .ok (.invokestatic 19, 3) := by decide +kernel
theorem dX0_copyFrom_15 : decode cX0_copyFrom 15 = .ok (.aload_n 0, 1) := by decide +kernel
theorem dX0_copyFrom_16 : decode cX0_copyFrom 16 = .ok (.aload_n 1, 1) := by decide +kernel
theorem dX0_copyFrom_17 : decode cX0_copyFrom 17 = .ok (.getfield 15, 3) := by decide +kernel
theorem dX0_copyFrom_20 : decode cX0_copyFrom 20 = .ok (.putfield 15, 3) := by decide +kernel
theorem dX0_copyFrom_23 : decode cX0_copyFrom 23 = .ok (.return_, 1) := by decide +kernel
theorem dX0_at_0 : decode cX0_at 0 = .ok (.iload_n 1, 1) := by decide +kernel
theorem dX0_at_1 : decode cX0_at 1 = .ok (.ifCond .lt 29, 3) := by decide +kernel
theorem dX0_at_4 : decode cX0_at 4 = .ok (.iload_n 1, 1) := by decide +kernel
theorem dX0_at_5 : decode cX0_at 5 = .ok (.aload_n 0, 1) := by decide +kernel
theorem dX0_at_6 : decode cX0_at 6 = .ok (.getfield 15, 3) := by decide +kernel
theorem dX0_at_9 : decode cX0_at 9 = .ok (.if_icmp .ge 21, 3) := by decide +kernel
theorem dX0_at_12 : decode cX0_at 12 = .ok (.iload_n 1, 1) := by decide +kernel
theorem dX0_at_13 : decode cX0_at 13 = .ok (.aload_n 0, 1) := by decide +kernel
theorem dX0_at_14 : decode cX0_at 14 = .ok (.getfield 9, 3) := by decide +kernel
theorem dX0_at_17 : decode cX0_at 17 = .ok (.arraylength, 1) := by decide +kernel
theorem dX0_at_18 : decode cX0_at 18 = .ok (.if_icmp .ge 12, 3) := by decide +kernel
theorem dX0_at_21 : decode cX0_at 21 = .ok (.aload_n 0, 1) := by decide +kernel
theorem dX0_at_22 : decode cX0_at 22 = .ok (.getfield 9, 3) := by decide +kernel
theorem dX0_at_25 : decode cX0_at 25 = .ok (.iload_n 1, 1) := by decide +kernel
theorem dX0_at_26 : decode cX0_at 26 = .ok (.iaload, 1) := by decide +kernel
theorem dX0_at_27 : decode cX0_at 27 = .ok (.goto 4, 3) := by decide +kernel
theorem dX0_at_30 : decode cX0_at 30 = .ok (.iconst (-1), 1) := by decide +kernel
theorem dX0_at_31 : decode cX0_at 31 = .ok (.ireturn, 1) := by decide +kernel
theorem dX0_upTo_0 : decode cX0_upTo 0 = .ok (.iconst 0, 1) := by decide +kernel
theorem dX0_upTo_1 : decode cX0_upTo 1 = .ok (.istore_n 2, 1) := by decide +kernel
theorem dX0_upTo_2 : decode cX0_upTo 2 = .ok (.iconst 0, 1) := by decide +kernel
theorem dX0_upTo_3 : decode cX0_upTo 3 = .ok (.istore_n 3, 1) := by decide +kernel
theorem dX0_upTo_4 : decode cX0_upTo 4 = .ok (.iload_n 3, 1) := by decide +kernel
theorem dX0_upTo_5 : decode cX0_upTo 5 = .ok (.aload_n 0, 1) := by decide +kernel
theorem dX0_upTo_6 : decode cX0_upTo 6 = .ok (.getfield 15, 3) := by decide +kernel
theorem dX0_upTo_9 : decode cX0_upTo 9 = .ok (.if_icmp .ge 31, 3) := by decide +kernel
theorem dX0_upTo_12 : decode cX0_upTo 12 = .ok (.iload_n 3, 1) := by decide +kernel
theorem dX0_upTo_13 : decode cX0_upTo 13 = .ok (.aload_n 0, 1) := by decide +kernel
theorem dX0_upTo_14 : decode cX0_upTo 14 = .ok (.getfield 9, 3) := by decide +kernel
theorem dX0_upTo_17 : decode cX0_upTo 17 = .ok (.arraylength, 1) := by decide +kernel
theorem dX0_upTo_18 : decode cX0_upTo 18 = .ok (.if_icmp .ge 22, 3) := by decide +kernel
theorem dX0_upTo_21 : decode cX0_upTo 21 = .ok (.aload_n 0, 1) := by decide +kernel
theorem dX0_upTo_22 : decode cX0_upTo 22 = .ok (.getfield 9, 3) := by decide +kernel
theorem dX0_upTo_25 : decode cX0_upTo 25 = .ok (.iload_n 3, 1) := by decide +kernel
theorem dX0_upTo_26 : decode cX0_upTo 26 = .ok (.iaload, 1) := by decide +kernel
theorem dX0_upTo_27 : decode cX0_upTo 27 = .ok (.iload_n 1, 1) := by decide +kernel
theorem dX0_upTo_28 : decode cX0_upTo 28 = .ok (.if_icmp .gt 6, 3) := by decide +kernel
theorem dX0_upTo_31 : decode cX0_upTo 31 = .ok (.iinc 2 1, 3) := by decide +kernel
theorem dX0_upTo_34 : decode cX0_upTo 34 = .ok (.iinc 3 1, 3) := by decide +kernel
theorem dX0_upTo_37 : decode cX0_upTo 37 = .ok (.goto (-33), 3) := by decide +kernel
theorem dX0_upTo_40 : decode cX0_upTo 40 = .ok (.iload_n 2, 1) := by decide +kernel
theorem dX0_upTo_41 : decode cX0_upTo 41 = .ok (.ireturn, 1) := by decide +kernel
theorem dX0_holds_0 : decode cX0_holds 0 = .ok (.aload_n 0, 1) := by decide +kernel
theorem dX0_holds_1 : decode cX0_holds 1 = .ok (.iload_n 1, 1) := by decide +kernel
theorem dX0_holds_2 : decode cX0_holds 2 = .ok (.invokevirtual 25, 3) := by decide +kernel
theorem dX0_holds_5 : decode cX0_holds 5 = .ok (.aload_n 0, 1) := by decide +kernel
theorem dX0_holds_6 : decode cX0_holds 6 = .ok (.iload_n 1, 1) := by decide +kernel
theorem dX0_holds_7 : decode cX0_holds 7 = .ok (.iconst 1, 1) := by decide +kernel
theorem dX0_holds_8 : decode cX0_holds 8 = .ok (.isub, 1) := by decide +kernel
theorem dX0_holds_9 : decode cX0_holds 9 = .ok (.invokevirtual 25, 3) := by decide +kernel
theorem dX0_holds_12 : decode cX0_holds 12 = .ok (.if_icmp .le 7, 3) := by decide +kernel
theorem dX0_holds_15 : decode cX0_holds 15 = .ok (.iconst 1, 1) := by decide +kernel
theorem dX0_holds_16 : decode cX0_holds 16 = .ok (.goto 4, 3) := by decide +kernel
theorem dX0_holds_19 : decode cX0_holds 19 = .ok (.iconst 0, 1) := by decide +kernel
theorem dX0_holds_20 : decode cX0_holds 20 = .ok (.ireturn, 1) := by decide +kernel
theorem dX0_firstFrom_0 : decode cX0_firstFrom 0 = .ok (.aload_n 0, 1) := by decide +kernel
theorem dX0_firstFrom_1 : decode cX0_firstFrom 1 = .ok (.aload_n 0, 1) := by decide +kernel
theorem dX0_firstFrom_2 : decode cX0_firstFrom 2 = .ok (.iload_n 1, 1) := by decide +kernel
theorem dX0_firstFrom_3 : decode cX0_firstFrom 3 = .ok (.iconst 1, 1) := by decide +kernel
theorem dX0_firstFrom_4 : decode cX0_firstFrom 4 = .ok (.isub, 1) := by decide +kernel
theorem dX0_firstFrom_5 : decode cX0_firstFrom 5 = .ok (.invokevirtual 25, 3) := by decide +kernel
theorem dX0_firstFrom_8 : decode cX0_firstFrom 8 = .ok (.invokevirtual 29, 3) := by decide +kernel
theorem dX0_firstFrom_11 : decode cX0_firstFrom 11 = .ok (.ireturn, 1) := by decide +kernel
theorem dX0_nearest_0 : decode cX0_nearest 0 = .ok (.iconst (-1), 1) := by decide +kernel
theorem dX0_nearest_1 : decode cX0_nearest 1 = .ok (.istore_n 2, 1) := by decide +kernel
theorem dX0_nearest_2 : decode cX0_nearest 2 = .ok (.iconst 0, 1) := by decide +kernel
theorem dX0_nearest_3 : decode cX0_nearest 3 = .ok (.istore_n 3, 1) := by decide +kernel
theorem dX0_nearest_4 : decode cX0_nearest 4 = .ok (.iload_n 3, 1) := by decide +kernel
theorem dX0_nearest_5 : decode cX0_nearest 5 = .ok (.aload_n 0, 1) := by decide +kernel
theorem dX0_nearest_6 : decode cX0_nearest 6 = .ok (.getfield 15, 3) := by decide +kernel
theorem dX0_nearest_9 : decode cX0_nearest 9 = .ok (.if_icmp .ge 37, 3) := by decide +kernel
theorem dX0_nearest_12 : decode cX0_nearest 12 = .ok (.iload_n 2, 1) := by decide +kernel
theorem dX0_nearest_13 : decode cX0_nearest 13 = .ok (.iconst (-1), 1) := by decide +kernel
theorem dX0_nearest_14 : decode cX0_nearest 14 = .ok (.if_icmp .eq 20, 3) := by decide +kernel
theorem dX0_nearest_17 : decode cX0_nearest 17 = .ok (.aload_n 0, 1) := by decide +kernel
theorem dX0_nearest_18 : decode cX0_nearest 18 = .ok (.iload_n 3, 1) := by decide +kernel
theorem dX0_nearest_19 : decode cX0_nearest 19 = .ok (.invokevirtual 29, 3) := by decide +kernel
theorem dX0_nearest_22 : decode cX0_nearest 22 = .ok (.iload_n 1, 1) := by decide +kernel
theorem dX0_nearest_23 : decode cX0_nearest 23 = .ok (.invokestatic 32, 3) := by decide +kernel
theorem dX0_nearest_26 : decode cX0_nearest 26 = .ok (.iload_n 2, 1) := by decide +kernel
theorem dX0_nearest_27 : decode cX0_nearest 27 = .ok (.iload_n 1, 1) := by decide +kernel
theorem dX0_nearest_28 : decode cX0_nearest 28 = .ok (.invokestatic 32, 3) := by decide +kernel
theorem dX0_nearest_31 : decode cX0_nearest 31 = .ok (.if_icmp .ge 9, 3) := by decide +kernel
theorem dX0_nearest_34 : decode cX0_nearest 34 = .ok (.aload_n 0, 1) := by decide +kernel
theorem dX0_nearest_35 : decode cX0_nearest 35 = .ok (.iload_n 3, 1) := by decide +kernel
theorem dX0_nearest_36 : decode cX0_nearest 36 = .ok (.invokevirtual 29, 3) := by decide +kernel
theorem dX0_nearest_39 : decode cX0_nearest 39 = .ok (.istore_n 2, 1) := by decide +kernel
theorem dX0_nearest_40 : decode cX0_nearest 40 = .ok (.iinc 3 1, 3) := by decide +kernel
theorem dX0_nearest_43 : decode cX0_nearest 43 = .ok (.goto (-39), 3) := by decide +kernel
theorem dX0_nearest_46 : decode cX0_nearest 46 = .ok (.iload_n 2, 1) := by decide +kernel
theorem dX0_nearest_47 : decode cX0_nearest 47 = .ok (.ireturn, 1) := by decide +kernel
theorem dX0_lacksRoomFor_0 : decode cX0_lacksRoomFor 0 = .ok (.aload_n 0, 1) := by decide +kernel
theorem dX0_lacksRoomFor_1 : decode cX0_lacksRoomFor 1 = .ok (.getfield 15, 3) := by decide +kernel
theorem dX0_lacksRoomFor_4 : decode cX0_lacksRoomFor 4 = .ok (.bipush 20, 2) := by decide +kernel
theorem dX0_lacksRoomFor_6 : decode cX0_lacksRoomFor 6 = .ok (.if_icmp .lt 15, 3) := by decide +kernel
theorem dX0_lacksRoomFor_9 : decode cX0_lacksRoomFor 9 = .ok (.aload_n 0, 1) := by decide +kernel
theorem dX0_lacksRoomFor_10 : decode cX0_lacksRoomFor 10 = .ok (.iload_n 1, 1) := by decide +kernel
theorem dX0_lacksRoomFor_11 : decode cX0_lacksRoomFor 11 = .ok (.invokevirtual 36, 3) := by decide +kernel
theorem dX0_lacksRoomFor_14 : decode cX0_lacksRoomFor 14 = .ok (.ifCond .ne 7, 3) := by decide +kernel
theorem dX0_lacksRoomFor_17 : decode cX0_lacksRoomFor 17 = .ok (.iconst 1, 1) := by decide +kernel
theorem dX0_lacksRoomFor_18 : decode cX0_lacksRoomFor 18 = .ok (.goto 4, 3) := by decide +kernel
theorem dX0_lacksRoomFor_21 : decode cX0_lacksRoomFor 21 = .ok (.iconst 0, 1) := by decide +kernel
theorem dX0_lacksRoomFor_22 : decode cX0_lacksRoomFor 22 = .ok (.ireturn, 1) := by decide +kernel
theorem dX0_make_0 : decode cX0_make 0 = .ok (.aload_n 0, 1) := by decide +kernel
theorem dX0_make_1 : decode cX0_make 1 = .ok (.iload_n 1, 1) := by decide +kernel
theorem dX0_make_2 : decode cX0_make 2 = .ok (.invokevirtual 36, 3) := by decide +kernel
theorem dX0_make_5 : decode cX0_make 5 = .ok (.ifCond .ne 22, 3) := by decide +kernel
theorem dX0_make_8 : decode cX0_make 8 = .ok (.aload_n 0, 1) := by decide +kernel
theorem dX0_make_9 : decode cX0_make 9 = .ok (.getfield 15, 3) := by decide +kernel
theorem dX0_make_12 : decode cX0_make 12 = .ok (.ifCond .lt 15, 3) := by decide +kernel
theorem dX0_make_15 : decode cX0_make 15 = .ok (.aload_n 0, 1) := by decide +kernel
theorem dX0_make_16 : decode cX0_make 16 = .ok (.getfield 15, 3) := by decide +kernel
theorem dX0_make_19 : decode cX0_make 19 = .ok (.aload_n 0, 1) := by decide +kernel
theorem dX0_make_20 : decode cX0_make 20 = .ok (.getfield 9, 3) := by decide +kernel
theorem dX0_make_23 : decode cX0_make 23 = .ok (.arraylength, 1) := by decide +kernel
theorem dX0_make_24 : decode cX0_make 24 = .ok (.if_icmp .lt 4, 3) := by decide +kernel
theorem dX0_make_27 : decode cX0_make 27 = .ok (.return_, 1) := by decide +kernel
theorem dX0_make_28 : decode cX0_make 28 = .ok (.aload_n 0, 1) := by decide +kernel
theorem dX0_make_29 : decode cX0_make 29 = .ok (.getfield 15, 3) := by decide +kernel
theorem dX0_make_32 : decode cX0_make 32 = .ok (.istore_n 2, 1) := by decide +kernel
theorem dX0_make_33 : decode cX0_make 33 = .ok (.iload_n 2, 1) := by decide +kernel
theorem dX0_make_34 : decode cX0_make 34 = .ok (.ifCond .le 35, 3) := by decide +kernel
theorem dX0_make_37 : decode cX0_make 37 = .ok (.aload_n 0, 1) := by decide +kernel
theorem dX0_make_38 : decode cX0_make 38 = .ok (.getfield 9, 3) := by decide +kernel
theorem dX0_make_41 : decode cX0_make 41 = .ok (.iload_n 2, 1) := by decide +kernel
theorem dX0_make_42 : decode cX0_make 42 = .ok (.iconst 1, 1) := by decide +kernel
theorem dX0_make_43 : decode cX0_make 43 = .ok (.isub, 1) := by decide +kernel
theorem dX0_make_44 : decode cX0_make 44 = .ok (.iaload, 1) := by decide +kernel
theorem dX0_make_45 : decode cX0_make 45 = .ok (.iload_n 1, 1) := by decide +kernel
theorem dX0_make_46 : decode cX0_make 46 = .ok (.if_icmp .le 23, 3) := by decide +kernel
theorem dX0_make_49 : decode cX0_make 49 = .ok (.aload_n 0, 1) := by decide +kernel
theorem dX0_make_50 : decode cX0_make 50 = .ok (.getfield 9, 3) := by decide +kernel
theorem dX0_make_53 : decode cX0_make 53 = .ok (.iload_n 2, 1) := by decide +kernel
theorem dX0_make_54 : decode cX0_make 54 = .ok (.aload_n 0, 1) := by decide +kernel
theorem dX0_make_55 : decode cX0_make 55 = .ok (.getfield 9, 3) := by decide +kernel
theorem dX0_make_58 : decode cX0_make 58 = .ok (.iload_n 2, 1) := by decide +kernel
theorem dX0_make_59 : decode cX0_make 59 = .ok (.iconst 1, 1) := by decide +kernel
theorem dX0_make_60 : decode cX0_make 60 = .ok (.isub, 1) := by decide +kernel
theorem dX0_make_61 : decode cX0_make 61 = .ok (.iaload, 1) := by decide +kernel
theorem dX0_make_62 : decode cX0_make 62 = .ok (.iastore, 1) := by decide +kernel
theorem dX0_make_63 : decode cX0_make 63 = .ok (.iinc 2 (-1), 3) := by decide +kernel
theorem dX0_make_66 : decode cX0_make 66 = .ok (.goto (-33), 3) := by decide +kernel
theorem dX0_make_69 : decode cX0_make 69 = .ok (.aload_n 0, 1) := by decide +kernel
theorem dX0_make_70 : decode cX0_make 70 = .ok (.getfield 9, 3) := by decide +kernel
theorem dX0_make_73 : decode cX0_make 73 = .ok (.iload_n 2, 1) := by decide +kernel
theorem dX0_make_74 : decode cX0_make 74 = .ok (.iload_n 1, 1) := by decide +kernel
theorem dX0_make_75 : decode cX0_make 75 = .ok (.iastore, 1) := by decide +kernel
theorem dX0_make_76 : decode cX0_make 76 = .ok (.aload_n 0, 1) := by decide +kernel
theorem dX0_make_77 : decode cX0_make 77 = .ok (.dup, 1) := by decide +kernel
theorem dX0_make_78 : decode cX0_make 78 = .ok (.getfield 15, 3) := by decide +kernel
theorem dX0_make_81 : decode cX0_make 81 = .ok (.iconst 1, 1) := by decide +kernel
theorem dX0_make_82 : decode cX0_make 82 = .ok (.iadd, 1) := by decide +kernel
theorem dX0_make_83 : decode cX0_make 83 = .ok (.putfield 15, 3) := by decide +kernel
theorem dX0_make_86 : decode cX0_make 86 = .ok (.return_, 1) := by decide +kernel
theorem dX0_takeAway_0 : decode cX0_takeAway 0 = .ok (.aload_n 0, 1) := by decide +kernel
theorem dX0_takeAway_1 : decode cX0_takeAway 1 = .ok (.iload_n 1, 1) := by decide +kernel
theorem dX0_takeAway_2 : decode cX0_takeAway 2 = .ok (.invokevirtual 36, 3) := by decide +kernel
theorem dX0_takeAway_5 : decode cX0_takeAway 5 = .ok (.ifCond .ne 4, 3) := by decide +kernel
theorem dX0_takeAway_8 : decode cX0_takeAway 8 = .ok (.return_, 1) := by decide +kernel
theorem dX0_takeAway_9 : decode cX0_takeAway 9 = .ok (.aload_n 0, 1) := by decide +kernel
theorem dX0_takeAway_10 : decode cX0_takeAway 10 = .ok (.iload_n 1, 1) := by decide +kernel
theorem dX0_takeAway_11 : decode cX0_takeAway 11 = .ok (.invokevirtual 25, 3) := by decide +kernel
theorem dX0_takeAway_14 : decode cX0_takeAway 14 = .ok (.istore_n 2, 1) := by decide +kernel
theorem dX0_takeAway_15 : decode cX0_takeAway 15 = .ok (.iload_n 2, 1) := by decide +kernel
theorem dX0_takeAway_16 : decode cX0_takeAway 16 = .ok (.ifCond .le 40, 3) := by decide +kernel
theorem dX0_takeAway_19 : decode cX0_takeAway 19 = .ok (.iload_n 2, 1) := by decide +kernel
theorem dX0_takeAway_20 : decode cX0_takeAway 20 = .ok (.aload_n 0, 1) := by decide +kernel
theorem dX0_takeAway_21 : decode cX0_takeAway 21 = .ok (.getfield 15, 3) := by decide +kernel
theorem dX0_takeAway_24 : decode cX0_takeAway 24 = .ok (.if_icmp .ge 32, 3) := by decide +kernel
theorem dX0_takeAway_27 : decode cX0_takeAway 27 = .ok (.iload_n 2, 1) := by decide +kernel
theorem dX0_takeAway_28 : decode cX0_takeAway 28 = .ok (.aload_n 0, 1) := by decide +kernel
theorem dX0_takeAway_29 : decode cX0_takeAway 29 = .ok (.getfield 9, 3) := by decide +kernel
theorem dX0_takeAway_32 : decode cX0_takeAway 32 = .ok (.arraylength, 1) := by decide +kernel
theorem dX0_takeAway_33 : decode cX0_takeAway 33 = .ok (.if_icmp .ge 23, 3) := by decide +kernel
theorem dX0_takeAway_36 : decode cX0_takeAway 36 = .ok (.aload_n 0, 1) := by decide +kernel
theorem dX0_takeAway_37 : decode cX0_takeAway 37 = .ok (.getfield 9, 3) := by decide +kernel
theorem dX0_takeAway_40 : decode cX0_takeAway 40 = .ok (.iload_n 2, 1) := by decide +kernel
theorem dX0_takeAway_41 : decode cX0_takeAway 41 = .ok (.iconst 1, 1) := by decide +kernel
theorem dX0_takeAway_42 : decode cX0_takeAway 42 = .ok (.isub, 1) := by decide +kernel
theorem dX0_takeAway_43 : decode cX0_takeAway 43 = .ok (.aload_n 0, 1) := by decide +kernel
theorem dX0_takeAway_44 : decode cX0_takeAway 44 = .ok (.getfield 9, 3) := by decide +kernel
theorem dX0_takeAway_47 : decode cX0_takeAway 47 = .ok (.iload_n 2, 1) := by decide +kernel
theorem dX0_takeAway_48 : decode cX0_takeAway 48 = .ok (.iaload, 1) := by decide +kernel
theorem dX0_takeAway_49 : decode cX0_takeAway 49 = .ok (.iastore, 1) := by decide +kernel
theorem dX0_takeAway_50 : decode cX0_takeAway 50 = .ok (.iinc 2 1, 3) := by decide +kernel
theorem dX0_takeAway_53 : decode cX0_takeAway 53 = .ok (.goto (-38), 3) := by decide +kernel
theorem dX0_takeAway_56 : decode cX0_takeAway 56 = .ok (.aload_n 0, 1) := by decide +kernel
theorem dX0_takeAway_57 : decode cX0_takeAway 57 = .ok (.dup, 1) := by decide +kernel
theorem dX0_takeAway_58 : decode cX0_takeAway 58 = .ok (.getfield 15, 3) := by decide +kernel
theorem dX0_takeAway_61 : decode cX0_takeAway 61 = .ok (.iconst 1, 1) := by decide +kernel
theorem dX0_takeAway_62 : decode cX0_takeAway 62 = .ok (.isub, 1) := by decide +kernel
theorem dX0_takeAway_63 : decode cX0_takeAway 63 = .ok (.putfield 15, 3) := by decide +kernel
theorem dX0_takeAway_66 : decode cX0_takeAway 66 = .ok (.return_, 1) := by decide +kernel
theorem dX1_init_0 : decode cX1_init 0 = .ok (.aload_n 0, 1) := by decide +kernel
theorem dX1_init_1 : decode cX1_init 1 = .ok (.invokespecial 3, 3) := by decide +kernel
theorem dX1_init_4 : decode cX1_init 4 = .ok (.aload_n 0, 1) := by decide +kernel
theorem dX1_init_5 : decode cX1_init 5 = .ok (.aload_n 1, 1) := by decide +kernel
theorem dX1_init_6 : decode cX1_init 6 = .ok (.putfield 9, 3) := by decide +kernel
theorem dX1_init_9 : decode cX1_init 9 = .ok (.aload_n 0, 1) := by decide +kernel
theorem dX1_init_10 : decode cX1_init 10 = .ok (.aload_n 2, 1) := by decide +kernel
theorem dX1_init_11 : decode cX1_init 11 = .ok (.putfield 15, 3) := by decide +kernel
theorem dX1_init_14 : decode cX1_init 14 = .ok (.aload_n 0, 1) := by decide +kernel
theorem dX1_init_15 : decode cX1_init 15 = .ok (.new 19, 3) := by decide +kernel
theorem dX1_init_18 : decode cX1_init 18 = .ok (.dup, 1) := by decide +kernel
theorem dX1_init_19 : decode cX1_init 19 = .ok (.invokespecial 21, 3) := by decide +kernel
theorem dX1_init_22 : decode cX1_init 22 = .ok (.putfield 22, 3) := by decide +kernel
theorem dX1_init_25 : decode cX1_init 25 = .ok (.aload_n 0, 1) := by decide +kernel
theorem dX1_init_26 : decode cX1_init 26 = .ok (.new 19, 3) := by decide +kernel
theorem dX1_init_29 : decode cX1_init 29 = .ok (.dup, 1) := by decide +kernel
theorem dX1_init_30 : decode cX1_init 30 = .ok (.invokespecial 21, 3) := by decide +kernel
theorem dX1_init_33 : decode cX1_init 33 = .ok (.putfield 26, 3) := by decide +kernel
theorem dX1_init_36 : decode cX1_init 36 = .ok (.return_, 1) := by decide +kernel
theorem dX1_placeCaption_0 : decode cX1_placeCaption 0 = .ok (.aload_n 0, 1) := by decide +kernel
theorem dX1_placeCaption_1 : decode cX1_placeCaption 1 = .ok (.getfield 9, 3) := by decide +kernel
theorem dX1_placeCaption_4 : decode cX1_placeCaption 4 = .ok (.iload_n 1, 1) := by decide +kernel
theorem dX1_placeCaption_5 : decode cX1_placeCaption 5 = .ok (.invokevirtual 29, 3) := by decide +kernel
theorem dX1_placeCaption_8 : decode cX1_placeCaption 8 = .ok (.astore 5, 2) := by decide +kernel
theorem dX1_placeCaption_10 : decode cX1_placeCaption 10 = .ok (.aload 5, 2) := by decide +kernel
theorem dX1_placeCaption_12 : decode cX1_placeCaption 12 = .ok (.iload_n 2, 1) := by decide +kernel
theorem dX1_placeCaption_13 : decode cX1_placeCaption 13 = .ok (.invokevirtual 35, 3) := by decide +kernel
theorem dX1_placeCaption_16 : decode cX1_placeCaption 16 = .ok (.istore 6, 2) := by decide +kernel
theorem dX1_placeCaption_18 : decode cX1_placeCaption 18 = .ok (.aload_n 0, 1) := by decide +kernel
theorem dX1_placeCaption_19 : decode cX1_placeCaption 19 = .ok (.getfield 22, 3) := by decide +kernel
theorem dX1_placeCaption_22 : decode cX1_placeCaption 22 = .ok (.invokevirtual 41, 3) := by decide +kernel
theorem dX1_placeCaption_25 : decode cX1_placeCaption 25 = .ok (.aload 5, 2) := by decide +kernel
theorem dX1_placeCaption_27 : decode cX1_placeCaption 27 = .ok (.aload_n 0, 1) := by decide +kernel
theorem dX1_placeCaption_28 : decode cX1_placeCaption 28 = .ok (.getfield 22, 3) := by decide +kernel
theorem dX1_placeCaption_31 : decode cX1_placeCaption 31 = .ok (.iload_n 2, 1) := by decide +kernel
theorem dX1_placeCaption_32 : decode cX1_placeCaption 32 = .ok (.iconst 0, 1) := by decide +kernel
theorem dX1_placeCaption_33 : decode cX1_placeCaption 33 = .ok (.aload 5, 2) := by decide +kernel
theorem dX1_placeCaption_35 : decode cX1_placeCaption 35 = .ok (.iload_n 2, 1) := by decide +kernel
theorem dX1_placeCaption_36 : decode cX1_placeCaption 36 = .ok (.invokevirtual 44, 3) := by decide +kernel
theorem dX1_placeCaption_39 : decode cX1_placeCaption 39 = .ok (.invokevirtual 47, 3) := by decide +kernel
theorem dX1_placeCaption_42 : decode cX1_placeCaption 42 = .ok (.aload 5, 2) := by decide +kernel
theorem dX1_placeCaption_44 : decode cX1_placeCaption 44 = .ok (.iload_n 2, 1) := by decide +kernel
theorem dX1_placeCaption_45 : decode cX1_placeCaption 45 = .ok (.invokevirtual 51, 3) := by decide +kernel
theorem dX1_placeCaption_48 : decode cX1_placeCaption 48 = .ok (.aload 5, 2) := by decide +kernel
theorem dX1_placeCaption_50 : decode cX1_placeCaption 50 = .ok (.iload 6, 2) := by decide +kernel
theorem dX1_placeCaption_52 : decode cX1_placeCaption 52 = .ok (.iload_n 3, 1) := by decide +kernel
theorem dX1_placeCaption_53 : decode cX1_placeCaption 53 = .ok (.iload 4, 2) := by decide +kernel
theorem dX1_placeCaption_55 : decode cX1_placeCaption 55 = .ok (.aload_n 0, 1) := by decide +kernel
theorem dX1_placeCaption_56 : decode cX1_placeCaption 56 = .ok (.getfield 22, 3) := by decide +kernel
theorem dX1_placeCaption_59 : decode cX1_placeCaption 59 = .ok (.invokevirtual 55, 3) := by decide +kernel
theorem dX1_placeCaption_62 : decode cX1_placeCaption 62 = .ok (.ireturn, 1) := by decide +kernel
theorem dX1_splitRefusal_0 : decode cX1_splitRefusal 0 = .ok (.aload_n 0, 1) := by decide +kernel
theorem dX1_splitRefusal_1 : decode cX1_splitRefusal 1 = .ok (.getfield 9, 3) := by decide +kernel
theorem dX1_splitRefusal_4 : decode cX1_splitRefusal 4 = .ok (.iload_n 1, 1) := by decide +kernel
theorem dX1_splitRefusal_5 : decode cX1_splitRefusal 5 = .ok (.invokevirtual 29, 3) := by decide +kernel
theorem dX1_splitRefusal_8 : decode cX1_splitRefusal 8 = .ok (.astore 4, 2) := by decide +kernel
theorem dX1_splitRefusal_10 : decode cX1_splitRefusal 10 = .ok (.aload 4, 2) := by decide +kernel
theorem dX1_splitRefusal_12 : decode cX1_splitRefusal 12 = .ok (.iload_n 2, 1) := by decide +kernel
theorem dX1_splitRefusal_13 : decode cX1_splitRefusal 13 = .ok (.iload_n 3, 1) := by decide +kernel
theorem dX1_splitRefusal_14 : decode cX1_splitRefusal 14 = .ok (.invokevirtual 59, 3) := by decide +kernel
theorem dX1_splitRefusal_17 : decode cX1_splitRefusal 17 = .ok (.istore 5, 2) := by decide +kernel
theorem dX1_splitRefusal_19 : decode cX1_splitRefusal 19 = .ok (.iload 5, 2) := by decide +kernel
theorem dX1_splitRefusal_21 : decode cX1_splitRefusal 21 = .ok (.bipush 95, 2) := by decide +kernel
theorem dX1_splitRefusal_23 : decode cX1_splitRefusal 23 = .ok (.if_icmp .eq 12, 3) := by decide +kernel
theorem dX1_splitRefusal_26 : decode cX1_splitRefusal 26 = .ok (.iload 5, 2) := by decide +kernel
theorem dX1_splitRefusal_28 : decode cX1_splitRefusal 28 = .ok (.bipush 124, 2) := by decide +kernel
theorem dX1_splitRefusal_30 : decode cX1_splitRefusal 30 = .ok (.if_icmp .eq 5, 3) := by decide +kernel
theorem dX1_splitRefusal_33 : decode cX1_splitRefusal 33 = .ok (.iconst 4, 1) := by decide +kernel
theorem dX1_splitRefusal_34 : decode cX1_splitRefusal 34 = .ok (.ireturn, 1) := by decide +kernel
theorem dX1_splitRefusal_35 : decode cX1_splitRefusal 35 = .ok (.aload_n 0, 1) := by decide +kernel
theorem dX1_splitRefusal_36 : decode cX1_splitRefusal 36 = .ok (.aload 4, 2) := by decide +kernel
theorem dX1_splitRefusal_38 : decode cX1_splitRefusal 38 = .ok (.iload_n 2, 1) := by decide +kernel
theorem dX1_splitRefusal_39 : decode cX1_splitRefusal 39 = .ok (.iload_n 3, 1) := by decide +kernel
theorem dX1_splitRefusal_40 : decode cX1_splitRefusal 40 = .ok (.invokevirtual 63, 3) := by decide +kernel
theorem dX1_splitRefusal_43 : decode cX1_splitRefusal 43 = .ok (.aload_n 0, 1) := by decide +kernel
theorem dX1_splitRefusal_44 : decode cX1_splitRefusal 44 = .ok (.getfield 22, 3) := by decide +kernel
theorem dX1_splitRefusal_47 : decode cX1_splitRefusal 47 = .ok (.invokevirtual 67, 3) := by decide +kernel
theorem dX1_splitRefusal_50 : decode cX1_splitRefusal 50 = .ok (.ifCond .eq 13, 3) := by decide +kernel
theorem dX1_splitRefusal_53 : decode cX1_splitRefusal 53 = .ok (.aload_n 0, 1) := by decide +kernel
theorem dX1_splitRefusal_54 : decode cX1_splitRefusal 54 = .ok (.getfield 26, 3) := by decide +kernel
theorem dX1_splitRefusal_57 : decode cX1_splitRefusal 57 = .ok (.invokevirtual 67, 3) := by decide +kernel
theorem dX1_splitRefusal_60 : decode cX1_splitRefusal 60 = .ok (.ifCond .ne 5, 3) := by decide +kernel
theorem dX1_splitRefusal_63 : decode cX1_splitRefusal 63 = .ok (.iconst 4, 1) := by decide +kernel
theorem dX1_splitRefusal_64 : decode cX1_splitRefusal 64 = .ok (.ireturn, 1) := by decide +kernel
theorem dX1_splitRefusal_65 : decode cX1_splitRefusal 65 = .ok (.aload_n 0, 1) := by decide +kernel
theorem dX1_splitRefusal_66 : decode cX1_splitRefusal 66 = .ok (.aload 4, 2) := by decide +kernel
theorem dX1_splitRefusal_68 : decode cX1_splitRefusal 68 = .ok (.iload_n 2, 1) := by decide +kernel
theorem dX1_splitRefusal_69 : decode cX1_splitRefusal 69 = .ok (.iload_n 3, 1) := by decide +kernel
theorem dX1_splitRefusal_70 : decode cX1_splitRefusal 70 = .ok (.invokevirtual 71, 3) := by decide +kernel
theorem dX1_splitRefusal_73 : decode cX1_splitRefusal 73 = .ok (.aload 4, 2) := by decide +kernel
theorem dX1_splitRefusal_75 : decode cX1_splitRefusal 75 = .ok (.iload_n 2, 1) := by decide +kernel
theorem dX1_splitRefusal_76 : decode cX1_splitRefusal 76 = .ok (.invokevirtual 75, 3) := by decide +kernel
theorem dX1_splitRefusal_79 : decode cX1_splitRefusal 79 = .ok (.if_icmp .lt 5, 3) := by decide +kernel
theorem dX1_splitRefusal_82 : decode cX1_splitRefusal 82 = .ok (.iconst 2, 1) := by decide +kernel
theorem dX1_splitRefusal_83 : decode cX1_splitRefusal 83 = .ok (.ireturn, 1) := by decide +kernel
theorem dX1_splitRefusal_84 : decode cX1_splitRefusal 84 = .ok (.aload 4, 2) := by decide +kernel
theorem dX1_splitRefusal_86 : decode cX1_splitRefusal 86 = .ok (.getfield 78, 3) := by decide +kernel
theorem dX1_splitRefusal_89 : decode cX1_splitRefusal 89 = .ok (.bipush 16, 2) := by decide +kernel
theorem dX1_splitRefusal_91 : decode cX1_splitRefusal 91 = .ok (.if_icmp .lt 8, 3) := by decide +kernel
theorem dX1_splitRefusal_94 : decode cX1_splitRefusal 94 = .ok (.bipush 8, 2) := by decide +kernel
theorem dX1_splitRefusal_96 : decode cX1_splitRefusal 96 = .ok (.goto 4, 3) := by decide +kernel
theorem dX1_splitRefusal_99 : decode cX1_splitRefusal 99 = .ok (.iconst 0, 1) := by decide +kernel
theorem dX1_splitRefusal_100 : decode cX1_splitRefusal 100 = .ok (.ireturn, 1) := by decide +kernel
theorem dX1_splitCaption_0 : decode cX1_splitCaption 0 = .ok (.aload_n 0, 1) := by decide +kernel
theorem dX1_splitCaption_1 : decode cX1_splitCaption 1 = .ok (.getfield 9, 3) := by decide +kernel
theorem dX1_splitCaption_4 : decode cX1_splitCaption 4 = .ok (.iload_n 1, 1) := by decide +kernel
theorem dX1_splitCaption_5 : decode cX1_splitCaption 5 = .ok (.invokevirtual 29, 3) := by decide +kernel
theorem dX1_splitCaption_8 : decode cX1_splitCaption 8 = .ok (.astore 4, 2) := by decide +kernel
theorem dX1_splitCaption_10 : decode cX1_splitCaption 10 = .ok (.aload_n 0, 1) := by decide +kernel
theorem dX1_splitCaption_11 : decode cX1_splitCaption 11 = .ok (.aload 4, 2) := by decide +kernel
theorem dX1_splitCaption_13 : decode cX1_splitCaption 13 = .ok (.iload_n 2, 1) := by decide +kernel
theorem dX1_splitCaption_14 : decode cX1_splitCaption 14 = .ok (.iload_n 3, 1) := by decide +kernel
theorem dX1_splitCaption_15 : decode cX1_splitCaption 15 = .ok (.invokevirtual 71, 3) := by decide +kernel
theorem dX1_splitCaption_18 : decode cX1_splitCaption 18 = .ok (.istore 5, 2) := by decide +kernel
theorem dX1_splitCaption_20 : decode cX1_splitCaption 20 = .ok (.aload 4, 2) := by decide +kernel
theorem dX1_splitCaption_22 : decode cX1_splitCaption 22 = .ok (.iload_n 2, 1) := by decide +kernel
theorem dX1_splitCaption_23 : decode cX1_splitCaption 23 = .ok (.invokevirtual 82, 3) := by decide +kernel
theorem dX1_splitCaption_26 : decode cX1_splitCaption 26 = .ok (.iload 5, 2) := by decide +kernel
theorem dX1_splitCaption_28 : decode cX1_splitCaption 28 = .ok (.iadd, 1) := by decide +kernel
theorem dX1_splitCaption_29 : decode cX1_splitCaption 29 = .ok (.istore 6, 2) := by decide +kernel
theorem dX1_splitCaption_31 : decode cX1_splitCaption 31 = .ok (.aload 4, 2) := by decide +kernel
theorem dX1_splitCaption_33 : decode cX1_splitCaption 33 = .ok (.iload_n 2, 1) := by decide +kernel
theorem dX1_splitCaption_34 : decode cX1_splitCaption 34 = .ok (.invokevirtual 85, 3) := by decide +kernel
theorem dX1_splitCaption_37 : decode cX1_splitCaption 37 = .ok (.istore 7, 2) := by decide +kernel
theorem dX1_splitCaption_39 : decode cX1_splitCaption 39 = .ok (.aload_n 0, 1) := by decide +kernel
theorem dX1_splitCaption_40 : decode cX1_splitCaption 40 = .ok (.aload 4, 2) := by decide +kernel
theorem dX1_splitCaption_42 : decode cX1_splitCaption 42 = .ok (.iload_n 2, 1) := by decide +kernel
theorem dX1_splitCaption_43 : decode cX1_splitCaption 43 = .ok (.iload_n 3, 1) := by decide +kernel
theorem dX1_splitCaption_44 : decode cX1_splitCaption 44 = .ok (.invokevirtual 63, 3) := by decide +kernel
theorem dX1_splitCaption_47 : decode cX1_splitCaption 47 = .ok (.aload 4, 2) := by decide +kernel
theorem dX1_splitCaption_49 : decode cX1_splitCaption 49 = .ok (.iload_n 2, 1) := by decide +kernel
theorem dX1_splitCaption_50 : decode cX1_splitCaption 50 = .ok (.aload 4, 2) := by decide +kernel
theorem dX1_splitCaption_52 : decode cX1_splitCaption 52 = .ok (.iload_n 2, 1) := by decide +kernel
theorem dX1_splitCaption_53 : decode cX1_splitCaption 53 = .ok (.invokevirtual 82, 3) := by decide +kernel
theorem dX1_splitCaption_56 : decode cX1_splitCaption 56 = .ok (.iload 6, 2) := by decide +kernel
theorem dX1_splitCaption_58 : decode cX1_splitCaption 58 = .ok (.invokevirtual 88, 3) := by decide +kernel
theorem dX1_splitCaption_61 : decode cX1_splitCaption 61 = .ok (.aload 4, 2) := by decide +kernel
theorem dX1_splitCaption_63 : decode cX1_splitCaption 63 = .ok (.iload_n 2, 1) := by decide +kernel
theorem dX1_splitCaption_64 : decode cX1_splitCaption 64 = .ok (.aload_n 0, 1) := by decide +kernel
theorem dX1_splitCaption_65 : decode cX1_splitCaption 65 = .ok (.getfield 22, 3) := by decide +kernel
theorem dX1_splitCaption_68 : decode cX1_splitCaption 68 = .ok (.invokevirtual 92, 3) := by decide +kernel
theorem dX1_splitCaption_71 : decode cX1_splitCaption 71 = .ok (.aload 4, 2) := by decide +kernel
theorem dX1_splitCaption_73 : decode cX1_splitCaption 73 = .ok (.aload 4, 2) := by decide +kernel
theorem dX1_splitCaption_75 : decode cX1_splitCaption 75 = .ok (.iload_n 2, 1) := by decide +kernel
theorem dX1_splitCaption_76 : decode cX1_splitCaption 76 = .ok (.invokevirtual 35, 3) := by decide +kernel
theorem dX1_splitCaption_79 : decode cX1_splitCaption 79 = .ok (.iload 6, 2) := by decide +kernel
theorem dX1_splitCaption_81 : decode cX1_splitCaption 81 = .ok (.iload 7, 2) := by decide +kernel
theorem dX1_splitCaption_83 : decode cX1_splitCaption 83 = .ok (.aload_n 0, 1) := by decide +kernel
theorem dX1_splitCaption_84 : decode cX1_splitCaption 84 = .ok (.getfield 26, 3) := by decide +kernel
theorem dX1_splitCaption_87 : decode cX1_splitCaption 87 = .ok (.invokevirtual 55, 3) := by decide +kernel
theorem dX1_splitCaption_90 : decode cX1_splitCaption 90 = .ok (.pop, 1) := by decide +kernel
theorem dX1_splitCaption_91 : decode cX1_splitCaption 91 = .ok (.iload 5, 2) := by decide +kernel
theorem dX1_splitCaption_93 : decode cX1_splitCaption 93 = .ok (.ireturn, 1) := by decide +kernel
theorem dX1_divideText_0 : decode cX1_divideText 0 = .ok (.aload_n 0, 1) := by decide +kernel
theorem dX1_divideText_1 : decode cX1_divideText 1 = .ok (.getfield 22, 3) := by decide +kernel
theorem dX1_divideText_4 : decode cX1_divideText 4 = .ok (.invokevirtual 41, 3) := by decide +kernel
theorem dX1_divideText_7 : decode cX1_divideText 7 = .ok (.aload_n 1, 1) := by decide +kernel
theorem dX1_divideText_8 : decode cX1_divideText 8 = .ok (.aload_n 0, 1) := by decide +kernel
theorem dX1_divideText_9 : decode cX1_divideText 9 = .ok (.getfield 22, 3) := by decide +kernel
theorem dX1_divideText_12 : decode cX1_divideText 12 = .ok (.iload_n 2, 1) := by decide +kernel
theorem dX1_divideText_13 : decode cX1_divideText 13 = .ok (.iconst 0, 1) := by decide +kernel
theorem dX1_divideText_14 : decode cX1_divideText 14 = .ok (.iload_n 3, 1) := by decide +kernel
theorem dX1_divideText_15 : decode cX1_divideText 15 = .ok (.invokevirtual 47, 3) := by decide +kernel
theorem dX1_divideText_18 : decode cX1_divideText 18 = .ok (.aload_n 0, 1) := by decide +kernel
theorem dX1_divideText_19 : decode cX1_divideText 19 = .ok (.getfield 26, 3) := by decide +kernel
theorem dX1_divideText_22 : decode cX1_divideText 22 = .ok (.invokevirtual 41, 3) := by decide +kernel
theorem dX1_divideText_25 : decode cX1_divideText 25 = .ok (.aload_n 1, 1) := by decide +kernel
theorem dX1_divideText_26 : decode cX1_divideText 26 = .ok (.aload_n 0, 1) := by decide +kernel
theorem dX1_divideText_27 : decode cX1_divideText 27 = .ok (.getfield 26, 3) := by decide +kernel
theorem dX1_divideText_30 : decode cX1_divideText 30 = .ok (.iload_n 2, 1) := by decide +kernel
theorem dX1_divideText_31 : decode cX1_divideText 31 = .ok (.iload_n 3, 1) := by decide +kernel
theorem dX1_divideText_32 : decode cX1_divideText 32 = .ok (.iconst 1, 1) := by decide +kernel
theorem dX1_divideText_33 : decode cX1_divideText 33 = .ok (.iadd, 1) := by decide +kernel
theorem dX1_divideText_34 : decode cX1_divideText 34 = .ok (.aload_n 1, 1) := by decide +kernel
theorem dX1_divideText_35 : decode cX1_divideText 35 = .ok (.iload_n 2, 1) := by decide +kernel
theorem dX1_divideText_36 : decode cX1_divideText 36 = .ok (.invokevirtual 44, 3) := by decide +kernel
theorem dX1_divideText_39 : decode cX1_divideText 39 = .ok (.invokevirtual 47, 3) := by decide +kernel
theorem dX1_divideText_42 : decode cX1_divideText 42 = .ok (.return_, 1) := by decide +kernel
theorem dX1_framesOfHead_0 : decode cX1_framesOfHead 0 = .ok (.aload_n 1, 1) := by decide +kernel
theorem dX1_framesOfHead_1 : decode cX1_framesOfHead 1 = .ok (.iload_n 2, 1) := by decide +kernel
theorem dX1_framesOfHead_2 : decode cX1_framesOfHead 2 = .ok (.iconst 0, 1) := by decide +kernel
theorem dX1_framesOfHead_3 : decode cX1_framesOfHead 3 = .ok (.iload_n 3, 1) := by decide +kernel
theorem dX1_framesOfHead_4 : decode cX1_framesOfHead 4 = .ok (.invokevirtual 96, 3) := by decide +kernel
theorem dX1_framesOfHead_7 : decode cX1_framesOfHead 7 = .ok (.istore 4, 2) := by decide +kernel
theorem dX1_framesOfHead_9 : decode cX1_framesOfHead 9 = .ok (.iload 4, 2) := by decide +kernel
theorem dX1_framesOfHead_11 : decode cX1_framesOfHead 11 = .ok (.aload_n 1, 1) := by decide +kernel
theorem dX1_framesOfHead_12 : decode cX1_framesOfHead 12 = .ok (.iload_n 2, 1) := by decide +kernel
theorem dX1_framesOfHead_13 : decode cX1_framesOfHead 13 = .ok (.iload_n 3, 1) := by decide +kernel
theorem dX1_framesOfHead_14 : decode cX1_framesOfHead 14 = .ok (.iconst 1, 1) := by decide +kernel
theorem dX1_framesOfHead_15 : decode cX1_framesOfHead 15 = .ok (.iadd, 1) := by decide +kernel
theorem dX1_framesOfHead_16 : decode cX1_framesOfHead 16 = .ok (.aload_n 1, 1) := by decide +kernel
theorem dX1_framesOfHead_17 : decode cX1_framesOfHead 17 = .ok (.iload_n 2, 1) := by decide +kernel
theorem dX1_framesOfHead_18 : decode cX1_framesOfHead 18 = .ok (.invokevirtual 44, 3) := by decide +kernel
theorem dX1_framesOfHead_21 : decode cX1_framesOfHead 21 = .ok (.invokevirtual 96, 3) := by decide +kernel
theorem dX1_framesOfHead_24 : decode cX1_framesOfHead 24 = .ok (.iadd, 1) := by decide +kernel
theorem dX1_framesOfHead_25 : decode cX1_framesOfHead 25 = .ok (.istore 5, 2) := by decide +kernel
theorem dX1_framesOfHead_27 : decode cX1_framesOfHead 27 = .ok (.iload 5, 2) := by decide +kernel
theorem dX1_framesOfHead_29 : decode cX1_framesOfHead 29 = .ok (.ifCond .le 21, 3) := by decide +kernel
theorem dX1_framesOfHead_32 : decode cX1_framesOfHead 32 = .ok (.iconst 1, 1) := by decide +kernel
theorem dX1_framesOfHead_33 : decode cX1_framesOfHead 33 = .ok (.aload_n 1, 1) := by decide +kernel
theorem dX1_framesOfHead_34 : decode cX1_framesOfHead 34 = .ok (.iload_n 2, 1) := by decide +kernel
theorem dX1_framesOfHead_35 : decode cX1_framesOfHead 35 = .ok (.invokevirtual 75, 3) := by decide +kernel
theorem dX1_framesOfHead_38 : decode cX1_framesOfHead 38 = .ok (.iload 4, 2) := by decide +kernel
theorem dX1_framesOfHead_40 : decode cX1_framesOfHead 40 = .ok (.imul, 1) := by decide +kernel
theorem dX1_framesOfHead_41 : decode cX1_framesOfHead 41 = .ok (.iload 5, 2) := by decide +kernel
theorem dX1_framesOfHead_43 : decode cX1_framesOfHead 43 = .ok (.idiv, 1) := by decide +kernel
theorem dX1_framesOfHead_44 : decode cX1_framesOfHead 44 = .ok (.invokestatic 100, 3) := by decide +kernel
theorem dX1_framesOfHead_47 : decode cX1_framesOfHead 47 = .ok (.goto 4, 3) := by decide +kernel
theorem dX1_framesOfHead_50 : decode cX1_framesOfHead 50 = .ok (.iconst 1, 1) := by decide +kernel
theorem dX1_framesOfHead_51 : decode cX1_framesOfHead 51 = .ok (.ireturn, 1) := by decide +kernel
theorem dX1_mergeCaption_0 : decode cX1_mergeCaption 0 = .ok (.aload_n 0, 1) := by decide +kernel
theorem dX1_mergeCaption_1 : decode cX1_mergeCaption 1 = .ok (.getfield 9, 3) := by decide +kernel
theorem dX1_mergeCaption_4 : decode cX1_mergeCaption 4 = .ok (.iload_n 1, 1) := by decide +kernel
theorem dX1_mergeCaption_5 : decode cX1_mergeCaption 5 = .ok (.invokevirtual 29, 3) := by decide +kernel
theorem dX1_mergeCaption_8 : decode cX1_mergeCaption 8 = .ok (.astore_n 3, 1) := by decide +kernel
theorem dX1_mergeCaption_9 : decode cX1_mergeCaption 9 = .ok (.aload_n 0, 1) := by decide +kernel
theorem dX1_mergeCaption_10 : decode cX1_mergeCaption 10 = .ok (.getfield 15, 3) := by decide +kernel
theorem dX1_mergeCaption_13 : decode cX1_mergeCaption 13 = .ok (.iload_n 1, 1) := by decide +kernel
theorem dX1_mergeCaption_14 : decode cX1_mergeCaption 14 = .ok (.iload_n 2, 1) := by decide +kernel
theorem dX1_mergeCaption_15 : decode cX1_mergeCaption 15 = .ok (.invokevirtual 105, 3) := by decide +kernel
theorem dX1_mergeCaption_18 : decode cX1_mergeCaption 18 = .ok (.astore 4, 2) := by decide +kernel
theorem dX1_mergeCaption_20 : decode cX1_mergeCaption 20 = .ok (.aload_n 3, 1) := by decide +kernel
theorem dX1_mergeCaption_21 : decode cX1_mergeCaption 21 = .ok (.iload_n 2, 1) := by decide +kernel
theorem dX1_mergeCaption_22 : decode cX1_mergeCaption 22 = .ok (.aload_n 3, 1) := by decide +kernel
theorem dX1_mergeCaption_23 : decode cX1_mergeCaption 23 = .ok (.iload_n 2, 1) := by decide +kernel
theorem dX1_mergeCaption_24 : decode cX1_mergeCaption 24 = .ok (.invokevirtual 82, 3) := by decide +kernel
theorem dX1_mergeCaption_27 : decode cX1_mergeCaption 27 = .ok (.aload_n 3, 1) := by decide +kernel
theorem dX1_mergeCaption_28 : decode cX1_mergeCaption 28 = .ok (.iload_n 2, 1) := by decide +kernel
theorem dX1_mergeCaption_29 : decode cX1_mergeCaption 29 = .ok (.iconst 1, 1) := by decide +kernel
theorem dX1_mergeCaption_30 : decode cX1_mergeCaption 30 = .ok (.iadd, 1) := by decide +kernel
theorem dX1_mergeCaption_31 : decode cX1_mergeCaption 31 = .ok (.invokevirtual 85, 3) := by decide +kernel
theorem dX1_mergeCaption_34 : decode cX1_mergeCaption 34 = .ok (.invokevirtual 88, 3) := by decide +kernel
theorem dX1_mergeCaption_37 : decode cX1_mergeCaption 37 = .ok (.aload_n 3, 1) := by decide +kernel
theorem dX1_mergeCaption_38 : decode cX1_mergeCaption 38 = .ok (.iload_n 2, 1) := by decide +kernel
theorem dX1_mergeCaption_39 : decode cX1_mergeCaption 39 = .ok (.aload 4, 2) := by decide +kernel
theorem dX1_mergeCaption_41 : decode cX1_mergeCaption 41 = .ok (.invokevirtual 92, 3) := by decide +kernel
theorem dX1_mergeCaption_44 : decode cX1_mergeCaption 44 = .ok (.aload_n 3, 1) := by decide +kernel
theorem dX1_mergeCaption_45 : decode cX1_mergeCaption 45 = .ok (.iload_n 2, 1) := by decide +kernel
theorem dX1_mergeCaption_46 : decode cX1_mergeCaption 46 = .ok (.iconst 1, 1) := by decide +kernel
theorem dX1_mergeCaption_47 : decode cX1_mergeCaption 47 = .ok (.iadd, 1) := by decide +kernel
theorem dX1_mergeCaption_48 : decode cX1_mergeCaption 48 = .ok (.invokevirtual 51, 3) := by decide +kernel
theorem dX1_mergeCaption_51 : decode cX1_mergeCaption 51 = .ok (.aload_n 3, 1) := by decide +kernel
theorem dX1_mergeCaption_52 : decode cX1_mergeCaption 52 = .ok (.iload_n 2, 1) := by decide +kernel
theorem dX1_mergeCaption_53 : decode cX1_mergeCaption 53 = .ok (.invokevirtual 111, 3) := by decide +kernel
theorem dX1_mergeCaption_56 : decode cX1_mergeCaption 56 = .ok (.ireturn, 1) := by decide +kernel
theorem dX1_snapped_0 : decode cX1_snapped 0 = .ok (.aload_n 0, 1) := by decide +kernel
theorem dX1_snapped_1 : decode cX1_snapped 1 = .ok (.getfield 9, 3) := by decide +kernel
theorem dX1_snapped_4 : decode cX1_snapped 4 = .ok (.iload_n 1, 1) := by decide +kernel
theorem dX1_snapped_5 : decode cX1_snapped 5 = .ok (.invokevirtual 114, 3) := by decide +kernel
theorem dX1_snapped_8 : decode cX1_snapped 8 = .ok (.ifCond .eq 17, 3) := by decide +kernel
theorem dX1_snapped_11 : decode cX1_snapped 11 = .ok (.aload_n 0, 1) := by decide +kernel
theorem dX1_snapped_12 : decode cX1_snapped 12 = .ok (.getfield 9, 3) := by decide +kernel
theorem dX1_snapped_15 : decode cX1_snapped 15 = .ok (.getfield 118, 3) := by decide +kernel
theorem dX1_snapped_18 : decode cX1_snapped 18 = .ok (.iload_n 1, 1) := by decide +kernel
theorem dX1_snapped_19 : decode cX1_snapped 19 = .ok (.invokevirtual 122, 3) := by decide +kernel
theorem dX1_snapped_22 : decode cX1_snapped 22 = .ok (.goto 4, 3) := by decide +kernel
theorem dX1_snapped_25 : decode cX1_snapped 25 = .ok (.iload_n 1, 1) := by decide +kernel
theorem dX1_snapped_26 : decode cX1_snapped 26 = .ok (.ireturn, 1) := by decide +kernel
theorem dX1_snapRefusal_0 : decode cX1_snapRefusal 0 = .ok (.aload_n 0, 1) := by decide +kernel
theorem dX1_snapRefusal_1 : decode cX1_snapRefusal 1 = .ok (.getfield 9, 3) := by decide +kernel
theorem dX1_snapRefusal_4 : decode cX1_snapRefusal 4 = .ok (.iload_n 1, 1) := by decide +kernel
theorem dX1_snapRefusal_5 : decode cX1_snapRefusal 5 = .ok (.invokevirtual 29, 3) := by decide +kernel
theorem dX1_snapRefusal_8 : decode cX1_snapRefusal 8 = .ok (.astore_n 3, 1) := by decide +kernel
theorem dX1_snapRefusal_9 : decode cX1_snapRefusal 9 = .ok (.aload_n 0, 1) := by decide +kernel
theorem dX1_snapRefusal_10 : decode cX1_snapRefusal 10 = .ok (.getfield 9, 3) := by decide +kernel
theorem dX1_snapRefusal_13 : decode cX1_snapRefusal 13 = .ok (.iload_n 1, 1) := by decide +kernel
theorem dX1_snapRefusal_14 : decode cX1_snapRefusal 14 = .ok (.iload_n 2, 1) := by decide +kernel
theorem dX1_snapRefusal_15 : decode cX1_snapRefusal 15 = .ok (.aload_n 0, 1) := by decide +kernel
theorem dX1_snapRefusal_16 : decode cX1_snapRefusal 16 = .ok (.aload_n 3, 1) := by decide +kernel
theorem dX1_snapRefusal_17 : decode cX1_snapRefusal 17 = .ok (.iload_n 2, 1) := by decide +kernel
theorem dX1_snapRefusal_18 : decode cX1_snapRefusal 18 = .ok (.invokevirtual 82, 3) := by decide +kernel
theorem dX1_snapRefusal_21 : decode cX1_snapRefusal 21 = .ok (.invokevirtual 127, 3) := by decide +kernel
theorem dX1_snapRefusal_24 : decode cX1_snapRefusal 24 = .ok (.aload_n 0, 1) := by decide +kernel
theorem dX1_snapRefusal_25 : decode cX1_snapRefusal 25 = .ok (.aload_n 3, 1) := by decide +kernel
theorem dX1_snapRefusal_26 : decode cX1_snapRefusal 26 = .ok (.iload_n 2, 1) := by decide +kernel
theorem dX1_snapRefusal_27 : decode cX1_snapRefusal 27 = .ok (.invokevirtual 85, 3) := by decide +kernel
theorem dX1_snapRefusal_30 : decode cX1_snapRefusal 30 = .ok (.invokevirtual 127, 3) := by decide +kernel
theorem dX1_snapRefusal_33 : decode cX1_snapRefusal 33 = .ok (.invokevirtual 130, 3) := by decide +kernel
theorem dX1_snapRefusal_36 : decode cX1_snapRefusal 36 = .ok (.ireturn, 1) := by decide +kernel
theorem dX1_snapCaption_0 : decode cX1_snapCaption 0 = .ok (.aload_n 0, 1) := by decide +kernel
theorem dX1_snapCaption_1 : decode cX1_snapCaption 1 = .ok (.getfield 9, 3) := by decide +kernel
theorem dX1_snapCaption_4 : decode cX1_snapCaption 4 = .ok (.iload_n 1, 1) := by decide +kernel
theorem dX1_snapCaption_5 : decode cX1_snapCaption 5 = .ok (.invokevirtual 29, 3) := by decide +kernel
theorem dX1_snapCaption_8 : decode cX1_snapCaption 8 = .ok (.astore_n 3, 1) := by decide +kernel
theorem dX1_snapCaption_9 : decode cX1_snapCaption 9 = .ok (.aload_n 0, 1) := by decide +kernel
theorem dX1_snapCaption_10 : decode cX1_snapCaption 10 = .ok (.aload_n 3, 1) := by decide +kernel
theorem dX1_snapCaption_11 : decode cX1_snapCaption 11 = .ok (.iload_n 2, 1) := by decide +kernel
theorem dX1_snapCaption_12 : decode cX1_snapCaption 12 = .ok (.invokevirtual 82, 3) := by decide +kernel
theorem dX1_snapCaption_15 : decode cX1_snapCaption 15 = .ok (.invokevirtual 127, 3) := by decide +kernel
theorem dX1_snapCaption_18 : decode cX1_snapCaption 18 = .ok (.istore 4, 2) := by decide +kernel
theorem dX1_snapCaption_20 : decode cX1_snapCaption 20 = .ok (.aload_n 0, 1) := by decide +kernel
theorem dX1_snapCaption_21 : decode cX1_snapCaption 21 = .ok (.aload_n 3, 1) := by decide +kernel
theorem dX1_snapCaption_22 : decode cX1_snapCaption 22 = .ok (.iload_n 2, 1) := by decide +kernel
theorem dX1_snapCaption_23 : decode cX1_snapCaption 23 = .ok (.invokevirtual 85, 3) := by decide +kernel
theorem dX1_snapCaption_26 : decode cX1_snapCaption 26 = .ok (.invokevirtual 127, 3) := by decide +kernel
theorem dX1_snapCaption_29 : decode cX1_snapCaption 29 = .ok (.istore 5, 2) := by decide +kernel
theorem dX1_snapCaption_31 : decode cX1_snapCaption 31 = .ok (.iload 4, 2) := by decide +kernel
theorem dX1_snapCaption_33 : decode cX1_snapCaption 33 = .ok (.aload_n 3, 1) := by decide +kernel
theorem dX1_snapCaption_34 : decode cX1_snapCaption 34 = .ok (.iload_n 2, 1) := by decide +kernel
theorem dX1_snapCaption_35 : decode cX1_snapCaption 35 = .ok (.invokevirtual 82, 3) := by decide +kernel
theorem dX1_snapCaption_38 : decode cX1_snapCaption 38 = .ok (.if_icmp .eq 7, 3) := by decide +kernel
theorem dX1_snapCaption_41 : decode cX1_snapCaption 41 = .ok (.iconst 1, 1) := by decide +kernel
theorem dX1_snapCaption_42 : decode cX1_snapCaption 42 = .ok (.goto 4, 3) := by decide +kernel
theorem dX1_snapCaption_45 : decode cX1_snapCaption 45 = .ok (.iconst 0, 1) := by decide +kernel
theorem dX1_snapCaption_46 : decode cX1_snapCaption 46 = .ok (.iload 5, 2) := by decide +kernel
theorem dX1_snapCaption_48 : decode cX1_snapCaption 48 = .ok (.aload_n 3, 1) := by decide +kernel
theorem dX1_snapCaption_49 : decode cX1_snapCaption 49 = .ok (.iload_n 2, 1) := by decide +kernel
theorem dX1_snapCaption_50 : decode cX1_snapCaption 50 = .ok (.invokevirtual 85, 3) := by decide +kernel
theorem dX1_snapCaption_53 : decode cX1_snapCaption 53 = .ok (.if_icmp .eq 7, 3) := by decide +kernel
theorem dX1_snapCaption_56 : decode cX1_snapCaption 56 = .ok (.iconst 2, 1) := by decide +kernel
theorem dX1_snapCaption_57 : decode cX1_snapCaption 57 = .ok (.goto 4, 3) := by decide +kernel
theorem dX1_snapCaption_60 : decode cX1_snapCaption 60 = .ok (.iconst 0, 1) := by decide +kernel
theorem dX1_snapCaption_61 : decode cX1_snapCaption 61 = .ok (.iadd, 1) := by decide +kernel
theorem dX1_snapCaption_62 : decode cX1_snapCaption 62 = .ok (.istore 6, 2) := by decide +kernel
theorem dX1_snapCaption_64 : decode cX1_snapCaption 64 = .ok (.aload_n 0, 1) := by decide +kernel
theorem dX1_snapCaption_65 : decode cX1_snapCaption 65 = .ok (.iload_n 1, 1) := by decide +kernel
theorem dX1_snapCaption_66 : decode cX1_snapCaption 66 = .ok (.iload_n 2, 1) := by decide +kernel
theorem dX1_snapCaption_67 : decode cX1_snapCaption 67 = .ok (.iload 4, 2) := by decide +kernel
theorem dX1_snapCaption_69 : decode cX1_snapCaption 69 = .ok (.iload 5, 2) := by decide +kernel
theorem dX1_snapCaption_71 : decode cX1_snapCaption 71 = .ok (.invokevirtual 134, 3) := by decide +kernel
theorem dX1_snapCaption_74 : decode cX1_snapCaption 74 = .ok (.pop, 1) := by decide +kernel
theorem dX1_snapCaption_75 : decode cX1_snapCaption 75 = .ok (.iload 6, 2) := by decide +kernel
theorem dX1_snapCaption_77 : decode cX1_snapCaption 77 = .ok (.ireturn, 1) := by decide +kernel
theorem dX1_fitCaption_0 : decode cX1_fitCaption 0 = .ok (.aload_n 0, 1) := by decide +kernel
theorem dX1_fitCaption_1 : decode cX1_fitCaption 1 = .ok (.getfield 9, 3) := by decide +kernel
theorem dX1_fitCaption_4 : decode cX1_fitCaption 4 = .ok (.iload_n 1, 1) := by decide +kernel
theorem dX1_fitCaption_5 : decode cX1_fitCaption 5 = .ok (.invokevirtual 29, 3) := by decide +kernel
theorem dX1_fitCaption_8 : decode cX1_fitCaption 8 = .ok (.astore_n 3, 1) := by decide +kernel
theorem dX1_fitCaption_9 : decode cX1_fitCaption 9 = .ok (.aload_n 3, 1) := by decide +kernel
theorem dX1_fitCaption_10 : decode cX1_fitCaption 10 = .ok (.iload_n 2, 1) := by decide +kernel
theorem dX1_fitCaption_11 : decode cX1_fitCaption 11 = .ok (.invokevirtual 85, 3) := by decide +kernel
theorem dX1_fitCaption_14 : decode cX1_fitCaption 14 = .ok (.istore 4, 2) := by decide +kernel
theorem dX1_fitCaption_16 : decode cX1_fitCaption 16 = .ok (.aload_n 0, 1) := by decide +kernel
theorem dX1_fitCaption_17 : decode cX1_fitCaption 17 = .ok (.getfield 9, 3) := by decide +kernel
theorem dX1_fitCaption_20 : decode cX1_fitCaption 20 = .ok (.getfield 137, 3) := by decide +kernel
theorem dX1_fitCaption_23 : decode cX1_fitCaption 23 = .ok (.aload_n 3, 1) := by decide +kernel
theorem dX1_fitCaption_24 : decode cX1_fitCaption 24 = .ok (.iload_n 2, 1) := by decide +kernel
theorem dX1_fitCaption_25 : decode cX1_fitCaption 25 = .ok (.invokevirtual 82, 3) := by decide +kernel
theorem dX1_fitCaption_28 : decode cX1_fitCaption 28 = .ok (.aload_n 0, 1) := by decide +kernel
theorem dX1_fitCaption_29 : decode cX1_fitCaption 29 = .ok (.getfield 15, 3) := by decide +kernel
theorem dX1_fitCaption_32 : decode cX1_fitCaption 32 = .ok (.iload_n 1, 1) := by decide +kernel
theorem dX1_fitCaption_33 : decode cX1_fitCaption 33 = .ok (.iload_n 2, 1) := by decide +kernel
theorem dX1_fitCaption_34 : decode cX1_fitCaption 34 = .ok (.invokevirtual 140, 3) := by decide +kernel
theorem dX1_fitCaption_37 : decode cX1_fitCaption 37 = .ok (.iadd, 1) := by decide +kernel
theorem dX1_fitCaption_38 : decode cX1_fitCaption 38 = .ok (.invokestatic 143, 3) := by decide +kernel
theorem dX1_fitCaption_41 : decode cX1_fitCaption 41 = .ok (.istore 5, 2) := by decide +kernel
theorem dX1_fitCaption_43 : decode cX1_fitCaption 43 = .ok (.aload_n 3, 1) := by decide +kernel
theorem dX1_fitCaption_44 : decode cX1_fitCaption 44 = .ok (.iload_n 2, 1) := by decide +kernel
theorem dX1_fitCaption_45 : decode cX1_fitCaption 45 = .ok (.iconst 1, 1) := by decide +kernel
theorem dX1_fitCaption_46 : decode cX1_fitCaption 46 = .ok (.iadd, 1) := by decide +kernel
theorem dX1_fitCaption_47 : decode cX1_fitCaption 47 = .ok (.invokevirtual 146, 3) := by decide +kernel
theorem dX1_fitCaption_50 : decode cX1_fitCaption 50 = .ok (.ifCond .eq 26, 3) := by decide +kernel
theorem dX1_fitCaption_53 : decode cX1_fitCaption 53 = .ok (.iload 5, 2) := by decide +kernel
theorem dX1_fitCaption_55 : decode cX1_fitCaption 55 = .ok (.aload_n 3, 1) := by decide +kernel
theorem dX1_fitCaption_56 : decode cX1_fitCaption 56 = .ok (.iload_n 2, 1) := by decide +kernel
theorem dX1_fitCaption_57 : decode cX1_fitCaption 57 = .ok (.iconst 1, 1) := by decide +kernel
theorem dX1_fitCaption_58 : decode cX1_fitCaption 58 = .ok (.iadd, 1) := by decide +kernel
theorem dX1_fitCaption_59 : decode cX1_fitCaption 59 = .ok (.invokevirtual 82, 3) := by decide +kernel
theorem dX1_fitCaption_62 : decode cX1_fitCaption 62 = .ok (.aload_n 0, 1) := by decide +kernel
theorem dX1_fitCaption_63 : decode cX1_fitCaption 63 = .ok (.getfield 9, 3) := by decide +kernel
theorem dX1_fitCaption_66 : decode cX1_fitCaption 66 = .ok (.iconst 2, 1) := by decide +kernel
theorem dX1_fitCaption_67 : decode cX1_fitCaption 67 = .ok (.invokevirtual 149, 3) := by decide +kernel
theorem dX1_fitCaption_70 : decode cX1_fitCaption 70 = .ok (.isub, 1) := by decide +kernel
theorem dX1_fitCaption_71 : decode cX1_fitCaption 71 = .ok (.invokestatic 143, 3) := by decide +kernel
theorem dX1_fitCaption_74 : decode cX1_fitCaption 74 = .ok (.istore 5, 2) := by decide +kernel
theorem dX1_fitCaption_76 : decode cX1_fitCaption 76 = .ok (.aload_n 0, 1) := by decide +kernel
theorem dX1_fitCaption_77 : decode cX1_fitCaption 77 = .ok (.getfield 9, 3) := by decide +kernel
theorem dX1_fitCaption_80 : decode cX1_fitCaption 80 = .ok (.getfield 118, 3) := by decide +kernel
theorem dX1_fitCaption_83 : decode cX1_fitCaption 83 = .ok (.iload 4, 2) := by decide +kernel
theorem dX1_fitCaption_85 : decode cX1_fitCaption 85 = .ok (.invokevirtual 152, 3) := by decide +kernel
theorem dX1_fitCaption_88 : decode cX1_fitCaption 88 = .ok (.istore 6, 2) := by decide +kernel
theorem dX1_fitCaption_90 : decode cX1_fitCaption 90 = .ok (.iload 6, 2) := by decide +kernel
theorem dX1_fitCaption_92 : decode cX1_fitCaption 92 = .ok (.iconst (-1), 1) := by decide +kernel
theorem dX1_fitCaption_93 : decode cX1_fitCaption 93 = .ok (.if_icmp .eq 12, 3) := by decide +kernel
theorem dX1_fitCaption_96 : decode cX1_fitCaption 96 = .ok (.iload 5, 2) := by decide +kernel
theorem dX1_fitCaption_98 : decode cX1_fitCaption 98 = .ok (.iload 6, 2) := by decide +kernel
theorem dX1_fitCaption_100 : decode cX1_fitCaption 100 = .ok (.invokestatic 143, 3) := by decide +kernel
theorem dX1_fitCaption_103 : decode cX1_fitCaption 103 = .ok (.istore 5, 2) := by decide +kernel
theorem dX1_fitCaption_105 : decode cX1_fitCaption 105 = .ok (.iconst 0, 1) := by decide +kernel
theorem dX1_fitCaption_106 : decode cX1_fitCaption 106 = .ok (.iload 5, 2) := by decide +kernel
theorem dX1_fitCaption_108 : decode cX1_fitCaption 108 = .ok (.iload 4, 2) := by decide +kernel
theorem dX1_fitCaption_110 : decode cX1_fitCaption 110 = .ok (.isub, 1) := by decide +kernel
theorem dX1_fitCaption_111 : decode cX1_fitCaption 111 = .ok (.invokestatic 100, 3) := by decide +kernel
theorem dX1_fitCaption_114 : decode cX1_fitCaption 114 = .ok (.istore 7, 2) := by decide +kernel
theorem dX1_fitCaption_116 : decode cX1_fitCaption 116 = .ok (.aload_n 3, 1) := by decide +kernel
theorem dX1_fitCaption_117 : decode cX1_fitCaption 117 = .ok (.iload_n 2, 1) := by decide +kernel
theorem dX1_fitCaption_118 : decode cX1_fitCaption 118 = .ok (.aload_n 3, 1) := by decide +kernel
theorem dX1_fitCaption_119 : decode cX1_fitCaption 119 = .ok (.iload_n 2, 1) := by decide +kernel
theorem dX1_fitCaption_120 : decode cX1_fitCaption 120 = .ok (.invokevirtual 82, 3) := by decide +kernel
theorem dX1_fitCaption_123 : decode cX1_fitCaption 123 = .ok (.iload 4, 2) := by decide +kernel
theorem dX1_fitCaption_125 : decode cX1_fitCaption 125 = .ok (.iload 7, 2) := by decide +kernel
theorem dX1_fitCaption_127 : decode cX1_fitCaption 127 = .ok (.iadd, 1) := by decide +kernel
theorem dX1_fitCaption_128 : decode cX1_fitCaption 128 = .ok (.invokevirtual 88, 3) := by decide +kernel
theorem dX1_fitCaption_131 : decode cX1_fitCaption 131 = .ok (.iload 7, 2) := by decide +kernel
theorem dX1_fitCaption_133 : decode cX1_fitCaption 133 = .ok (.ireturn, 1) := by decide +kernel
theorem dX1_retimeRefusal_0 : decode cX1_retimeRefusal 0 = .ok (.iconst 0, 1) := by decide +kernel
theorem dX1_retimeRefusal_1 : decode cX1_retimeRefusal 1 = .ok (.istore_n 3, 1) := by decide +kernel
theorem dX1_retimeRefusal_2 : decode cX1_retimeRefusal 2 = .ok (.iconst 0, 1) := by decide +kernel
theorem dX1_retimeRefusal_3 : decode cX1_retimeRefusal 3 = .ok (.istore 4, 2) := by decide +kernel
theorem dX1_retimeRefusal_5 : decode cX1_retimeRefusal 5 = .ok (.iload 4, 2) := by decide +kernel
theorem dX1_retimeRefusal_7 : decode cX1_retimeRefusal 7 = .ok (.iconst 2, 1) := by decide +kernel
theorem dX1_retimeRefusal_8 : decode cX1_retimeRefusal 8 = .ok (.if_icmp .ge 97, 3) := by decide +kernel
theorem dX1_retimeRefusal_11 : decode cX1_retimeRefusal 11 = .ok (.aload_n 0, 1) := by decide +kernel
theorem dX1_retimeRefusal_12 : decode cX1_retimeRefusal 12 = .ok (.getfield 9, 3) := by decide +kernel
theorem dX1_retimeRefusal_15 : decode cX1_retimeRefusal 15 = .ok (.iload 4, 2) := by decide +kernel
theorem dX1_retimeRefusal_17 : decode cX1_retimeRefusal 17 = .ok (.invokevirtual 29, 3) := by decide +kernel
theorem dX1_retimeRefusal_20 : decode cX1_retimeRefusal 20 = .ok (.astore 5, 2) := by decide +kernel
theorem dX1_retimeRefusal_22 : decode cX1_retimeRefusal 22 = .ok (.iconst 0, 1) := by decide +kernel
theorem dX1_retimeRefusal_23 : decode cX1_retimeRefusal 23 = .ok (.istore 6, 2) := by decide +kernel
theorem dX1_retimeRefusal_25 : decode cX1_retimeRefusal 25 = .ok (.iload 6, 2) := by decide +kernel
theorem dX1_retimeRefusal_27 : decode cX1_retimeRefusal 27 = .ok (.aload 5, 2) := by decide +kernel
theorem dX1_retimeRefusal_29 : decode cX1_retimeRefusal 29 = .ok (.getfield 78, 3) := by decide +kernel
theorem dX1_retimeRefusal_32 : decode cX1_retimeRefusal 32 = .ok (.if_icmp .ge 67, 3) := by decide +kernel
theorem dX1_retimeRefusal_35 : decode cX1_retimeRefusal 35 = .ok (.iload_n 1, 1) := by decide +kernel
theorem dX1_retimeRefusal_36 : decode cX1_retimeRefusal 36 = .ok (.iload 4, 2) := by decide +kernel
theorem dX1_retimeRefusal_38 : decode cX1_retimeRefusal 38 = .ok (.invokestatic 155, 3) := by decide +kernel
theorem dX1_retimeRefusal_41 : decode cX1_retimeRefusal 41 = .ok (.ifCond .eq 58, 3) := by decide +kernel
theorem dX1_retimeRefusal_44 : decode cX1_retimeRefusal 44 = .ok (.aload_n 0, 1) := by decide +kernel
theorem dX1_retimeRefusal_45 : decode cX1_retimeRefusal 45 = .ok (.getfield 9, 3) := by decide +kernel
theorem dX1_retimeRefusal_48 : decode cX1_retimeRefusal 48 = .ok (.aload_n 2, 1) := by decide +kernel
theorem dX1_retimeRefusal_49 : decode cX1_retimeRefusal 49 = .ok (.aload 5, 2) := by decide +kernel
theorem dX1_retimeRefusal_51 : decode cX1_retimeRefusal 51 = .ok (.iload 6, 2) := by decide +kernel
theorem dX1_retimeRefusal_53 : decode cX1_retimeRefusal 53 = .ok (.invokevirtual 82, 3) := by decide +kernel
theorem dX1_retimeRefusal_56 : decode cX1_retimeRefusal 56 = .ok (.invokevirtual 159, 3) := by decide +kernel
theorem dX1_retimeRefusal_59 : decode cX1_retimeRefusal 59 = .ok (.aload_n 2, 1) := by decide +kernel
theorem dX1_retimeRefusal_60 : decode cX1_retimeRefusal 60 = .ok (.aload 5, 2) := by decide +kernel
theorem dX1_retimeRefusal_62 : decode cX1_retimeRefusal 62 = .ok (.iload 6, 2) := by decide +kernel
theorem dX1_retimeRefusal_64 : decode cX1_retimeRefusal 64 = .ok (.invokevirtual 85, 3) := by decide +kernel
theorem dX1_retimeRefusal_67 : decode cX1_retimeRefusal 67 = .ok (.invokevirtual 159, 3) := by decide +kernel
theorem dX1_retimeRefusal_70 : decode cX1_retimeRefusal 70 = .ok (.invokevirtual 164, 3) := by decide +kernel
theorem dX1_retimeRefusal_73 : decode cX1_retimeRefusal 73 = .ok (.istore 7, 2) := by decide +kernel
theorem dX1_retimeRefusal_75 : decode cX1_retimeRefusal 75 = .ok (.iload_n 3, 1) := by decide +kernel
theorem dX1_retimeRefusal_76 : decode cX1_retimeRefusal 76 = .ok (.ifCond .eq 14, 3) := by decide +kernel
theorem dX1_retimeRefusal_79 : decode cX1_retimeRefusal 79 = .ok (.iload 7, 2) := by decide +kernel
theorem dX1_retimeRefusal_81 : decode cX1_retimeRefusal 81 = .ok (.ifCond .eq 12, 3) := by decide +kernel
theorem dX1_retimeRefusal_84 : decode cX1_retimeRefusal 84 = .ok (.iload 7, 2) := by decide +kernel
theorem dX1_retimeRefusal_86 : decode cX1_retimeRefusal 86 = .ok (.iload_n 3, 1) := by decide +kernel
theorem dX1_retimeRefusal_87 : decode cX1_retimeRefusal 87 = .ok (.if_icmp .ge 6, 3) := by decide +kernel
theorem dX1_retimeRefusal_90 : decode cX1_retimeRefusal 90 = .ok (.iload 7, 2) := by decide +kernel
theorem dX1_retimeRefusal_92 : decode cX1_retimeRefusal 92 = .ok (.istore_n 3, 1) := by decide +kernel
theorem dX1_retimeRefusal_93 : decode cX1_retimeRefusal 93 = .ok (.iinc 6 1, 3) := by decide +kernel
theorem dX1_retimeRefusal_96 : decode cX1_retimeRefusal 96 = .ok (.goto (-71), 3) := by decide +kernel
theorem dX1_retimeRefusal_99 : decode cX1_retimeRefusal 99 = .ok (.iinc 4 1, 3) := by decide +kernel
theorem dX1_retimeRefusal_102 : decode cX1_retimeRefusal 102 = .ok (.goto (-97), 3) := by decide +kernel
theorem dX1_retimeRefusal_105 : decode cX1_retimeRefusal 105 = .ok (.iload_n 3, 1) := by decide +kernel
theorem dX1_retimeRefusal_106 : decode cX1_retimeRefusal 106 = .ok (.ireturn, 1) := by decide +kernel
theorem dX1_retimeCaptions_0 : decode cX1_retimeCaptions 0 = .ok (.iconst 0, 1) := by decide +kernel
theorem dX1_retimeCaptions_1 : decode cX1_retimeCaptions 1 = .ok (.istore_n 3, 1) := by decide +kernel
theorem dX1_retimeCaptions_2 : decode cX1_retimeCaptions 2 = .ok (.iconst 0, 1) := by decide +kernel
theorem dX1_retimeCaptions_3 : decode cX1_retimeCaptions 3 = .ok (.istore 4, 2) := by decide +kernel
theorem dX1_retimeCaptions_5 : decode cX1_retimeCaptions 5 = .ok (.iload 4, 2) := by decide +kernel
theorem dX1_retimeCaptions_7 : decode cX1_retimeCaptions 7 = .ok (.iconst 2, 1) := by decide +kernel
theorem dX1_retimeCaptions_8 : decode cX1_retimeCaptions 8 = .ok (.if_icmp .ge 112, 3) := by decide +kernel
theorem dX1_retimeCaptions_11 : decode cX1_retimeCaptions 11 = .ok (.aload_n 0, 1) := by decide +kernel
theorem dX1_retimeCaptions_12 : decode cX1_retimeCaptions 12 = .ok (.getfield 9, 3) := by decide +kernel
theorem dX1_retimeCaptions_15 : decode cX1_retimeCaptions 15 = .ok (.iload 4, 2) := by decide +kernel
theorem dX1_retimeCaptions_17 : decode cX1_retimeCaptions 17 = .ok (.invokevirtual 29, 3) := by decide +kernel
theorem dX1_retimeCaptions_20 : decode cX1_retimeCaptions 20 = .ok (.astore 5, 2) := by decide +kernel
theorem dX1_retimeCaptions_22 : decode cX1_retimeCaptions 22 = .ok (.iconst 0, 1) := by decide +kernel
theorem dX1_retimeCaptions_23 : decode cX1_retimeCaptions 23 = .ok (.istore 6, 2) := by decide +kernel
theorem dX1_retimeCaptions_25 : decode cX1_retimeCaptions 25 = .ok (.iload 6, 2) := by decide +kernel
theorem dX1_retimeCaptions_27 : decode cX1_retimeCaptions 27 = .ok (.aload 5, 2) := by decide +kernel
theorem dX1_retimeCaptions_29 : decode cX1_retimeCaptions 29 = .ok (.getfield 78, 3) := by decide +kernel
theorem dX1_retimeCaptions_32 : decode cX1_retimeCaptions 32 = .ok (.if_icmp .ge 82, 3) := by decide +kernel
theorem dX1_retimeCaptions_35 : decode cX1_retimeCaptions 35 = .ok (.iload_n 1, 1) := by decide +kernel
theorem dX1_retimeCaptions_36 : decode cX1_retimeCaptions 36 = .ok (.iload 4, 2) := by decide +kernel
theorem dX1_retimeCaptions_38 : decode cX1_retimeCaptions 38 = .ok (.invokestatic 155, 3) := by decide +kernel
theorem dX1_retimeCaptions_41 : decode cX1_retimeCaptions 41 = .ok (.ifCond .eq 73, 3) := by decide +kernel
theorem dX1_retimeCaptions_44 : decode cX1_retimeCaptions 44 = .ok (.aload_n 2, 1) := by decide +kernel
theorem dX1_retimeCaptions_45 : decode cX1_retimeCaptions 45 = .ok (.aload 5, 2) := by decide +kernel
theorem dX1_retimeCaptions_47 : decode cX1_retimeCaptions 47 = .ok (.iload 6, 2) := by decide +kernel
theorem dX1_retimeCaptions_49 : decode cX1_retimeCaptions 49 = .ok (.invokevirtual 82, 3) := by decide +kernel
theorem dX1_retimeCaptions_52 : decode cX1_retimeCaptions 52 = .ok (.invokevirtual 159, 3) := by decide +kernel
theorem dX1_retimeCaptions_55 : decode cX1_retimeCaptions 55 = .ok (.istore 7, 2) := by decide +kernel
theorem dX1_retimeCaptions_57 : decode cX1_retimeCaptions 57 = .ok (.aload_n 2, 1) := by decide +kernel
theorem dX1_retimeCaptions_58 : decode cX1_retimeCaptions 58 = .ok (.aload 5, 2) := by decide +kernel
theorem dX1_retimeCaptions_60 : decode cX1_retimeCaptions 60 = .ok (.iload 6, 2) := by decide +kernel
theorem dX1_retimeCaptions_62 : decode cX1_retimeCaptions 62 = .ok (.invokevirtual 85, 3) := by decide +kernel
theorem dX1_retimeCaptions_65 : decode cX1_retimeCaptions 65 = .ok (.invokevirtual 159, 3) := by decide +kernel
theorem dX1_retimeCaptions_68 : decode cX1_retimeCaptions 68 = .ok (.istore 8, 2) := by decide +kernel
theorem dX1_retimeCaptions_70 : decode cX1_retimeCaptions 70 = .ok (.iload 7, 2) := by decide +kernel
theorem dX1_retimeCaptions_72 : decode cX1_retimeCaptions 72 = .ok (.aload 5, 2) := by decide +kernel
theorem dX1_retimeCaptions_74 : decode cX1_retimeCaptions 74 = .ok (.iload 6, 2) := by decide +kernel
theorem dX1_retimeCaptions_76 : decode cX1_retimeCaptions 76 = .ok (.invokevirtual 82, 3) := by decide +kernel
theorem dX1_retimeCaptions_79 : decode cX1_retimeCaptions 79 = .ok (.if_icmp .ne 15, 3) := by decide +kernel
theorem dX1_retimeCaptions_82 : decode cX1_retimeCaptions 82 = .ok (.iload 8, 2) := by decide +kernel
theorem dX1_retimeCaptions_84 : decode cX1_retimeCaptions 84 = .ok (.aload 5, 2) := by decide +kernel
theorem dX1_retimeCaptions_86 : decode cX1_retimeCaptions 86 = .ok (.iload 6, 2) := by decide +kernel
theorem dX1_retimeCaptions_88 : decode cX1_retimeCaptions 88 = .ok (.invokevirtual 85, 3) := by decide +kernel
theorem dX1_retimeCaptions_91 : decode cX1_retimeCaptions 91 = .ok (.if_icmp .eq 6, 3) := by decide +kernel
theorem dX1_retimeCaptions_94 : decode cX1_retimeCaptions 94 = .ok (.iinc 3 1, 3) := by decide +kernel
theorem dX1_retimeCaptions_97 : decode cX1_retimeCaptions 97 = .ok (.aload 5, 2) := by decide +kernel
theorem dX1_retimeCaptions_99 : decode cX1_retimeCaptions 99 = .ok (.iload 6, 2) := by decide +kernel
theorem dX1_retimeCaptions_101 : decode cX1_retimeCaptions 101 = .ok (.iload 7, 2) := by decide +kernel
theorem dX1_retimeCaptions_103 : decode cX1_retimeCaptions 103 = .ok (.iload 8, 2) := by decide +kernel
theorem dX1_retimeCaptions_105 : decode cX1_retimeCaptions 105 = .ok (.invokevirtual 88, 3) := by decide +kernel
theorem dX1_retimeCaptions_108 : decode cX1_retimeCaptions 108 = .ok (.iinc 6 1, 3) := by decide +kernel
theorem dX1_retimeCaptions_111 : decode cX1_retimeCaptions 111 = .ok (.goto (-86), 3) := by decide +kernel
theorem dX1_retimeCaptions_114 : decode cX1_retimeCaptions 114 = .ok (.iinc 4 1, 3) := by decide +kernel
theorem dX1_retimeCaptions_117 : decode cX1_retimeCaptions 117 = .ok (.goto (-112), 3) := by decide +kernel
theorem dX1_retimeCaptions_120 : decode cX1_retimeCaptions 120 = .ok (.iload_n 3, 1) := by decide +kernel
theorem dX1_retimeCaptions_121 : decode cX1_retimeCaptions 121 = .ok (.ireturn, 1) := by decide +kernel
theorem dX1_isMeant_0 : decode cX1_isMeant 0 = .ok (.iload_n 0, 1) := by decide +kernel
theorem dX1_isMeant_1 : decode cX1_isMeant 1 = .ok (.iconst (-1), 1) := by decide +kernel
theorem dX1_isMeant_2 : decode cX1_isMeant 2 = .ok (.if_icmp .eq 8, 3) := by decide +kernel
theorem dX1_isMeant_5 : decode cX1_isMeant 5 = .ok (.iload_n 0, 1) := by decide +kernel
theorem dX1_isMeant_6 : decode cX1_isMeant 6 = .ok (.iload_n 1, 1) := by decide +kernel
theorem dX1_isMeant_7 : decode cX1_isMeant 7 = .ok (.if_icmp .ne 7, 3) := by decide +kernel
theorem dX1_isMeant_10 : decode cX1_isMeant 10 = .ok (.iconst 1, 1) := by decide +kernel
theorem dX1_isMeant_11 : decode cX1_isMeant 11 = .ok (.goto 4, 3) := by decide +kernel
theorem dX1_isMeant_14 : decode cX1_isMeant 14 = .ok (.iconst 0, 1) := by decide +kernel
theorem dX1_isMeant_15 : decode cX1_isMeant 15 = .ok (.ireturn, 1) := by decide +kernel
theorem dX1_carryOutCut_0 : decode cX1_carryOutCut 0 = .ok (.aload_n 0, 1) := by decide +kernel
theorem dX1_carryOutCut_1 : decode cX1_carryOutCut 1 = .ok (.getfield 9, 3) := by decide +kernel
theorem dX1_carryOutCut_4 : decode cX1_carryOutCut 4 = .ok (.iload_n 1, 1) := by decide +kernel
theorem dX1_carryOutCut_5 : decode cX1_carryOutCut 5 = .ok (.invokevirtual 167, 3) := by decide +kernel
theorem dX1_carryOutCut_8 : decode cX1_carryOutCut 8 = .ok (.ifCond .ne 5, 3) := by decide +kernel
theorem dX1_carryOutCut_11 : decode cX1_carryOutCut 11 = .ok (.iconst 1, 1) := by decide +kernel
theorem dX1_carryOutCut_12 : decode cX1_carryOutCut 12 = .ok (.ireturn, 1) := by decide +kernel
theorem dX1_carryOutCut_13 : decode cX1_carryOutCut 13 = .ok (.iload_n 2, 1) := by decide +kernel
theorem dX1_carryOutCut_14 : decode cX1_carryOutCut 14 = .ok (.ifCond .ne 16, 3) := by decide +kernel
theorem dX1_carryOutCut_17 : decode cX1_carryOutCut 17 = .ok (.aload_n 0, 1) := by decide +kernel
theorem dX1_carryOutCut_18 : decode cX1_carryOutCut 18 = .ok (.getfield 9, 3) := by decide +kernel
theorem dX1_carryOutCut_21 : decode cX1_carryOutCut 21 = .ok (.getfield 118, 3) := by decide +kernel
theorem dX1_carryOutCut_24 : decode cX1_carryOutCut 24 = .ok (.iload_n 1, 1) := by decide +kernel
theorem dX1_carryOutCut_25 : decode cX1_carryOutCut 25 = .ok (.invokevirtual 170, 3) := by decide +kernel
theorem dX1_carryOutCut_28 : decode cX1_carryOutCut 28 = .ok (.iconst 0, 1) := by decide +kernel
theorem dX1_carryOutCut_29 : decode cX1_carryOutCut 29 = .ok (.ireturn, 1) := by decide +kernel
theorem dX1_carryOutCut_30 : decode cX1_carryOutCut 30 = .ok (.aload_n 0, 1) := by decide +kernel
theorem dX1_carryOutCut_31 : decode cX1_carryOutCut 31 = .ok (.getfield 9, 3) := by decide +kernel
theorem dX1_carryOutCut_34 : decode cX1_carryOutCut 34 = .ok (.getfield 118, 3) := by decide +kernel
theorem dX1_carryOutCut_37 : decode cX1_carryOutCut 37 = .ok (.iload_n 1, 1) := by decide +kernel
theorem dX1_carryOutCut_38 : decode cX1_carryOutCut 38 = .ok (.invokevirtual 173, 3) := by decide +kernel
theorem dX1_carryOutCut_41 : decode cX1_carryOutCut 41 = .ok (.ifCond .eq 6, 3) := by decide +kernel
theorem dX1_carryOutCut_44 : decode cX1_carryOutCut 44 = .ok (.bipush 8, 2) := by decide +kernel
theorem dX1_carryOutCut_46 : decode cX1_carryOutCut 46 = .ok (.ireturn, 1) := by decide +kernel
theorem dX1_carryOutCut_47 : decode cX1_carryOutCut 47 = .ok (.aload_n 0, 1) := by decide +kernel
theorem dX1_carryOutCut_48 : decode cX1_carryOutCut 48 = .ok (.getfield 9, 3) := by decide +kernel
theorem dX1_carryOutCut_51 : decode cX1_carryOutCut 51 = .ok (.getfield 118, 3) := by decide +kernel
theorem dX1_carryOutCut_54 : decode cX1_carryOutCut 54 = .ok (.iload_n 1, 1) := by decide +kernel
theorem dX1_carryOutCut_55 : decode cX1_carryOutCut 55 = .ok (.invokevirtual 176, 3) := by decide +kernel
theorem dX1_carryOutCut_58 : decode cX1_carryOutCut 58 = .ok (.iconst 0, 1) := by decide +kernel
theorem dX1_carryOutCut_59 : decode cX1_carryOutCut 59 = .ok (.ireturn, 1) := by decide +kernel
theorem dX2_init_0 : decode cX2_init 0 = .ok (.aload_n 0, 1) := by decide +kernel
theorem dX2_init_1 : decode cX2_init 1 = .ok (.invokespecial 3, 3) := by decide +kernel
theorem dX2_init_4 : decode cX2_init 4 = .ok (.aload_n 0, 1) := by decide +kernel
theorem dX2_init_5 : decode cX2_init 5 = .ok (.aload_n 1, 1) := by decide +kernel
theorem dX2_init_6 : decode cX2_init 6 = .ok (.putfield 9, 3) := by decide +kernel
theorem dX2_init_9 : decode cX2_init 9 = .ok (.aload_n 0, 1) := by decide +kernel
theorem dX2_init_10 : decode cX2_init 10 = .ok (.new 15, 3) := by decide +kernel
theorem dX2_init_13 : decode cX2_init 13 = .ok (.dup, 1) := by decide +kernel
theorem dX2_init_14 : decode cX2_init 14 = .ok (.invokespecial 17, 3) := by decide +kernel
theorem dX2_init_17 : decode cX2_init 17 = .ok (.putfield 18, 3) := by decide +kernel
theorem dX2_init_20 : decode cX2_init 20 = .ok (.return_, 1) := by decide +kernel
theorem dX2_needs_0 : decode cX2_needs 0 = .ok (.aload_n 0, 1) := by decide +kernel
theorem dX2_needs_1 : decode cX2_needs 1 = .ok (.getfield 9, 3) := by decide +kernel
theorem dX2_needs_4 : decode cX2_needs 4 = .ok (.iload_n 1, 1) := by decide +kernel
theorem dX2_needs_5 : decode cX2_needs 5 = .ok (.invokevirtual 22, 3) := by decide +kernel
theorem dX2_needs_8 : decode cX2_needs 8 = .ok (.astore_n 3, 1) := by decide +kernel
theorem dX2_needs_9 : decode cX2_needs 9 = .ok (.aload_n 3, 1) := by decide +kernel
theorem dX2_needs_10 : decode cX2_needs 10 = .ok (.iload_n 2, 1) := by decide +kernel
theorem dX2_needs_11 : decode cX2_needs 11 = .ok (.invokevirtual 28, 3) := by decide +kernel
theorem dX2_needs_14 : decode cX2_needs 14 = .ok (.iconst 2, 1) := by decide +kernel
theorem dX2_needs_15 : decode cX2_needs 15 = .ok (.if_icmp .ne 8, 3) := by decide +kernel
theorem dX2_needs_18 : decode cX2_needs 18 = .ok (.bipush 20, 2) := by decide +kernel
theorem dX2_needs_20 : decode cX2_needs 20 = .ok (.goto 5, 3) := by decide +kernel
theorem dX2_needs_23 : decode cX2_needs 23 = .ok (.bipush 25, 2) := by decide +kernel
theorem dX2_needs_25 : decode cX2_needs 25 = .ok (.istore 4, 2) := by decide +kernel
theorem dX2_needs_27 : decode cX2_needs 27 = .ok (.iload 4, 2) := by decide +kernel
theorem dX2_needs_29 : decode cX2_needs 29 = .ok (.aload_n 3, 1) := by decide +kernel
theorem dX2_needs_30 : decode cX2_needs 30 = .ok (.iload_n 2, 1) := by decide +kernel
theorem dX2_needs_31 : decode cX2_needs 31 = .ok (.invokevirtual 34, 3) := by decide +kernel
theorem dX2_needs_34 : decode cX2_needs 34 = .ok (.imul, 1) := by decide +kernel
theorem dX2_needs_35 : decode cX2_needs 35 = .ok (.aload_n 0, 1) := by decide +kernel
theorem dX2_needs_36 : decode cX2_needs 36 = .ok (.getfield 9, 3) := by decide +kernel
theorem dX2_needs_39 : decode cX2_needs 39 = .ok (.iconst 0, 1) := by decide +kernel
theorem dX2_needs_40 : decode cX2_needs 40 = .ok (.invokevirtual 37, 3) := by decide +kernel
theorem dX2_needs_43 : decode cX2_needs 43 = .ok (.invokestatic 40, 3) := by decide +kernel
theorem dX2_needs_46 : decode cX2_needs 46 = .ok (.istore 5, 2) := by decide +kernel
theorem dX2_needs_48 : decode cX2_needs 48 = .ok (.aload_n 3, 1) := by decide +kernel
theorem dX2_needs_49 : decode cX2_needs 49 = .ok (.iload_n 2, 1) := by decide +kernel
theorem dX2_needs_50 : decode cX2_needs 50 = .ok (.invokevirtual 28, 3) := by decide +kernel
theorem dX2_needs_53 : decode cX2_needs 53 = .ok (.iconst 1, 1) := by decide +kernel
theorem dX2_needs_54 : decode cX2_needs 54 = .ok (.if_icmp .ne 12, 3) := by decide +kernel
theorem dX2_needs_57 : decode cX2_needs 57 = .ok (.iload 5, 2) := by decide +kernel
theorem dX2_needs_59 : decode cX2_needs 59 = .ok (.iconst 2, 1) := by decide +kernel
theorem dX2_needs_60 : decode cX2_needs 60 = .ok (.invokestatic 40, 3) := by decide +kernel
theorem dX2_needs_63 : decode cX2_needs 63 = .ok (.goto 5, 3) := by decide +kernel
theorem dX2_needs_66 : decode cX2_needs 66 = .ok (.iload 5, 2) := by decide +kernel
theorem dX2_needs_68 : decode cX2_needs 68 = .ok (.ireturn, 1) := by decide +kernel
theorem dX2_partner_0 : decode cX2_partner 0 = .ok (.aload_n 0, 1) := by decide +kernel
theorem dX2_partner_1 : decode cX2_partner 1 = .ok (.getfield 9, 3) := by decide +kernel
theorem dX2_partner_4 : decode cX2_partner 4 = .ok (.iload_n 1, 1) := by decide +kernel
theorem dX2_partner_5 : decode cX2_partner 5 = .ok (.invokevirtual 22, 3) := by decide +kernel
theorem dX2_partner_8 : decode cX2_partner 8 = .ok (.astore_n 3, 1) := by decide +kernel
theorem dX2_partner_9 : decode cX2_partner 9 = .ok (.aload_n 0, 1) := by decide +kernel
theorem dX2_partner_10 : decode cX2_partner 10 = .ok (.getfield 9, 3) := by decide +kernel
theorem dX2_partner_13 : decode cX2_partner 13 = .ok (.iload_n 1, 1) := by decide +kernel
theorem dX2_partner_14 : decode cX2_partner 14 = .ok (.invokevirtual 44, 3) := by decide +kernel
theorem dX2_partner_17 : decode cX2_partner 17 = .ok (.astore 4, 2) := by decide +kernel
theorem dX2_partner_19 : decode cX2_partner 19 = .ok (.iconst (-1), 1) := by decide +kernel
theorem dX2_partner_20 : decode cX2_partner 20 = .ok (.istore 5, 2) := by decide +kernel
theorem dX2_partner_22 : decode cX2_partner 22 = .ok (.iconst 0, 1) := by decide +kernel
theorem dX2_partner_23 : decode cX2_partner 23 = .ok (.istore 6, 2) := by decide +kernel
theorem dX2_partner_25 : decode cX2_partner 25 = .ok (.iconst 0, 1) := by decide +kernel
theorem dX2_partner_26 : decode cX2_partner 26 = .ok (.istore 7, 2) := by decide +kernel
theorem dX2_partner_28 : decode cX2_partner 28 = .ok (.iload 7, 2) := by decide +kernel
theorem dX2_partner_30 : decode cX2_partner 30 = .ok (.aload 4, 2) := by decide +kernel
theorem dX2_partner_32 : decode cX2_partner 32 = .ok (.getfield 47, 3) := by decide +kernel
theorem dX2_partner_35 : decode cX2_partner 35 = .ok (.if_icmp .ge 43, 3) := by decide +kernel
theorem dX2_partner_38 : decode cX2_partner 38 = .ok (.aload 4, 2) := by decide +kernel
theorem dX2_partner_40 : decode cX2_partner 40 = .ok (.iload 7, 2) := by decide +kernel
theorem dX2_partner_42 : decode cX2_partner 42 = .ok (.aload_n 3, 1) := by decide +kernel
theorem dX2_partner_43 : decode cX2_partner 43 = .ok (.iload_n 2, 1) := by decide +kernel
theorem dX2_partner_44 : decode cX2_partner 44 = .ok (.invokevirtual 51, 3) := by decide +kernel
theorem dX2_partner_47 : decode cX2_partner 47 = .ok (.aload_n 3, 1) := by decide +kernel
theorem dX2_partner_48 : decode cX2_partner 48 = .ok (.iload_n 2, 1) := by decide +kernel
theorem dX2_partner_49 : decode cX2_partner 49 = .ok (.invokevirtual 54, 3) := by decide +kernel
theorem dX2_partner_52 : decode cX2_partner 52 = .ok (.invokevirtual 57, 3) := by decide +kernel
theorem dX2_partner_55 : decode cX2_partner 55 = .ok (.istore 8, 2) := by decide +kernel
theorem dX2_partner_57 : decode cX2_partner 57 = .ok (.iload 8, 2) := by decide +kernel
theorem dX2_partner_59 : decode cX2_partner 59 = .ok (.iload 6, 2) := by decide +kernel
theorem dX2_partner_61 : decode cX2_partner 61 = .ok (.if_icmp .le 11, 3) := by decide +kernel
theorem dX2_partner_64 : decode cX2_partner 64 = .ok (.iload 8, 2) := by decide +kernel
theorem dX2_partner_66 : decode cX2_partner 66 = .ok (.istore 6, 2) := by decide +kernel
theorem dX2_partner_68 : decode cX2_partner 68 = .ok (.iload 7, 2) := by decide +kernel
theorem dX2_partner_70 : decode cX2_partner 70 = .ok (.istore 5, 2) := by decide +kernel
theorem dX2_partner_72 : decode cX2_partner 72 = .ok (.iinc 7 1, 3) := by decide +kernel
theorem dX2_partner_75 : decode cX2_partner 75 = .ok (.goto (-47), 3) := by decide +kernel
theorem dX2_partner_78 : decode cX2_partner 78 = .ok (.iload 5, 2) := by decide +kernel
theorem dX2_partner_80 : decode cX2_partner 80 = .ok (.ireturn, 1) := by decide +kernel
theorem dX2_sharedWithPartner_0 : decode cX2_sharedWithPartner 0 = .ok (.aload_n 0, 1) := by decide +kernel
theorem dX2_sharedWithPartner_1 : decode cX2_sharedWithPartner 1 = .ok (.iload_n 1, 1) := by decide +kernel
theorem dX2_sharedWithPartner_2 : decode cX2_sharedWithPartner 2 = .ok (.iload_n 2, 1) := by decide +kernel
theorem dX2_sharedWithPartner_3 : decode cX2_sharedWithPartner 3 = .ok (.invokevirtual 61, 3) := by decide +kernel
theorem dX2_sharedWithPartner_6 : decode cX2_sharedWithPartner 6 = .ok (.istore_n 3, 1) := by decide +kernel
theorem dX2_sharedWithPartner_7 : decode cX2_sharedWithPartner 7 = .ok (.iload_n 3, 1) := by decide +kernel
theorem dX2_sharedWithPartner_8 : decode cX2_sharedWithPartner 8 = .ok (.iconst (-1), 1) := by decide +kernel
theorem dX2_sharedWithPartner_9 : decode cX2_sharedWithPartner 9 = .ok (.if_icmp .ne 5, 3) := by decide +kernel
theorem dX2_sharedWithPartner_12 : decode cX2_sharedWithPartner 12 = .ok (.iconst 0, 1) := by decide +kernel
theorem dX2_sharedWithPartner_13 : decode cX2_sharedWithPartner 13 = .ok (.ireturn, 1) := by decide +kernel
theorem dX2_sharedWithPartner_14 : decode cX2_sharedWithPartner 14 = .ok (.aload_n 0, 1) := by decide +kernel
theorem dX2_sharedWithPartner_15 : decode cX2_sharedWithPartner 15 = .ok (.getfield 9, 3) := by decide +kernel
theorem dX2_sharedWithPartner_18 : decode cX2_sharedWithPartner 18 = .ok (.iload_n 1, 1) := by decide +kernel
theorem dX2_sharedWithPartner_19 : decode cX2_sharedWithPartner 19 = .ok (.invokevirtual 22, 3) := by decide +kernel
theorem dX2_sharedWithPartner_22 : decode cX2_sharedWithPartner 22 = .ok (.astore 4, 2) := by decide +kernel
theorem dX2_sharedWithPartner_24 : decode cX2_sharedWithPartner 24 = .ok (.aload_n 0, 1) := by decide +kernel
theorem dX2_sharedWithPartner_25 : decode cX2_sharedWithPartner 25 = .ok (.getfield 9, 3) := by decide +kernel
theorem dX2_sharedWithPartner_28 : decode cX2_sharedWithPartner 28 = .ok (.iload_n 1, 1) := by decide +kernel
theorem dX2_sharedWithPartner_29 : decode cX2_sharedWithPartner 29 = .ok (.invokevirtual 44, 3) := by decide +kernel
theorem dX2_sharedWithPartner_32 : decode cX2_sharedWithPartner 32 = .ok (.iload_n 3, 1) := by decide +kernel
theorem dX2_sharedWithPartner_33 : decode cX2_sharedWithPartner 33 = .ok (.aload 4, 2) := by decide +kernel
theorem dX2_sharedWithPartner_35 : decode cX2_sharedWithPartner 35 = .ok (.iload_n 2, 1) := by decide +kernel
theorem dX2_sharedWithPartner_36 : decode cX2_sharedWithPartner 36 = .ok (.invokevirtual 51, 3) := by decide +kernel
theorem dX2_sharedWithPartner_39 : decode cX2_sharedWithPartner 39 = .ok (.aload 4, 2) := by decide +kernel
theorem dX2_sharedWithPartner_41 : decode cX2_sharedWithPartner 41 = .ok (.iload_n 2, 1) := by decide +kernel
theorem dX2_sharedWithPartner_42 : decode cX2_sharedWithPartner 42 = .ok (.invokevirtual 54, 3) := by decide +kernel
theorem dX2_sharedWithPartner_45 : decode cX2_sharedWithPartner 45 = .ok (.invokevirtual 57, 3) := by decide +kernel
theorem dX2_sharedWithPartner_48 : decode cX2_sharedWithPartner 48 = .ok (.ireturn, 1) := by decide +kernel
theorem dX2_isInStep_0 : decode cX2_isInStep 0 = .ok (.aload_n 0, 1) := by decide +kernel
theorem dX2_isInStep_1 : decode cX2_isInStep 1 = .ok (.iload_n 1, 1) := by decide +kernel
theorem dX2_isInStep_2 : decode cX2_isInStep 2 = .ok (.iload_n 2, 1) := by decide +kernel
theorem dX2_isInStep_3 : decode cX2_isInStep 3 = .ok (.invokevirtual 61, 3) := by decide +kernel
theorem dX2_isInStep_6 : decode cX2_isInStep 6 = .ok (.istore_n 3, 1) := by decide +kernel
theorem dX2_isInStep_7 : decode cX2_isInStep 7 = .ok (.iload_n 3, 1) := by decide +kernel
theorem dX2_isInStep_8 : decode cX2_isInStep 8 = .ok (.iconst (-1), 1) := by decide +kernel
theorem dX2_isInStep_9 : decode cX2_isInStep 9 = .ok (.if_icmp .ne 5, 3) := by decide +kernel
theorem dX2_isInStep_12 : decode cX2_isInStep 12 = .ok (.iconst 0, 1) := by decide +kernel
theorem dX2_isInStep_13 : decode cX2_isInStep 13 = .ok (.ireturn, 1) := by decide +kernel
theorem dX2_isInStep_14 : decode cX2_isInStep 14 = .ok (.aload_n 0, 1) := by decide +kernel
theorem dX2_isInStep_15 : decode cX2_isInStep 15 = .ok (.getfield 9, 3) := by decide +kernel
theorem dX2_isInStep_18 : decode cX2_isInStep 18 = .ok (.iload_n 1, 1) := by decide +kernel
theorem dX2_isInStep_19 : decode cX2_isInStep 19 = .ok (.invokevirtual 22, 3) := by decide +kernel
theorem dX2_isInStep_22 : decode cX2_isInStep 22 = .ok (.astore 4, 2) := by decide +kernel
theorem dX2_isInStep_24 : decode cX2_isInStep 24 = .ok (.aload_n 0, 1) := by decide +kernel
theorem dX2_isInStep_25 : decode cX2_isInStep 25 = .ok (.getfield 9, 3) := by decide +kernel
theorem dX2_isInStep_28 : decode cX2_isInStep 28 = .ok (.iload_n 1, 1) := by decide +kernel
theorem dX2_isInStep_29 : decode cX2_isInStep 29 = .ok (.invokevirtual 44, 3) := by decide +kernel
theorem dX2_isInStep_32 : decode cX2_isInStep 32 = .ok (.astore 5, 2) := by decide +kernel
theorem dX2_isInStep_34 : decode cX2_isInStep 34 = .ok (.aload_n 0, 1) := by decide +kernel
theorem dX2_isInStep_35 : decode cX2_isInStep 35 = .ok (.getfield 9, 3) := by decide +kernel
theorem dX2_isInStep_38 : decode cX2_isInStep 38 = .ok (.iconst 4, 1) := by decide +kernel
theorem dX2_isInStep_39 : decode cX2_isInStep 39 = .ok (.invokevirtual 37, 3) := by decide +kernel
theorem dX2_isInStep_42 : decode cX2_isInStep 42 = .ok (.istore 6, 2) := by decide +kernel
theorem dX2_isInStep_44 : decode cX2_isInStep 44 = .ok (.aload 4, 2) := by decide +kernel
theorem dX2_isInStep_46 : decode cX2_isInStep 46 = .ok (.iload_n 2, 1) := by decide +kernel
theorem dX2_isInStep_47 : decode cX2_isInStep 47 = .ok (.invokevirtual 51, 3) := by decide +kernel
theorem dX2_isInStep_50 : decode cX2_isInStep 50 = .ok (.aload 5, 2) := by decide +kernel
theorem dX2_isInStep_52 : decode cX2_isInStep 52 = .ok (.iload_n 3, 1) := by decide +kernel
theorem dX2_isInStep_53 : decode cX2_isInStep 53 = .ok (.invokevirtual 51, 3) := by decide +kernel
theorem dX2_isInStep_56 : decode cX2_isInStep 56 = .ok (.invokestatic 64, 3) := by decide +kernel
theorem dX2_isInStep_59 : decode cX2_isInStep 59 = .ok (.iload 6, 2) := by decide +kernel
theorem dX2_isInStep_61 : decode cX2_isInStep 61 = .ok (.if_icmp .gt 27, 3) := by decide +kernel
theorem dX2_isInStep_64 : decode cX2_isInStep 64 = .ok (.aload 4, 2) := by decide +kernel
theorem dX2_isInStep_66 : decode cX2_isInStep 66 = .ok (.iload_n 2, 1) := by decide +kernel
theorem dX2_isInStep_67 : decode cX2_isInStep 67 = .ok (.invokevirtual 54, 3) := by decide +kernel
theorem dX2_isInStep_70 : decode cX2_isInStep 70 = .ok (.aload 5, 2) := by decide +kernel
theorem dX2_isInStep_72 : decode cX2_isInStep 72 = .ok (.iload_n 3, 1) := by decide +kernel
theorem dX2_isInStep_73 : decode cX2_isInStep 73 = .ok (.invokevirtual 54, 3) := by decide +kernel
theorem dX2_isInStep_76 : decode cX2_isInStep 76 = .ok (.invokestatic 64, 3) := by decide +kernel
theorem dX2_isInStep_79 : decode cX2_isInStep 79 = .ok (.iload 6, 2) := by decide +kernel
theorem dX2_isInStep_81 : decode cX2_isInStep 81 = .ok (.if_icmp .gt 7, 3) := by decide +kernel
theorem dX2_isInStep_84 : decode cX2_isInStep 84 = .ok (.iconst 1, 1) := by decide +kernel
theorem dX2_isInStep_85 : decode cX2_isInStep 85 = .ok (.goto 4, 3) := by decide +kernel
theorem dX2_isInStep_88 : decode cX2_isInStep 88 = .ok (.iconst 0, 1) := by decide +kernel
theorem dX2_isInStep_89 : decode cX2_isInStep 89 = .ok (.ireturn, 1) := by decide +kernel
theorem dX2_isTight_0 : decode cX2_isTight 0 = .ok (.aload_n 0, 1) := by decide +kernel
theorem dX2_isTight_1 : decode cX2_isTight 1 = .ok (.getfield 9, 3) := by decide +kernel
theorem dX2_isTight_4 : decode cX2_isTight 4 = .ok (.iload_n 1, 1) := by decide +kernel
theorem dX2_isTight_5 : decode cX2_isTight 5 = .ok (.invokevirtual 22, 3) := by decide +kernel
theorem dX2_isTight_8 : decode cX2_isTight 8 = .ok (.iload_n 2, 1) := by decide +kernel
theorem dX2_isTight_9 : decode cX2_isTight 9 = .ok (.invokevirtual 67, 3) := by decide +kernel
theorem dX2_isTight_12 : decode cX2_isTight 12 = .ok (.istore_n 3, 1) := by decide +kernel
theorem dX2_isTight_13 : decode cX2_isTight 13 = .ok (.iload_n 3, 1) := by decide +kernel
theorem dX2_isTight_14 : decode cX2_isTight 14 = .ok (.ifCond .le 19, 3) := by decide +kernel
theorem dX2_isTight_17 : decode cX2_isTight 17 = .ok (.iload_n 3, 1) := by decide +kernel
theorem dX2_isTight_18 : decode cX2_isTight 18 = .ok (.aload_n 0, 1) := by decide +kernel
theorem dX2_isTight_19 : decode cX2_isTight 19 = .ok (.getfield 9, 3) := by decide +kernel
theorem dX2_isTight_22 : decode cX2_isTight 22 = .ok (.iconst 2, 1) := by decide +kernel
theorem dX2_isTight_23 : decode cX2_isTight 23 = .ok (.invokevirtual 37, 3) := by decide +kernel
theorem dX2_isTight_26 : decode cX2_isTight 26 = .ok (.if_icmp .ge 7, 3) := by decide +kernel
theorem dX2_isTight_29 : decode cX2_isTight 29 = .ok (.iconst 1, 1) := by decide +kernel
theorem dX2_isTight_30 : decode cX2_isTight 30 = .ok (.goto 4, 3) := by decide +kernel
theorem dX2_isTight_33 : decode cX2_isTight 33 = .ok (.iconst 0, 1) := by decide +kernel
theorem dX2_isTight_34 : decode cX2_isTight 34 = .ok (.ireturn, 1) := by decide +kernel
theorem dX2_problems_0 : decode cX2_problems 0 = .ok (.aload_n 0, 1) := by decide +kernel
theorem dX2_problems_1 : decode cX2_problems 1 = .ok (.getfield 9, 3) := by decide +kernel
theorem dX2_problems_4 : decode cX2_problems 4 = .ok (.iload_n 1, 1) := by decide +kernel
theorem dX2_problems_5 : decode cX2_problems 5 = .ok (.invokevirtual 22, 3) := by decide +kernel
theorem dX2_problems_8 : decode cX2_problems 8 = .ok (.astore_n 3, 1) := by decide +kernel
theorem dX2_problems_9 : decode cX2_problems 9 = .ok (.iconst 0, 1) := by decide +kernel
theorem dX2_problems_10 : decode cX2_problems 10 = .ok (.istore 4, 2) := by decide +kernel
theorem dX2_problems_12 : decode cX2_problems 12 = .ok (.aload_n 3, 1) := by decide +kernel
theorem dX2_problems_13 : decode cX2_problems 13 = .ok (.iload_n 2, 1) := by decide +kernel
theorem dX2_problems_14 : decode cX2_problems 14 = .ok (.invokevirtual 70, 3) := by decide +kernel
theorem dX2_problems_17 : decode cX2_problems 17 = .ok (.aload_n 0, 1) := by decide +kernel
theorem dX2_problems_18 : decode cX2_problems 18 = .ok (.iload_n 1, 1) := by decide +kernel
theorem dX2_problems_19 : decode cX2_problems 19 = .ok (.iload_n 2, 1) := by decide +kernel
theorem dX2_problems_20 : decode cX2_problems 20 = .ok (.invokevirtual 73, 3) := by decide +kernel
theorem dX2_problems_23 : decode cX2_problems 23 = .ok (.if_icmp .ge 6, 3) := by decide +kernel
theorem dX2_problems_26 : decode cX2_problems 26 = .ok (.iinc 4 1, 3) := by decide +kernel
theorem dX2_problems_29 : decode cX2_problems 29 = .ok (.aload_n 0, 1) := by decide +kernel
theorem dX2_problems_30 : decode cX2_problems 30 = .ok (.getfield 9, 3) := by decide +kernel
theorem dX2_problems_33 : decode cX2_problems 33 = .ok (.aload_n 3, 1) := by decide +kernel
theorem dX2_problems_34 : decode cX2_problems 34 = .ok (.iload_n 2, 1) := by decide +kernel
theorem dX2_problems_35 : decode cX2_problems 35 = .ok (.invokevirtual 51, 3) := by decide +kernel
theorem dX2_problems_38 : decode cX2_problems 38 = .ok (.invokevirtual 76, 3) := by decide +kernel
theorem dX2_problems_41 : decode cX2_problems 41 = .ok (.ifCond .eq 6, 3) := by decide +kernel
theorem dX2_problems_44 : decode cX2_problems 44 = .ok (.iinc 4 2, 3) := by decide +kernel
theorem dX2_problems_47 : decode cX2_problems 47 = .ok (.aload_n 0, 1) := by decide +kernel
theorem dX2_problems_48 : decode cX2_problems 48 = .ok (.getfield 9, 3) := by decide +kernel
theorem dX2_problems_51 : decode cX2_problems 51 = .ok (.aload_n 3, 1) := by decide +kernel
theorem dX2_problems_52 : decode cX2_problems 52 = .ok (.iload_n 2, 1) := by decide +kernel
theorem dX2_problems_53 : decode cX2_problems 53 = .ok (.invokevirtual 54, 3) := by decide +kernel
theorem dX2_problems_56 : decode cX2_problems 56 = .ok (.invokevirtual 76, 3) := by decide +kernel
theorem dX2_problems_59 : decode cX2_problems 59 = .ok (.ifCond .eq 6, 3) := by decide +kernel
theorem dX2_problems_62 : decode cX2_problems 62 = .ok (.iinc 4 4, 3) := by decide +kernel
theorem dX2_problems_65 : decode cX2_problems 65 = .ok (.aload_n 0, 1) := by decide +kernel
theorem dX2_problems_66 : decode cX2_problems 66 = .ok (.iload_n 1, 1) := by decide +kernel
theorem dX2_problems_67 : decode cX2_problems 67 = .ok (.iload_n 2, 1) := by decide +kernel
theorem dX2_problems_68 : decode cX2_problems 68 = .ok (.invokevirtual 80, 3) := by decide +kernel
theorem dX2_problems_71 : decode cX2_problems 71 = .ok (.ifCond .eq 6, 3) := by decide +kernel
theorem dX2_problems_74 : decode cX2_problems 74 = .ok (.iinc 4 8, 3) := by decide +kernel
theorem dX2_problems_77 : decode cX2_problems 77 = .ok (.aload_n 3, 1) := by decide +kernel
theorem dX2_problems_78 : decode cX2_problems 78 = .ok (.iload_n 2, 1) := by decide +kernel
theorem dX2_problems_79 : decode cX2_problems 79 = .ok (.invokevirtual 84, 3) := by decide +kernel
theorem dX2_problems_82 : decode cX2_problems 82 = .ok (.aload_n 0, 1) := by decide +kernel
theorem dX2_problems_83 : decode cX2_problems 83 = .ok (.getfield 9, 3) := by decide +kernel
theorem dX2_problems_86 : decode cX2_problems 86 = .ok (.iconst 5, 1) := by decide +kernel
theorem dX2_problems_87 : decode cX2_problems 87 = .ok (.invokevirtual 37, 3) := by decide +kernel
theorem dX2_problems_90 : decode cX2_problems 90 = .ok (.if_icmp .le 6, 3) := by decide +kernel
theorem dX2_problems_93 : decode cX2_problems 93 = .ok (.iinc 4 16, 3) := by decide +kernel
theorem dX2_problems_96 : decode cX2_problems 96 = .ok (.aload_n 3, 1) := by decide +kernel
theorem dX2_problems_97 : decode cX2_problems 97 = .ok (.iload_n 2, 1) := by decide +kernel
theorem dX2_problems_98 : decode cX2_problems 98 = .ok (.invokevirtual 28, 3) := by decide +kernel
theorem dX2_problems_101 : decode cX2_problems 101 = .ok (.iconst 1, 1) := by decide +kernel
theorem dX2_problems_102 : decode cX2_problems 102 = .ok (.if_icmp .eq 15, 3) := by decide +kernel
theorem dX2_problems_105 : decode cX2_problems 105 = .ok (.aload_n 0, 1) := by decide +kernel
theorem dX2_problems_106 : decode cX2_problems 106 = .ok (.iload_n 1, 1) := by decide +kernel
theorem dX2_problems_107 : decode cX2_problems 107 = .ok (.iload_n 2, 1) := by decide +kernel
theorem dX2_problems_108 : decode cX2_problems 108 = .ok (.invokevirtual 87, 3) := by decide +kernel
theorem dX2_problems_111 : decode cX2_problems 111 = .ok (.ifCond .ne 6, 3) := by decide +kernel
theorem dX2_problems_114 : decode cX2_problems 114 = .ok (.iinc 4 32, 3) := by decide +kernel
theorem dX2_problems_117 : decode cX2_problems 117 = .ok (.iload 4, 2) := by decide +kernel
theorem dX2_problems_119 : decode cX2_problems 119 = .ok (.ireturn, 1) := by decide +kernel
theorem dX2_captionsWith_0 : decode cX2_captionsWith 0 = .ok (.iconst 0, 1) := by decide +kernel
theorem dX2_captionsWith_1 : decode cX2_captionsWith 1 = .ok (.istore_n 3, 1) := by decide +kernel
theorem dX2_captionsWith_2 : decode cX2_captionsWith 2 = .ok (.iconst 0, 1) := by decide +kernel
theorem dX2_captionsWith_3 : decode cX2_captionsWith 3 = .ok (.istore 4, 2) := by decide +kernel
theorem dX2_captionsWith_5 : decode cX2_captionsWith 5 = .ok (.iload 4, 2) := by decide +kernel
theorem dX2_captionsWith_7 : decode cX2_captionsWith 7 = .ok (.aload_n 0, 1) := by decide +kernel
theorem dX2_captionsWith_8 : decode cX2_captionsWith 8 = .ok (.getfield 9, 3) := by decide +kernel
theorem dX2_captionsWith_11 : decode cX2_captionsWith 11 = .ok (.iload_n 1, 1) := by decide +kernel
theorem dX2_captionsWith_12 : decode cX2_captionsWith 12 = .ok (.invokevirtual 22, 3) := by decide +kernel
theorem dX2_captionsWith_15 : decode cX2_captionsWith 15 = .ok (.getfield 47, 3) := by decide +kernel
theorem dX2_captionsWith_18 : decode cX2_captionsWith 18 = .ok (.if_icmp .ge 24, 3) := by decide +kernel
theorem dX2_captionsWith_21 : decode cX2_captionsWith 21 = .ok (.aload_n 0, 1) := by decide +kernel
theorem dX2_captionsWith_22 : decode cX2_captionsWith 22 = .ok (.iload_n 1, 1) := by decide +kernel
theorem dX2_captionsWith_23 : decode cX2_captionsWith 23 = .ok (.iload 4, 2) := by decide +kernel
theorem dX2_captionsWith_25 : decode cX2_captionsWith 25 = .ok (.invokevirtual 90, 3) := by decide +kernel
theorem dX2_captionsWith_28 : decode cX2_captionsWith 28 = .ok (.iload_n 2, 1) := by decide +kernel
theorem dX2_captionsWith_29 : decode cX2_captionsWith 29 = .ok (.iand, 1) := by decide +kernel
theorem dX2_captionsWith_30 : decode cX2_captionsWith 30 = .ok (.ifCond .eq 6, 3) := by decide +kernel
theorem dX2_captionsWith_33 : decode cX2_captionsWith 33 = .ok (.iinc 3 1, 3) := by decide +kernel
theorem dX2_captionsWith_36 : decode cX2_captionsWith 36 = .ok (.iinc 4 1, 3) := by decide +kernel
theorem dX2_captionsWith_39 : decode cX2_captionsWith 39 = .ok (.goto (-34), 3) := by decide +kernel
theorem dX2_captionsWith_42 : decode cX2_captionsWith 42 = .ok (.iload_n 3, 1) := by decide +kernel
theorem dX2_captionsWith_43 : decode cX2_captionsWith 43 = .ok (.ireturn, 1) := by decide +kernel
theorem dX2_cutsWithin_0 : decode cX2_cutsWithin 0 = .ok (.aload_n 0, 1) := by decide +kernel
theorem dX2_cutsWithin_1 : decode cX2_cutsWithin 1 = .ok (.getfield 9, 3) := by decide +kernel
theorem dX2_cutsWithin_4 : decode cX2_cutsWithin 4 = .ok (.iload_n 1, 1) := by decide +kernel
theorem dX2_cutsWithin_5 : decode cX2_cutsWithin 5 = .ok (.invokevirtual 22, 3) := by decide +kernel
theorem dX2_cutsWithin_8 : decode cX2_cutsWithin 8 = .ok (.astore_n 3, 1) := by decide +kernel
theorem dX2_cutsWithin_9 : decode cX2_cutsWithin 9 = .ok (.aload_n 0, 1) := by decide +kernel
theorem dX2_cutsWithin_10 : decode cX2_cutsWithin 10 = .ok (.getfield 9, 3) := by decide +kernel
theorem dX2_cutsWithin_13 : decode cX2_cutsWithin 13 = .ok (.getfield 93, 3) := by decide +kernel
theorem dX2_cutsWithin_16 : decode cX2_cutsWithin 16 = .ok (.aload_n 3, 1) := by decide +kernel
theorem dX2_cutsWithin_17 : decode cX2_cutsWithin 17 = .ok (.iload_n 2, 1) := by decide +kernel
theorem dX2_cutsWithin_18 : decode cX2_cutsWithin 18 = .ok (.invokevirtual 54, 3) := by decide +kernel
theorem dX2_cutsWithin_21 : decode cX2_cutsWithin 21 = .ok (.iconst 1, 1) := by decide +kernel
theorem dX2_cutsWithin_22 : decode cX2_cutsWithin 22 = .ok (.isub, 1) := by decide +kernel
theorem dX2_cutsWithin_23 : decode cX2_cutsWithin 23 = .ok (.invokevirtual 97, 3) := by decide +kernel
theorem dX2_cutsWithin_26 : decode cX2_cutsWithin 26 = .ok (.aload_n 0, 1) := by decide +kernel
theorem dX2_cutsWithin_27 : decode cX2_cutsWithin 27 = .ok (.getfield 9, 3) := by decide +kernel
theorem dX2_cutsWithin_30 : decode cX2_cutsWithin 30 = .ok (.getfield 93, 3) := by decide +kernel
theorem dX2_cutsWithin_33 : decode cX2_cutsWithin 33 = .ok (.aload_n 3, 1) := by decide +kernel
theorem dX2_cutsWithin_34 : decode cX2_cutsWithin 34 = .ok (.iload_n 2, 1) := by decide +kernel
theorem dX2_cutsWithin_35 : decode cX2_cutsWithin 35 = .ok (.invokevirtual 51, 3) := by decide +kernel
theorem dX2_cutsWithin_38 : decode cX2_cutsWithin 38 = .ok (.invokevirtual 97, 3) := by decide +kernel
theorem dX2_cutsWithin_41 : decode cX2_cutsWithin 41 = .ok (.isub, 1) := by decide +kernel
theorem dX2_cutsWithin_42 : decode cX2_cutsWithin 42 = .ok (.ireturn, 1) := by decide +kernel
theorem dX2_captionsOverCuts_0 : decode cX2_captionsOverCuts 0 = .ok (.iconst 0, 1) := by decide +kernel
theorem dX2_captionsOverCuts_1 : decode cX2_captionsOverCuts 1 = .ok (.istore_n 2, 1) := by decide +kernel
theorem dX2_captionsOverCuts_2 : decode cX2_captionsOverCuts 2 = .ok (.iconst 0, 1) := by decide +kernel
theorem dX2_captionsOverCuts_3 : decode cX2_captionsOverCuts 3 = .ok (.istore_n 3, 1) := by decide +kernel
theorem dX2_captionsOverCuts_4 : decode cX2_captionsOverCuts 4 = .ok (.iload_n 3, 1) := by decide +kernel
theorem dX2_captionsOverCuts_5 : decode cX2_captionsOverCuts 5 = .ok (.aload_n 0, 1) := by decide +kernel
theorem dX2_captionsOverCuts_6 : decode cX2_captionsOverCuts 6 = .ok (.getfield 9, 3) := by decide +kernel
theorem dX2_captionsOverCuts_9 : decode cX2_captionsOverCuts 9 = .ok (.iload_n 1, 1) := by decide +kernel
theorem dX2_captionsOverCuts_10 : decode cX2_captionsOverCuts 10 = .ok (.invokevirtual 22, 3) := by decide +kernel
theorem dX2_captionsOverCuts_13 : decode cX2_captionsOverCuts 13 = .ok (.getfield 47, 3) := by decide +kernel
theorem dX2_captionsOverCuts_16 : decode cX2_captionsOverCuts 16 = .ok (.if_icmp .ge 21, 3) := by decide +kernel
theorem dX2_captionsOverCuts_19 : decode cX2_captionsOverCuts 19 = .ok (.aload_n 0, 1) := by decide +kernel
theorem dX2_captionsOverCuts_20 : decode cX2_captionsOverCuts 20 = .ok (.iload_n 1, 1) := by decide +kernel
theorem dX2_captionsOverCuts_21 : decode cX2_captionsOverCuts 21 = .ok (.iload_n 3, 1) := by decide +kernel
theorem dX2_captionsOverCuts_22 : decode cX2_captionsOverCuts 22 = .ok (.invokevirtual 102, 3) := by decide +kernel
theorem dX2_captionsOverCuts_25 : decode cX2_captionsOverCuts 25 = .ok (.ifCond .le 6, 3) := by decide +kernel
theorem dX2_captionsOverCuts_28 : decode cX2_captionsOverCuts 28 = .ok (.iinc 2 1, 3) := by decide +kernel
theorem dX2_captionsOverCuts_31 : decode cX2_captionsOverCuts 31 = .ok (.iinc 3 1, 3) := by decide +kernel
theorem dX2_captionsOverCuts_34 : decode cX2_captionsOverCuts 34 = .ok (.goto (-30), 3) := by decide +kernel
theorem dX2_captionsOverCuts_37 : decode cX2_captionsOverCuts 37 = .ok (.iload_n 2, 1) := by decide +kernel
theorem dX2_captionsOverCuts_38 : decode cX2_captionsOverCuts 38 = .ok (.ireturn, 1) := by decide +kernel
theorem dX2_captionsToMerge_0 : decode cX2_captionsToMerge 0 = .ok (.iconst 0, 1) := by decide +kernel
theorem dX2_captionsToMerge_1 : decode cX2_captionsToMerge 1 = .ok (.istore_n 2, 1) := by decide +kernel
theorem dX2_captionsToMerge_2 : decode cX2_captionsToMerge 2 = .ok (.iconst 0, 1) := by decide +kernel
theorem dX2_captionsToMerge_3 : decode cX2_captionsToMerge 3 = .ok (.istore_n 3, 1) := by decide +kernel
theorem dX2_captionsToMerge_4 : decode cX2_captionsToMerge 4 = .ok (.iload_n 3, 1) := by decide +kernel
theorem dX2_captionsToMerge_5 : decode cX2_captionsToMerge 5 = .ok (.aload_n 0, 1) := by decide +kernel
theorem dX2_captionsToMerge_6 : decode cX2_captionsToMerge 6 = .ok (.getfield 9, 3) := by decide +kernel
theorem dX2_captionsToMerge_9 : decode cX2_captionsToMerge 9 = .ok (.iload_n 1, 1) := by decide +kernel
theorem dX2_captionsToMerge_10 : decode cX2_captionsToMerge 10 = .ok (.invokevirtual 22, 3) := by decide +kernel
theorem dX2_captionsToMerge_13 : decode cX2_captionsToMerge 13 = .ok (.getfield 47, 3) := by decide +kernel
theorem dX2_captionsToMerge_16 : decode cX2_captionsToMerge 16 = .ok (.if_icmp .ge 21, 3) := by decide +kernel
theorem dX2_captionsToMerge_19 : decode cX2_captionsToMerge 19 = .ok (.aload_n 0, 1) := by decide +kernel
theorem dX2_captionsToMerge_20 : decode cX2_captionsToMerge 20 = .ok (.iload_n 1, 1) := by decide +kernel
theorem dX2_captionsToMerge_21 : decode cX2_captionsToMerge 21 = .ok (.iload_n 3, 1) := by decide +kernel
theorem dX2_captionsToMerge_22 : decode cX2_captionsToMerge 22 = .ok (.invokevirtual 105, 3) := by decide +kernel
theorem dX2_captionsToMerge_25 : decode cX2_captionsToMerge 25 = .ok (.ifCond .ne 6, 3) := by decide +kernel
theorem dX2_captionsToMerge_28 : decode cX2_captionsToMerge 28 = .ok (.iinc 2 1, 3) := by decide +kernel
theorem dX2_captionsToMerge_31 : decode cX2_captionsToMerge 31 = .ok (.iinc 3 1, 3) := by decide +kernel
theorem dX2_captionsToMerge_34 : decode cX2_captionsToMerge 34 = .ok (.goto (-30), 3) := by decide +kernel
theorem dX2_captionsToMerge_37 : decode cX2_captionsToMerge 37 = .ok (.iload_n 2, 1) := by decide +kernel
theorem dX2_captionsToMerge_38 : decode cX2_captionsToMerge 38 = .ok (.ireturn, 1) := by decide +kernel
theorem dX2_framesOfBoth_0 : decode cX2_framesOfBoth 0 = .ok (.aload_n 0, 1) := by decide +kernel
theorem dX2_framesOfBoth_1 : decode cX2_framesOfBoth 1 = .ok (.getfield 9, 3) := by decide +kernel
theorem dX2_framesOfBoth_4 : decode cX2_framesOfBoth 4 = .ok (.iconst 0, 1) := by decide +kernel
theorem dX2_framesOfBoth_5 : decode cX2_framesOfBoth 5 = .ok (.invokevirtual 22, 3) := by decide +kernel
theorem dX2_framesOfBoth_8 : decode cX2_framesOfBoth 8 = .ok (.astore_n 1, 1) := by decide +kernel
theorem dX2_framesOfBoth_9 : decode cX2_framesOfBoth 9 = .ok (.aload_n 0, 1) := by decide +kernel
theorem dX2_framesOfBoth_10 : decode cX2_framesOfBoth 10 = .ok (.getfield 9, 3) := by decide +kernel
theorem dX2_framesOfBoth_13 : decode cX2_framesOfBoth 13 = .ok (.iconst 0, 1) := by decide +kernel
theorem dX2_framesOfBoth_14 : decode cX2_framesOfBoth 14 = .ok (.invokevirtual 44, 3) := by decide +kernel
theorem dX2_framesOfBoth_17 : decode cX2_framesOfBoth 17 = .ok (.astore_n 2, 1) := by decide +kernel
theorem dX2_framesOfBoth_18 : decode cX2_framesOfBoth 18 = .ok (.iconst 0, 1) := by decide +kernel
theorem dX2_framesOfBoth_19 : decode cX2_framesOfBoth 19 = .ok (.istore_n 3, 1) := by decide +kernel
theorem dX2_framesOfBoth_20 : decode cX2_framesOfBoth 20 = .ok (.iconst 0, 1) := by decide +kernel
theorem dX2_framesOfBoth_21 : decode cX2_framesOfBoth 21 = .ok (.istore 4, 2) := by decide +kernel
theorem dX2_framesOfBoth_23 : decode cX2_framesOfBoth 23 = .ok (.iload 4, 2) := by decide +kernel
theorem dX2_framesOfBoth_25 : decode cX2_framesOfBoth 25 = .ok (.aload_n 1, 1) := by decide +kernel
theorem dX2_framesOfBoth_26 : decode cX2_framesOfBoth 26 = .ok (.getfield 47, 3) := by decide +kernel
theorem dX2_framesOfBoth_29 : decode cX2_framesOfBoth 29 = .ok (.if_icmp .ge 48, 3) := by decide +kernel
theorem dX2_framesOfBoth_32 : decode cX2_framesOfBoth 32 = .ok (.iconst 0, 1) := by decide +kernel
theorem dX2_framesOfBoth_33 : decode cX2_framesOfBoth 33 = .ok (.istore 5, 2) := by decide +kernel
theorem dX2_framesOfBoth_35 : decode cX2_framesOfBoth 35 = .ok (.iload 5, 2) := by decide +kernel
theorem dX2_framesOfBoth_37 : decode cX2_framesOfBoth 37 = .ok (.aload_n 2, 1) := by decide +kernel
theorem dX2_framesOfBoth_38 : decode cX2_framesOfBoth 38 = .ok (.getfield 47, 3) := by decide +kernel
theorem dX2_framesOfBoth_41 : decode cX2_framesOfBoth 41 = .ok (.if_icmp .ge 30, 3) := by decide +kernel
theorem dX2_framesOfBoth_44 : decode cX2_framesOfBoth 44 = .ok (.iload_n 3, 1) := by decide +kernel
theorem dX2_framesOfBoth_45 : decode cX2_framesOfBoth 45 = .ok (.aload_n 2, 1) := by decide +kernel
theorem dX2_framesOfBoth_46 : decode cX2_framesOfBoth 46 = .ok (.iload 5, 2) := by decide +kernel
theorem dX2_framesOfBoth_48 : decode cX2_framesOfBoth 48 = .ok (.aload_n 1, 1) := by decide +kernel
theorem dX2_framesOfBoth_49 : decode cX2_framesOfBoth 49 = .ok (.iload 4, 2) := by decide +kernel
theorem dX2_framesOfBoth_51 : decode cX2_framesOfBoth 51 = .ok (.invokevirtual 51, 3) := by decide +kernel
theorem dX2_framesOfBoth_54 : decode cX2_framesOfBoth 54 = .ok (.aload_n 1, 1) := by decide +kernel
theorem dX2_framesOfBoth_55 : decode cX2_framesOfBoth 55 = .ok (.iload 4, 2) := by decide +kernel
theorem dX2_framesOfBoth_57 : decode cX2_framesOfBoth 57 = .ok (.invokevirtual 54, 3) := by decide +kernel
theorem dX2_framesOfBoth_60 : decode cX2_framesOfBoth 60 = .ok (.invokevirtual 57, 3) := by decide +kernel
theorem dX2_framesOfBoth_63 : decode cX2_framesOfBoth 63 = .ok (.iadd, 1) := by decide +kernel
theorem dX2_framesOfBoth_64 : decode cX2_framesOfBoth 64 = .ok (.istore_n 3, 1) := by decide +kernel
theorem dX2_framesOfBoth_65 : decode cX2_framesOfBoth 65 = .ok (.iinc 5 1, 3) := by decide +kernel
theorem dX2_framesOfBoth_68 : decode cX2_framesOfBoth 68 = .ok (.goto (-33), 3) := by decide +kernel
theorem dX2_framesOfBoth_71 : decode cX2_framesOfBoth 71 = .ok (.iinc 4 1, 3) := by decide +kernel
theorem dX2_framesOfBoth_74 : decode cX2_framesOfBoth 74 = .ok (.goto (-51), 3) := by decide +kernel
theorem dX2_framesOfBoth_77 : decode cX2_framesOfBoth 77 = .ok (.iload_n 3, 1) := by decide +kernel
theorem dX2_framesOfBoth_78 : decode cX2_framesOfBoth 78 = .ok (.ireturn, 1) := by decide +kernel
theorem dX2_mergeRefusal_0 : decode cX2_mergeRefusal 0 = .ok (.aload_n 0, 1) := by decide +kernel
theorem dX2_mergeRefusal_1 : decode cX2_mergeRefusal 1 = .ok (.getfield 9, 3) := by decide +kernel
theorem dX2_mergeRefusal_4 : decode cX2_mergeRefusal 4 = .ok (.iload_n 1, 1) := by decide +kernel
theorem dX2_mergeRefusal_5 : decode cX2_mergeRefusal 5 = .ok (.invokevirtual 22, 3) := by decide +kernel
theorem dX2_mergeRefusal_8 : decode cX2_mergeRefusal 8 = .ok (.astore_n 3, 1) := by decide +kernel
theorem dX2_mergeRefusal_9 : decode cX2_mergeRefusal 9 = .ok (.aload_n 3, 1) := by decide +kernel
theorem dX2_mergeRefusal_10 : decode cX2_mergeRefusal 10 = .ok (.iload_n 2, 1) := by decide +kernel
theorem dX2_mergeRefusal_11 : decode cX2_mergeRefusal 11 = .ok (.iconst 1, 1) := by decide +kernel
theorem dX2_mergeRefusal_12 : decode cX2_mergeRefusal 12 = .ok (.iadd, 1) := by decide +kernel
theorem dX2_mergeRefusal_13 : decode cX2_mergeRefusal 13 = .ok (.invokevirtual 108, 3) := by decide +kernel
theorem dX2_mergeRefusal_16 : decode cX2_mergeRefusal 16 = .ok (.ifCond .ne 5, 3) := by decide +kernel
theorem dX2_mergeRefusal_19 : decode cX2_mergeRefusal 19 = .ok (.iconst 5, 1) := by decide +kernel
theorem dX2_mergeRefusal_20 : decode cX2_mergeRefusal 20 = .ok (.ireturn, 1) := by decide +kernel
theorem dX2_mergeRefusal_21 : decode cX2_mergeRefusal 21 = .ok (.aload_n 3, 1) := by decide +kernel
theorem dX2_mergeRefusal_22 : decode cX2_mergeRefusal 22 = .ok (.iload_n 2, 1) := by decide +kernel
theorem dX2_mergeRefusal_23 : decode cX2_mergeRefusal 23 = .ok (.invokevirtual 28, 3) := by decide +kernel
theorem dX2_mergeRefusal_26 : decode cX2_mergeRefusal 26 = .ok (.aload_n 3, 1) := by decide +kernel
theorem dX2_mergeRefusal_27 : decode cX2_mergeRefusal 27 = .ok (.iload_n 2, 1) := by decide +kernel
theorem dX2_mergeRefusal_28 : decode cX2_mergeRefusal 28 = .ok (.iconst 1, 1) := by decide +kernel
theorem dX2_mergeRefusal_29 : decode cX2_mergeRefusal 29 = .ok (.iadd, 1) := by decide +kernel
theorem dX2_mergeRefusal_30 : decode cX2_mergeRefusal 30 = .ok (.invokevirtual 28, 3) := by decide +kernel
theorem dX2_mergeRefusal_33 : decode cX2_mergeRefusal 33 = .ok (.if_icmp .eq 6, 3) := by decide +kernel
theorem dX2_mergeRefusal_36 : decode cX2_mergeRefusal 36 = .ok (.bipush 6, 2) := by decide +kernel
theorem dX2_mergeRefusal_38 : decode cX2_mergeRefusal 38 = .ok (.ireturn, 1) := by decide +kernel
theorem dX2_mergeRefusal_39 : decode cX2_mergeRefusal 39 = .ok (.aload_n 3, 1) := by decide +kernel
theorem dX2_mergeRefusal_40 : decode cX2_mergeRefusal 40 = .ok (.iload_n 2, 1) := by decide +kernel
theorem dX2_mergeRefusal_41 : decode cX2_mergeRefusal 41 = .ok (.iconst 1, 1) := by decide +kernel
theorem dX2_mergeRefusal_42 : decode cX2_mergeRefusal 42 = .ok (.iadd, 1) := by decide +kernel
theorem dX2_mergeRefusal_43 : decode cX2_mergeRefusal 43 = .ok (.invokevirtual 67, 3) := by decide +kernel
theorem dX2_mergeRefusal_46 : decode cX2_mergeRefusal 46 = .ok (.aload_n 0, 1) := by decide +kernel
theorem dX2_mergeRefusal_47 : decode cX2_mergeRefusal 47 = .ok (.getfield 9, 3) := by decide +kernel
theorem dX2_mergeRefusal_50 : decode cX2_mergeRefusal 50 = .ok (.iconst 3, 1) := by decide +kernel
theorem dX2_mergeRefusal_51 : decode cX2_mergeRefusal 51 = .ok (.invokevirtual 37, 3) := by decide +kernel
theorem dX2_mergeRefusal_54 : decode cX2_mergeRefusal 54 = .ok (.if_icmp .le 6, 3) := by decide +kernel
theorem dX2_mergeRefusal_57 : decode cX2_mergeRefusal 57 = .ok (.bipush 7, 2) := by decide +kernel
theorem dX2_mergeRefusal_59 : decode cX2_mergeRefusal 59 = .ok (.ireturn, 1) := by decide +kernel
theorem dX2_mergeRefusal_60 : decode cX2_mergeRefusal 60 = .ok (.aload_n 0, 1) := by decide +kernel
theorem dX2_mergeRefusal_61 : decode cX2_mergeRefusal 61 = .ok (.iload_n 1, 1) := by decide +kernel
theorem dX2_mergeRefusal_62 : decode cX2_mergeRefusal 62 = .ok (.iload_n 2, 1) := by decide +kernel
theorem dX2_mergeRefusal_63 : decode cX2_mergeRefusal 63 = .ok (.invokevirtual 111, 3) := by decide +kernel
theorem dX2_mergeRefusal_66 : decode cX2_mergeRefusal 66 = .ok (.invokevirtual 115, 3) := by decide +kernel
theorem dX2_mergeRefusal_69 : decode cX2_mergeRefusal 69 = .ok (.ifCond .eq 7, 3) := by decide +kernel
theorem dX2_mergeRefusal_72 : decode cX2_mergeRefusal 72 = .ok (.iconst 0, 1) := by decide +kernel
theorem dX2_mergeRefusal_73 : decode cX2_mergeRefusal 73 = .ok (.goto 4, 3) := by decide +kernel
theorem dX2_mergeRefusal_76 : decode cX2_mergeRefusal 76 = .ok (.iconst 4, 1) := by decide +kernel
theorem dX2_mergeRefusal_77 : decode cX2_mergeRefusal 77 = .ok (.ireturn, 1) := by decide +kernel
theorem dX2_joinWithNext_0 : decode cX2_joinWithNext 0 = .ok (.aload_n 0, 1) := by decide +kernel
theorem dX2_joinWithNext_1 : decode cX2_joinWithNext 1 = .ok (.getfield 9, 3) := by decide +kernel
theorem dX2_joinWithNext_4 : decode cX2_joinWithNext 4 = .ok (.iload_n 1, 1) := by decide +kernel
theorem dX2_joinWithNext_5 : decode cX2_joinWithNext 5 = .ok (.invokevirtual 22, 3) := by decide +kernel
theorem dX2_joinWithNext_8 : decode cX2_joinWithNext 8 = .ok (.astore_n 3, 1) := by decide +kernel
theorem dX2_joinWithNext_9 : decode cX2_joinWithNext 9 = .ok (.aload_n 0, 1) := by decide +kernel
theorem dX2_joinWithNext_10 : decode cX2_joinWithNext 10 = .ok (.getfield 18, 3) := by decide +kernel
theorem dX2_joinWithNext_13 : decode cX2_joinWithNext 13 = .ok (.invokevirtual 119, 3) := by decide +kernel
theorem dX2_joinWithNext_16 : decode cX2_joinWithNext 16 = .ok (.aload_n 3, 1) := by decide +kernel
theorem dX2_joinWithNext_17 : decode cX2_joinWithNext 17 = .ok (.aload_n 0, 1) := by decide +kernel
theorem dX2_joinWithNext_18 : decode cX2_joinWithNext 18 = .ok (.getfield 18, 3) := by decide +kernel
theorem dX2_joinWithNext_21 : decode cX2_joinWithNext 21 = .ok (.iload_n 2, 1) := by decide +kernel
theorem dX2_joinWithNext_22 : decode cX2_joinWithNext 22 = .ok (.iconst 0, 1) := by decide +kernel
theorem dX2_joinWithNext_23 : decode cX2_joinWithNext 23 = .ok (.aload_n 3, 1) := by decide +kernel
theorem dX2_joinWithNext_24 : decode cX2_joinWithNext 24 = .ok (.iload_n 2, 1) := by decide +kernel
theorem dX2_joinWithNext_25 : decode cX2_joinWithNext 25 = .ok (.invokevirtual 122, 3) := by decide +kernel
theorem dX2_joinWithNext_28 : decode cX2_joinWithNext 28 = .ok (.invokevirtual 125, 3) := by decide +kernel
theorem dX2_joinWithNext_31 : decode cX2_joinWithNext 31 = .ok (.aload_n 0, 1) := by decide +kernel
theorem dX2_joinWithNext_32 : decode cX2_joinWithNext 32 = .ok (.getfield 18, 3) := by decide +kernel
theorem dX2_joinWithNext_35 : decode cX2_joinWithNext 35 = .ok (.bipush 95, 2) := by decide +kernel
theorem dX2_joinWithNext_37 : decode cX2_joinWithNext 37 = .ok (.invokevirtual 129, 3) := by decide +kernel
theorem dX2_joinWithNext_40 : decode cX2_joinWithNext 40 = .ok (.pop, 1) := by decide +kernel
theorem dX2_joinWithNext_41 : decode cX2_joinWithNext 41 = .ok (.aload_n 3, 1) := by decide +kernel
theorem dX2_joinWithNext_42 : decode cX2_joinWithNext 42 = .ok (.aload_n 0, 1) := by decide +kernel
theorem dX2_joinWithNext_43 : decode cX2_joinWithNext 43 = .ok (.getfield 18, 3) := by decide +kernel
theorem dX2_joinWithNext_46 : decode cX2_joinWithNext 46 = .ok (.iload_n 2, 1) := by decide +kernel
theorem dX2_joinWithNext_47 : decode cX2_joinWithNext 47 = .ok (.iconst 1, 1) := by decide +kernel
theorem dX2_joinWithNext_48 : decode cX2_joinWithNext 48 = .ok (.iadd, 1) := by decide +kernel
theorem dX2_joinWithNext_49 : decode cX2_joinWithNext 49 = .ok (.iconst 0, 1) := by decide +kernel
theorem dX2_joinWithNext_50 : decode cX2_joinWithNext 50 = .ok (.aload_n 3, 1) := by decide +kernel
theorem dX2_joinWithNext_51 : decode cX2_joinWithNext 51 = .ok (.iload_n 2, 1) := by decide +kernel
theorem dX2_joinWithNext_52 : decode cX2_joinWithNext 52 = .ok (.iconst 1, 1) := by decide +kernel
theorem dX2_joinWithNext_53 : decode cX2_joinWithNext 53 = .ok (.iadd, 1) := by decide +kernel
theorem dX2_joinWithNext_54 : decode cX2_joinWithNext 54 = .ok (.invokevirtual 122, 3) := by decide +kernel
theorem dX2_joinWithNext_57 : decode cX2_joinWithNext 57 = .ok (.invokevirtual 125, 3) := by decide +kernel
theorem dX2_joinWithNext_60 : decode cX2_joinWithNext 60 = .ok (.aload_n 0, 1) := by decide +kernel
theorem dX2_joinWithNext_61 : decode cX2_joinWithNext 61 = .ok (.getfield 18, 3) := by decide +kernel
theorem dX2_joinWithNext_64 : decode cX2_joinWithNext 64 = .ok (.areturn, 1) := by decide +kernel
theorem dX3_init_0 : decode cX3_init 0 = .ok (.aload_n 0, 1) := by decide +kernel
theorem dX3_init_1 : decode cX3_init 1 = .ok (.invokespecial 3, 3) := by decide +kernel
theorem dX3_init_4 : decode cX3_init 4 = .ok (.aload_n 0, 1) := by decide +kernel
theorem dX3_init_5 : decode cX3_init 5 = .ok (.sipush 1000, 3) := by decide +kernel
theorem dX3_init_8 : decode cX3_init 8 = .ok (.putfield 9, 3) := by decide +kernel
theorem dX3_init_11 : decode cX3_init 11 = .ok (.aload_n 0, 1) := by decide +kernel
theorem dX3_init_12 : decode cX3_init 12 = .ok (.bipush 6, 2) := by decide +kernel
theorem dX3_init_14 : decode cX3_init 14 = .ok (.newarray .int, 2) := by decide +kernel
theorem dX3_init_16 : decode cX3_init 16 = .ok (.putfield 15, 3) := by decide +kernel
theorem dX3_init_19 : decode cX3_init 19 = .ok (.getstatic 19, 3) := by decide +kernel
theorem dX3_init_22 : decode cX3_init 22 = .ok (.iconst 0, 1) := by decide +kernel
theorem dX3_init_23 : decode cX3_init 23 = .ok (.aload_n 0, 1) := by decide +kernel
theorem dX3_init_24 : decode cX3_init 24 = .ok (.getfield 15, 3) := by decide +kernel
theorem dX3_init_27 : decode cX3_init 27 = .ok (.iconst 0, 1) := by decide +kernel
theorem dX3_init_28 : decode cX3_init 28 = .ok (.bipush 6, 2) := by decide +kernel
theorem dX3_init_30 : decode cX3_init 30 = .ok (.invokestatic 22, 3) := by decide +kernel
theorem dX3_init_33 : decode cX3_init 33 = .ok (.aload_n 0, 1) := by decide +kernel
theorem dX3_init_34 : decode cX3_init 34 = .ok (.new 28, 3) := by decide +kernel
theorem dX3_init_37 : decode cX3_init 37 = .ok (.dup, 1) := by decide +kernel
theorem dX3_init_38 : decode cX3_init 38 = .ok (.invokespecial 30, 3) := by decide +kernel
theorem dX3_init_41 : decode cX3_init 41 = .ok (.putfield 31, 3) := by decide +kernel
theorem dX3_init_44 : decode cX3_init 44 = .ok (.aload_n 0, 1) := by decide +kernel
theorem dX3_init_45 : decode cX3_init 45 = .ok (.new 35, 3) := by decide +kernel
theorem dX3_init_48 : decode cX3_init 48 = .ok (.dup, 1) := by decide +kernel
theorem dX3_init_49 : decode cX3_init 49 = .ok (.invokespecial 37, 3) := by decide +kernel
theorem dX3_init_52 : decode cX3_init 52 = .ok (.putfield 38, 3) := by decide +kernel
theorem dX3_init_55 : decode cX3_init 55 = .ok (.aload_n 0, 1) := by decide +kernel
theorem dX3_init_56 : decode cX3_init 56 = .ok (.new 35, 3) := by decide +kernel
theorem dX3_init_59 : decode cX3_init 59 = .ok (.dup, 1) := by decide +kernel
theorem dX3_init_60 : decode cX3_init 60 = .ok (.invokespecial 37, 3) := by decide +kernel
theorem dX3_init_63 : decode cX3_init 63 = .ok (.putfield 42, 3) := by decide +kernel
theorem dX3_init_66 : decode cX3_init 66 = .ok (.return_, 1) := by decide +kernel
theorem dX3_copyFrom_0 : decode cX3_copyFrom 0 = .ok (.aload_n 0, 1) := by decide +kernel
theorem dX3_copyFrom_1 : decode cX3_copyFrom 1 = .ok (.aload_n 1, 1) := by decide +kernel
theorem dX3_copyFrom_2 : decode cX3_copyFrom 2 = .ok (.getfield 9, 3) := by decide +kernel
theorem dX3_copyFrom_5 : decode cX3_copyFrom 5 = .ok (.putfield 9, 3) := by decide +kernel
theorem dX3_copyFrom_8 : decode cX3_copyFrom 8 = .ok (.aload_n 1, 1) := by decide +kernel
theorem dX3_copyFrom_9 : decode cX3_copyFrom 9 = .ok (.getfield 15, 3) := by decide +kernel
theorem dX3_copyFrom_12 : decode cX3_copyFrom 12 = .ok (.iconst 0, 1) := by decide +kernel
theorem dX3_copyFrom_13 : decode cX3_copyFrom 13 = .ok (.aload_n 0, 1) := by decide +kernel
theorem dX3_copyFrom_14 : decode cX3_copyFrom 14 = .ok (.getfield 15, 3) := by decide +kernel
theorem dX3_copyFrom_17 : decode cX3_copyFrom 17 = .ok (.iconst 0, 1) := by decide +kernel
theorem dX3_copyFrom_18 : decode cX3_copyFrom 18 = .ok (.bipush 6, 2) := by decide +kernel
theorem dX3_copyFrom_20 : decode cX3_copyFrom 20 = .ok (.invokestatic 22, 3) := by decide +kernel
theorem dX3_copyFrom_23 : decode cX3_copyFrom 23 = .ok (.aload_n 0, 1) := by decide +kernel
theorem dX3_copyFrom_24 : decode cX3_copyFrom 24 = .ok (.getfield 31, 3) := by decide +kernel
theorem dX3_copyFrom_27 : decode cX3_copyFrom 27 = .ok (.aload_n 1, 1) := by decide +kernel
theorem dX3_copyFrom_28 : decode cX3_copyFrom 28 = .ok (.getfield 31, 3) := by decide +kernel
theorem dX3_copyFrom_31 : decode cX3_copyFrom 31 = .ok (.invokevirtual 45, 3) := by decide +kernel
theorem dX3_copyFrom_34 : decode cX3_copyFrom 34 = .ok (.aload_n 0, 1) := by decide +kernel
theorem dX3_copyFrom_35 : decode cX3_copyFrom 35 = .ok (.getfield 38, 3) := by decide +kernel
theorem dX3_copyFrom_38 : decode cX3_copyFrom 38 = .ok (.aload_n 1, 1) := by decide +kernel
theorem dX3_copyFrom_39 : decode cX3_copyFrom 39 = .ok (.getfield 38, 3) := by decide +kernel
theorem dX3_copyFrom_42 : decode cX3_copyFrom 42 = .ok (.invokevirtual 49, 3) := by decide +kernel
theorem dX3_copyFrom_45 : decode cX3_copyFrom 45 = .ok (.aload_n 0, 1) := by decide +kernel
theorem dX3_copyFrom_46 : decode cX3_copyFrom 46 = .ok (.getfield 42, 3) := by decide +kernel
theorem dX3_copyFrom_49 : decode cX3_copyFrom 49 = .ok (.aload_n 1, 1) := by decide +kernel
theorem dX3_copyFrom_50 : decode cX3_copyFrom 50 = .ok (.getfield 42, 3) := by decide +kernel
theorem dX3_copyFrom_53 : decode cX3_copyFrom 53 = .ok (.invokevirtual 49, 3) := by decide +kernel
theorem dX3_copyFrom_56 : decode cX3_copyFrom 56 = .ok (.return_, 1) := by decide +kernel
theorem dX3_trackOf_0 : decode cX3_trackOf 0 = .ok (.iload_n 1, 1) := by decide +kernel
theorem dX3_trackOf_1 : decode cX3_trackOf 1 = .ok (.ifCond .ne 10, 3) := by decide +kernel
theorem dX3_trackOf_4 : decode cX3_trackOf 4 = .ok (.aload_n 0, 1) := by decide +kernel
theorem dX3_trackOf_5 : decode cX3_trackOf 5 = .ok (.getfield 38, 3) := by decide +kernel
theorem dX3_trackOf_8 : decode cX3_trackOf 8 = .ok (.goto 7, 3) := by decide +kernel
theorem dX3_trackOf_11 : decode cX3_trackOf 11 = .ok (.aload_n 0, 1) := by decide +kernel
theorem dX3_trackOf_12 : decode cX3_trackOf 12 = .ok (.getfield 42, 3) := by decide +kernel
theorem dX3_trackOf_15 : decode cX3_trackOf 15 = .ok (.areturn, 1) := by decide +kernel
theorem dX3_trackBeside_0 : decode cX3_trackBeside 0 = .ok (.iload_n 1, 1) := by decide +kernel
theorem dX3_trackBeside_1 : decode cX3_trackBeside 1 = .ok (.ifCond .ne 10, 3) := by decide +kernel
theorem dX3_trackBeside_4 : decode cX3_trackBeside 4 = .ok (.aload_n 0, 1) := by decide +kernel
theorem dX3_trackBeside_5 : decode cX3_trackBeside 5 = .ok (.getfield 42, 3) := by decide +kernel
theorem dX3_trackBeside_8 : decode cX3_trackBeside 8 = .ok (.goto 7, 3) := by decide +kernel
theorem dX3_trackBeside_11 : decode cX3_trackBeside 11 = .ok (.aload_n 0, 1) := by decide +kernel
theorem dX3_trackBeside_12 : decode cX3_trackBeside 12 = .ok (.getfield 38, 3) := by decide +kernel
theorem dX3_trackBeside_15 : decode cX3_trackBeside 15 = .ok (.areturn, 1) := by decide +kernel
theorem dX3_captionCount_0 : decode cX3_captionCount 0 = .ok (.aload_n 0, 1) := by decide +kernel
theorem dX3_captionCount_1 : decode cX3_captionCount 1 = .ok (.getfield 38, 3) := by decide +kernel
theorem dX3_captionCount_4 : decode cX3_captionCount 4 = .ok (.getfield 52, 3) := by decide +kernel
theorem dX3_captionCount_7 : decode cX3_captionCount 7 = .ok (.aload_n 0, 1) := by decide +kernel
theorem dX3_captionCount_8 : decode cX3_captionCount 8 = .ok (.getfield 42, 3) := by decide +kernel
theorem dX3_captionCount_11 : decode cX3_captionCount 11 = .ok (.getfield 52, 3) := by decide +kernel
theorem dX3_captionCount_14 : decode cX3_captionCount 14 = .ok (.iadd, 1) := by decide +kernel
theorem dX3_captionCount_15 : decode cX3_captionCount 15 = .ok (.ireturn, 1) := by decide +kernel
theorem dX3_setting_0 : decode cX3_setting 0 = .ok (.iload_n 1, 1) := by decide +kernel
theorem dX3_setting_1 : decode cX3_setting 1 = .ok (.invokestatic 55, 3) := by decide +kernel
theorem dX3_setting_4 : decode cX3_setting 4 = .ok (.ifCond .eq 12, 3) := by decide +kernel
theorem dX3_setting_7 : decode cX3_setting 7 = .ok (.aload_n 0, 1) := by decide +kernel
theorem dX3_setting_8 : decode cX3_setting 8 = .ok (.getfield 15, 3) := by decide +kernel
theorem dX3_setting_11 : decode cX3_setting 11 = .ok (.iload_n 1, 1) := by decide +kernel
theorem dX3_setting_12 : decode cX3_setting 12 = .ok (.iaload, 1) := by decide +kernel
theorem dX3_setting_13 : decode cX3_setting 13 = .ok (.goto 4, 3) := by decide +kernel
theorem dX3_setting_16 : decode cX3_setting 16 = .ok (.iconst 0, 1) := by decide +kernel
theorem dX3_setting_17 : decode cX3_setting 17 = .ok (.ireturn, 1) := by decide +kernel
theorem dX3_changeSetting_0 : decode cX3_changeSetting 0 = .ok (.aload_n 0, 1) := by decide +kernel
theorem dX3_changeSetting_1 : decode cX3_changeSetting 1 = .ok (.iload_n 1, 1) := by decide +kernel
theorem dX3_changeSetting_2 : decode cX3_changeSetting 2 = .ok (.invokevirtual 59, 3) := by decide +kernel
theorem dX3_changeSetting_5 : decode cX3_changeSetting 5 = .ok (.istore_n 3, 1) := by decide +kernel
theorem dX3_changeSetting_6 : decode cX3_changeSetting 6 = .ok (.iload_n 1, 1) := by decide +kernel
theorem dX3_changeSetting_7 : decode cX3_changeSetting 7 = .ok (.invokestatic 55, 3) := by decide +kernel
theorem dX3_changeSetting_10 : decode cX3_changeSetting 10 = .ok (.ifCond .eq 10, 3) := by decide +kernel
theorem dX3_changeSetting_13 : decode cX3_changeSetting 13 = .ok (.aload_n 0, 1) := by decide +kernel
theorem dX3_changeSetting_14 : decode cX3_changeSetting 14 = .ok (.getfield 15, 3) := by decide +kernel
theorem dX3_changeSetting_17 : decode cX3_changeSetting 17 = .ok (.iload_n 1, 1) := by decide +kernel
theorem dX3_changeSetting_18 : decode cX3_changeSetting 18 = .ok (.iload_n 2, 1) := by decide +kernel
theorem dX3_changeSetting_19 : decode cX3_changeSetting 19 = .ok (.iastore, 1) := by decide +kernel
theorem dX3_changeSetting_20 : decode cX3_changeSetting 20 = .ok (.iload_n 3, 1) := by decide +kernel
theorem dX3_changeSetting_21 : decode cX3_changeSetting 21 = .ok (.ireturn, 1) := by decide +kernel
theorem dX3_hasFrame_0 : decode cX3_hasFrame 0 = .ok (.iload_n 1, 1) := by decide +kernel
theorem dX3_hasFrame_1 : decode cX3_hasFrame 1 = .ok (.ifCond .lt 15, 3) := by decide +kernel
theorem dX3_hasFrame_4 : decode cX3_hasFrame 4 = .ok (.iload_n 1, 1) := by decide +kernel
theorem dX3_hasFrame_5 : decode cX3_hasFrame 5 = .ok (.aload_n 0, 1) := by decide +kernel
theorem dX3_hasFrame_6 : decode cX3_hasFrame 6 = .ok (.getfield 9, 3) := by decide +kernel
theorem dX3_hasFrame_9 : decode cX3_hasFrame 9 = .ok (.if_icmp .ge 7, 3) := by decide +kernel
theorem dX3_hasFrame_12 : decode cX3_hasFrame 12 = .ok (.iconst 1, 1) := by decide +kernel
theorem dX3_hasFrame_13 : decode cX3_hasFrame 13 = .ok (.goto 4, 3) := by decide +kernel
theorem dX3_hasFrame_16 : decode cX3_hasFrame 16 = .ok (.iconst 0, 1) := by decide +kernel
theorem dX3_hasFrame_17 : decode cX3_hasFrame 17 = .ok (.ireturn, 1) := by decide +kernel
theorem dX3_canBeCut_0 : decode cX3_canBeCut 0 = .ok (.iload_n 1, 1) := by decide +kernel
theorem dX3_canBeCut_1 : decode cX3_canBeCut 1 = .ok (.iconst 1, 1) := by decide +kernel
theorem dX3_canBeCut_2 : decode cX3_canBeCut 2 = .ok (.if_icmp .lt 15, 3) := by decide +kernel
theorem dX3_canBeCut_5 : decode cX3_canBeCut 5 = .ok (.iload_n 1, 1) := by decide +kernel
theorem dX3_canBeCut_6 : decode cX3_canBeCut 6 = .ok (.aload_n 0, 1) := by decide +kernel
theorem dX3_canBeCut_7 : decode cX3_canBeCut 7 = .ok (.getfield 9, 3) := by decide +kernel
theorem dX3_canBeCut_10 : decode cX3_canBeCut 10 = .ok (.if_icmp .ge 7, 3) := by decide +kernel
theorem dX3_canBeCut_13 : decode cX3_canBeCut 13 = .ok (.iconst 1, 1) := by decide +kernel
theorem dX3_canBeCut_14 : decode cX3_canBeCut 14 = .ok (.goto 4, 3) := by decide +kernel
theorem dX3_canBeCut_17 : decode cX3_canBeCut 17 = .ok (.iconst 0, 1) := by decide +kernel
theorem dX3_canBeCut_18 : decode cX3_canBeCut 18 = .ok (.ireturn, 1) := by decide +kernel
theorem dX3_isLoose_0 : decode cX3_isLoose 0 = .ok (.aload_n 0, 1) := by decide +kernel
theorem dX3_isLoose_1 : decode cX3_isLoose 1 = .ok (.getfield 31, 3) := by decide +kernel
theorem dX3_isLoose_4 : decode cX3_isLoose 4 = .ok (.iload_n 1, 1) := by decide +kernel
theorem dX3_isLoose_5 : decode cX3_isLoose 5 = .ok (.invokevirtual 63, 3) := by decide +kernel
theorem dX3_isLoose_8 : decode cX3_isLoose 8 = .ok (.istore_n 2, 1) := by decide +kernel
theorem dX3_isLoose_9 : decode cX3_isLoose 9 = .ok (.iload_n 2, 1) := by decide +kernel
theorem dX3_isLoose_10 : decode cX3_isLoose 10 = .ok (.iconst (-1), 1) := by decide +kernel
theorem dX3_isLoose_11 : decode cX3_isLoose 11 = .ok (.if_icmp .eq 25, 3) := by decide +kernel
theorem dX3_isLoose_14 : decode cX3_isLoose 14 = .ok (.iload_n 2, 1) := by decide +kernel
theorem dX3_isLoose_15 : decode cX3_isLoose 15 = .ok (.iload_n 1, 1) := by decide +kernel
theorem dX3_isLoose_16 : decode cX3_isLoose 16 = .ok (.if_icmp .eq 20, 3) := by decide +kernel
theorem dX3_isLoose_19 : decode cX3_isLoose 19 = .ok (.iload_n 2, 1) := by decide +kernel
theorem dX3_isLoose_20 : decode cX3_isLoose 20 = .ok (.iload_n 1, 1) := by decide +kernel
theorem dX3_isLoose_21 : decode cX3_isLoose 21 = .ok (.invokestatic 66, 3) := by decide +kernel
theorem dX3_isLoose_24 : decode cX3_isLoose 24 = .ok (.aload_n 0, 1) := by decide +kernel
theorem dX3_isLoose_25 : decode cX3_isLoose 25 = .ok (.iconst 1, 1) := by decide +kernel
theorem dX3_isLoose_26 : decode cX3_isLoose 26 = .ok (.invokevirtual 59, 3) := by decide +kernel
theorem dX3_isLoose_29 : decode cX3_isLoose 29 = .ok (.if_icmp .gt 7, 3) := by decide +kernel
theorem dX3_isLoose_32 : decode cX3_isLoose 32 = .ok (.iconst 1, 1) := by decide +kernel
theorem dX3_isLoose_33 : decode cX3_isLoose 33 = .ok (.goto 4, 3) := by decide +kernel
theorem dX3_isLoose_36 : decode cX3_isLoose 36 = .ok (.iconst 0, 1) := by decide +kernel
theorem dX3_isLoose_37 : decode cX3_isLoose 37 = .ok (.ireturn, 1) := by decide +kernel
theorem dX3_lengthRefusal_0 : decode cX3_lengthRefusal 0 = .ok (.iconst 0, 1) := by decide +kernel
theorem dX3_lengthRefusal_1 : decode cX3_lengthRefusal 1 = .ok (.istore_n 2, 1) := by decide +kernel
theorem dX3_lengthRefusal_2 : decode cX3_lengthRefusal 2 = .ok (.iload_n 2, 1) := by decide +kernel
theorem dX3_lengthRefusal_3 : decode cX3_lengthRefusal 3 = .ok (.iconst 2, 1) := by decide +kernel
theorem dX3_lengthRefusal_4 : decode cX3_lengthRefusal 4 = .ok (.if_icmp .ge 31, 3) := by decide +kernel
theorem dX3_lengthRefusal_7 : decode cX3_lengthRefusal 7 = .ok (.aload_n 0, 1) := by decide +kernel
theorem dX3_lengthRefusal_8 : decode cX3_lengthRefusal 8 = .ok (.iload_n 2, 1) := by decide +kernel
theorem dX3_lengthRefusal_9 : decode cX3_lengthRefusal 9 = .ok (.invokevirtual 70, 3) := by decide +kernel
theorem dX3_lengthRefusal_12 : decode cX3_lengthRefusal 12 = .ok (.astore_n 3, 1) := by decide +kernel
theorem dX3_lengthRefusal_13 : decode cX3_lengthRefusal 13 = .ok (.aload_n 3, 1) := by decide +kernel
theorem dX3_lengthRefusal_14 : decode cX3_lengthRefusal 14 = .ok (.aload_n 3, 1) := by decide +kernel
theorem dX3_lengthRefusal_15 : decode cX3_lengthRefusal 15 = .ok (.getfield 52, 3) := by decide +kernel
theorem dX3_lengthRefusal_18 : decode cX3_lengthRefusal 18 = .ok (.iconst 1, 1) := by decide +kernel
theorem dX3_lengthRefusal_19 : decode cX3_lengthRefusal 19 = .ok (.isub, 1) := by decide +kernel
theorem dX3_lengthRefusal_20 : decode cX3_lengthRefusal 20 = .ok (.invokevirtual 74, 3) := by decide +kernel
theorem dX3_lengthRefusal_23 : decode cX3_lengthRefusal 23 = .ok (.iload_n 1, 1) := by decide +kernel
theorem dX3_lengthRefusal_24 : decode cX3_lengthRefusal 24 = .ok (.if_icmp .le 5, 3) := by decide +kernel
theorem dX3_lengthRefusal_27 : decode cX3_lengthRefusal 27 = .ok (.iconst 1, 1) := by decide +kernel
theorem dX3_lengthRefusal_28 : decode cX3_lengthRefusal 28 = .ok (.ireturn, 1) := by decide +kernel
theorem dX3_lengthRefusal_29 : decode cX3_lengthRefusal 29 = .ok (.iinc 2 1, 3) := by decide +kernel
theorem dX3_lengthRefusal_32 : decode cX3_lengthRefusal 32 = .ok (.goto (-30), 3) := by decide +kernel
theorem dX3_lengthRefusal_35 : decode cX3_lengthRefusal 35 = .ok (.aload_n 0, 1) := by decide +kernel
theorem dX3_lengthRefusal_36 : decode cX3_lengthRefusal 36 = .ok (.getfield 31, 3) := by decide +kernel
theorem dX3_lengthRefusal_39 : decode cX3_lengthRefusal 39 = .ok (.aload_n 0, 1) := by decide +kernel
theorem dX3_lengthRefusal_40 : decode cX3_lengthRefusal 40 = .ok (.getfield 31, 3) := by decide +kernel
theorem dX3_lengthRefusal_43 : decode cX3_lengthRefusal 43 = .ok (.getfield 77, 3) := by decide +kernel
theorem dX3_lengthRefusal_46 : decode cX3_lengthRefusal 46 = .ok (.iconst 1, 1) := by decide +kernel
theorem dX3_lengthRefusal_47 : decode cX3_lengthRefusal 47 = .ok (.isub, 1) := by decide +kernel
theorem dX3_lengthRefusal_48 : decode cX3_lengthRefusal 48 = .ok (.invokevirtual 78, 3) := by decide +kernel
theorem dX3_lengthRefusal_51 : decode cX3_lengthRefusal 51 = .ok (.iload_n 1, 1) := by decide +kernel
theorem dX3_lengthRefusal_52 : decode cX3_lengthRefusal 52 = .ok (.if_icmp .lt 7, 3) := by decide +kernel
theorem dX3_lengthRefusal_55 : decode cX3_lengthRefusal 55 = .ok (.iconst 1, 1) := by decide +kernel
theorem dX3_lengthRefusal_56 : decode cX3_lengthRefusal 56 = .ok (.goto 4, 3) := by decide +kernel
theorem dX3_lengthRefusal_59 : decode cX3_lengthRefusal 59 = .ok (.iconst 0, 1) := by decide +kernel
theorem dX3_lengthRefusal_60 : decode cX3_lengthRefusal 60 = .ok (.ireturn, 1) := by decide +kernel
theorem dX3_spanRefusal_0 : decode cX3_spanRefusal 0 = .ok (.iload_n 1, 1) := by decide +kernel
theorem dX3_spanRefusal_1 : decode cX3_spanRefusal 1 = .ok (.ifCond .lt 11, 3) := by decide +kernel
theorem dX3_spanRefusal_4 : decode cX3_spanRefusal 4 = .ok (.iload_n 2, 1) := by decide +kernel
theorem dX3_spanRefusal_5 : decode cX3_spanRefusal 5 = .ok (.aload_n 0, 1) := by decide +kernel
theorem dX3_spanRefusal_6 : decode cX3_spanRefusal 6 = .ok (.getfield 9, 3) := by decide +kernel
theorem dX3_spanRefusal_9 : decode cX3_spanRefusal 9 = .ok (.if_icmp .le 5, 3) := by decide +kernel
theorem dX3_spanRefusal_12 : decode cX3_spanRefusal 12 = .ok (.iconst 1, 1) := by decide +kernel
theorem dX3_spanRefusal_13 : decode cX3_spanRefusal 13 = .ok (.ireturn, 1) := by decide +kernel
theorem dX3_spanRefusal_14 : decode cX3_spanRefusal 14 = .ok (.iload_n 1, 1) := by decide +kernel
theorem dX3_spanRefusal_15 : decode cX3_spanRefusal 15 = .ok (.iload_n 2, 1) := by decide +kernel
theorem dX3_spanRefusal_16 : decode cX3_spanRefusal 16 = .ok (.if_icmp .lt 7, 3) := by decide +kernel
theorem dX3_spanRefusal_19 : decode cX3_spanRefusal 19 = .ok (.iconst 2, 1) := by decide +kernel
theorem dX3_spanRefusal_20 : decode cX3_spanRefusal 20 = .ok (.goto 4, 3) := by decide +kernel
theorem dX3_spanRefusal_23 : decode cX3_spanRefusal 23 = .ok (.iconst 0, 1) := by decide +kernel
theorem dX3_spanRefusal_24 : decode cX3_spanRefusal 24 = .ok (.ireturn, 1) := by decide +kernel
theorem dX3_placeRefusal_0 : decode cX3_placeRefusal 0 = .ok (.aload_n 0, 1) := by decide +kernel
theorem dX3_placeRefusal_1 : decode cX3_placeRefusal 1 = .ok (.iload_n 3, 1) := by decide +kernel
theorem dX3_placeRefusal_2 : decode cX3_placeRefusal 2 = .ok (.iload 4, 2) := by decide +kernel
theorem dX3_placeRefusal_4 : decode cX3_placeRefusal 4 = .ok (.invokevirtual 81, 3) := by decide +kernel
theorem dX3_placeRefusal_7 : decode cX3_placeRefusal 7 = .ok (.istore 5, 2) := by decide +kernel
theorem dX3_placeRefusal_9 : decode cX3_placeRefusal 9 = .ok (.iload 5, 2) := by decide +kernel
theorem dX3_placeRefusal_11 : decode cX3_placeRefusal 11 = .ok (.ifCond .ne 21, 3) := by decide +kernel
theorem dX3_placeRefusal_14 : decode cX3_placeRefusal 14 = .ok (.aload_n 0, 1) := by decide +kernel
theorem dX3_placeRefusal_15 : decode cX3_placeRefusal 15 = .ok (.iload_n 1, 1) := by decide +kernel
theorem dX3_placeRefusal_16 : decode cX3_placeRefusal 16 = .ok (.invokevirtual 70, 3) := by decide +kernel
theorem dX3_placeRefusal_19 : decode cX3_placeRefusal 19 = .ok (.iload_n 2, 1) := by decide +kernel
theorem dX3_placeRefusal_20 : decode cX3_placeRefusal 20 = .ok (.iload_n 3, 1) := by decide +kernel
theorem dX3_placeRefusal_21 : decode cX3_placeRefusal 21 = .ok (.iload 4, 2) := by decide +kernel
theorem dX3_placeRefusal_23 : decode cX3_placeRefusal 23 = .ok (.invokevirtual 84, 3) := by decide +kernel
theorem dX3_placeRefusal_26 : decode cX3_placeRefusal 26 = .ok (.ifCond .eq 6, 3) := by decide +kernel
theorem dX3_placeRefusal_29 : decode cX3_placeRefusal 29 = .ok (.iconst 3, 1) := by decide +kernel
theorem dX3_placeRefusal_30 : decode cX3_placeRefusal 30 = .ok (.istore 5, 2) := by decide +kernel
theorem dX3_placeRefusal_32 : decode cX3_placeRefusal 32 = .ok (.iload 5, 2) := by decide +kernel
theorem dX3_placeRefusal_34 : decode cX3_placeRefusal 34 = .ok (.ireturn, 1) := by decide +kernel
theorem dX3_addRefusal_0 : decode cX3_addRefusal 0 = .ok (.aload_n 0, 1) := by decide +kernel
theorem dX3_addRefusal_1 : decode cX3_addRefusal 1 = .ok (.iload_n 1, 1) := by decide +kernel
theorem dX3_addRefusal_2 : decode cX3_addRefusal 2 = .ok (.iconst (-1), 1) := by decide +kernel
theorem dX3_addRefusal_3 : decode cX3_addRefusal 3 = .ok (.iload_n 2, 1) := by decide +kernel
theorem dX3_addRefusal_4 : decode cX3_addRefusal 4 = .ok (.iload_n 3, 1) := by decide +kernel
theorem dX3_addRefusal_5 : decode cX3_addRefusal 5 = .ok (.invokevirtual 88, 3) := by decide +kernel
theorem dX3_addRefusal_8 : decode cX3_addRefusal 8 = .ok (.istore 5, 2) := by decide +kernel
theorem dX3_addRefusal_10 : decode cX3_addRefusal 10 = .ok (.iload 5, 2) := by decide +kernel
theorem dX3_addRefusal_12 : decode cX3_addRefusal 12 = .ok (.ifCond .eq 6, 3) := by decide +kernel
theorem dX3_addRefusal_15 : decode cX3_addRefusal 15 = .ok (.iload 5, 2) := by decide +kernel
theorem dX3_addRefusal_17 : decode cX3_addRefusal 17 = .ok (.ireturn, 1) := by decide +kernel
theorem dX3_addRefusal_18 : decode cX3_addRefusal 18 = .ok (.aload 4, 2) := by decide +kernel
theorem dX3_addRefusal_20 : decode cX3_addRefusal 20 = .ok (.invokevirtual 92, 3) := by decide +kernel
theorem dX3_addRefusal_23 : decode cX3_addRefusal 23 = .ok (.ifCond .ne 5, 3) := by decide +kernel
theorem dX3_addRefusal_26 : decode cX3_addRefusal 26 = .ok (.iconst 4, 1) := by decide +kernel
theorem dX3_addRefusal_27 : decode cX3_addRefusal 27 = .ok (.ireturn, 1) := by decide +kernel
theorem dX3_addRefusal_28 : decode cX3_addRefusal 28 = .ok (.aload_n 0, 1) := by decide +kernel
theorem dX3_addRefusal_29 : decode cX3_addRefusal 29 = .ok (.iload_n 1, 1) := by decide +kernel
theorem dX3_addRefusal_30 : decode cX3_addRefusal 30 = .ok (.invokevirtual 70, 3) := by decide +kernel
theorem dX3_addRefusal_33 : decode cX3_addRefusal 33 = .ok (.getfield 52, 3) := by decide +kernel
theorem dX3_addRefusal_36 : decode cX3_addRefusal 36 = .ok (.bipush 16, 2) := by decide +kernel
theorem dX3_addRefusal_38 : decode cX3_addRefusal 38 = .ok (.if_icmp .lt 8, 3) := by decide +kernel
theorem dX3_addRefusal_41 : decode cX3_addRefusal 41 = .ok (.bipush 8, 2) := by decide +kernel
theorem dX3_addRefusal_43 : decode cX3_addRefusal 43 = .ok (.goto 4, 3) := by decide +kernel
theorem dX3_addRefusal_46 : decode cX3_addRefusal 46 = .ok (.iconst 0, 1) := by decide +kernel
theorem dX3_addRefusal_47 : decode cX3_addRefusal 47 = .ok (.ireturn, 1) := by decide +kernel
theorem dX4_init_0 : decode cX4_init 0 = .ok (.aload_n 0, 1) := by decide +kernel
theorem dX4_init_1 : decode cX4_init 1 = .ok (.invokespecial 3, 3) := by decide +kernel
theorem dX4_init_4 : decode cX4_init 4 = .ok (.aload_n 0, 1) := by decide +kernel
theorem dX4_init_5 : decode cX4_init 5 = .ok (.bipush 9, 2) := by decide +kernel
theorem dX4_init_7 : decode cX4_init 7 = .ok (.anewarray 9, 3) := by decide +kernel
theorem dX4_init_10 : decode cX4_init 10 = .ok (.putfield 11, 3) := by decide +kernel
theorem dX4_init_13 : decode cX4_init 13 = .ok (.iconst 0, 1) := by decide +kernel
theorem dX4_init_14 : decode cX4_init 14 = .ok (.istore_n 1, 1) := by decide +kernel
theorem dX4_init_15 : decode cX4_init 15 = .ok (.iload_n 1, 1) := by decide +kernel
theorem dX4_init_16 : decode cX4_init 16 = .ok (.aload_n 0, 1) := by decide +kernel
theorem dX4_init_17 : decode cX4_init 17 = .ok (.getfield 11, 3) := by decide +kernel
theorem dX4_init_20 : decode cX4_init 20 = .ok (.arraylength, 1) := by decide +kernel
theorem dX4_init_21 : decode cX4_init 21 = .ok (.if_icmp .ge 22, 3) := by decide +kernel
theorem dX4_init_24 : decode cX4_init 24 = .ok (.aload_n 0, 1) := by decide +kernel
theorem dX4_init_25 : decode cX4_init 25 = .ok (.getfield 11, 3) := by decide +kernel
theorem dX4_init_28 : decode cX4_init 28 = .ok (.iload_n 1, 1) := by decide +kernel
theorem dX4_init_29 : decode cX4_init 29 = .ok (.new 9, 3) := by decide +kernel
theorem dX4_init_32 : decode cX4_init 32 = .ok (.dup, 1) := by decide +kernel
theorem dX4_init_33 : decode cX4_init 33 = .ok (.invokespecial 17, 3) := by decide +kernel
theorem dX4_init_36 : decode cX4_init 36 = .ok (.aastore, 1) := by decide +kernel
theorem dX4_init_37 : decode cX4_init 37 = .ok (.iinc 1 1, 3) := by decide +kernel
theorem dX4_init_40 : decode cX4_init 40 = .ok (.goto (-25), 3) := by decide +kernel
theorem dX4_init_43 : decode cX4_init 43 = .ok (.aload_n 0, 1) := by decide +kernel
theorem dX4_init_44 : decode cX4_init 44 = .ok (.iconst 0, 1) := by decide +kernel
theorem dX4_init_45 : decode cX4_init 45 = .ok (.putfield 18, 3) := by decide +kernel
theorem dX4_init_48 : decode cX4_init 48 = .ok (.aload_n 0, 1) := by decide +kernel
theorem dX4_init_49 : decode cX4_init 49 = .ok (.iconst 0, 1) := by decide +kernel
theorem dX4_init_50 : decode cX4_init 50 = .ok (.putfield 22, 3) := by decide +kernel
theorem dX4_init_53 : decode cX4_init 53 = .ok (.return_, 1) := by decide +kernel
theorem dX4_keep_0 : decode cX4_keep 0 = .ok (.aload_n 0, 1) := by decide +kernel
theorem dX4_keep_1 : decode cX4_keep 1 = .ok (.aload_n 1, 1) := by decide +kernel
theorem dX4_keep_2 : decode cX4_keep 2 = .ok (.invokevirtual 25, 3) := by decide +kernel
theorem dX4_keep_5 : decode cX4_keep 5 = .ok (.aload_n 0, 1) := by decide +kernel
theorem dX4_keep_6 : decode cX4_keep 6 = .ok (.invokevirtual 29, 3) := by decide +kernel
theorem dX4_keep_9 : decode cX4_keep 9 = .ok (.return_, 1) := by decide +kernel
theorem dX4_prepare_0 : decode cX4_prepare 0 = .ok (.aload_n 0, 1) := by decide +kernel
theorem dX4_prepare_1 : decode cX4_prepare 1 = .ok (.aload_n 0, 1) := by decide +kernel
theorem dX4_prepare_2 : decode cX4_prepare 2 = .ok (.getfield 22, 3) := by decide +kernel
theorem dX4_prepare_5 : decode cX4_prepare 5 = .ok (.invokevirtual 32, 3) := by decide +kernel
theorem dX4_prepare_8 : decode cX4_prepare 8 = .ok (.astore_n 2, 1) := by decide +kernel
theorem dX4_prepare_9 : decode cX4_prepare 9 = .ok (.aload_n 2, 1) := by decide +kernel
theorem dX4_prepare_10 : decode cX4_prepare 10 = .ok (.ifnull 8, 3) := by decide +kernel
theorem dX4_prepare_13 : decode cX4_prepare 13 = .ok (.aload_n 2, 1) := by decide +kernel
theorem dX4_prepare_14 : decode cX4_prepare 14 = .ok (.aload_n 1, 1) := by decide +kernel
theorem dX4_prepare_15 : decode cX4_prepare 15 = .ok (.invokevirtual 36, 3) := by decide +kernel
theorem dX4_prepare_18 : decode cX4_prepare 18 = .ok (.return_, 1) := by decide +kernel
theorem dX4_commit_0 : decode cX4_commit 0 = .ok (.aload_n 0, 1) := by decide +kernel
theorem dX4_commit_1 : decode cX4_commit 1 = .ok (.aload_n 0, 1) := by decide +kernel
theorem dX4_commit_2 : decode cX4_commit 2 = .ok (.getfield 22, 3) := by decide +kernel
theorem dX4_commit_5 : decode cX4_commit 5 = .ok (.bipush 8, 2) := by decide +kernel
theorem dX4_commit_7 : decode cX4_commit 7 = .ok (.if_icmp .ge 12, 3) := by decide +kernel
theorem dX4_commit_10 : decode cX4_commit 10 = .ok (.aload_n 0, 1) := by decide +kernel
theorem dX4_commit_11 : decode cX4_commit 11 = .ok (.getfield 22, 3) := by decide +kernel
theorem dX4_commit_14 : decode cX4_commit 14 = .ok (.iconst 1, 1) := by decide +kernel
theorem dX4_commit_15 : decode cX4_commit 15 = .ok (.iadd, 1) := by decide +kernel
theorem dX4_commit_16 : decode cX4_commit 16 = .ok (.goto 4, 3) := by decide +kernel
theorem dX4_commit_19 : decode cX4_commit 19 = .ok (.iconst 0, 1) := by decide +kernel
theorem dX4_commit_20 : decode cX4_commit 20 = .ok (.putfield 22, 3) := by decide +kernel
theorem dX4_commit_23 : decode cX4_commit 23 = .ok (.aload_n 0, 1) := by decide +kernel
theorem dX4_commit_24 : decode cX4_commit 24 = .ok (.aload_n 0, 1) := by decide +kernel
theorem dX4_commit_25 : decode cX4_commit 25 = .ok (.getfield 18, 3) := by decide +kernel
theorem dX4_commit_28 : decode cX4_commit 28 = .ok (.iconst 1, 1) := by decide +kernel
theorem dX4_commit_29 : decode cX4_commit 29 = .ok (.iadd, 1) := by decide +kernel
theorem dX4_commit_30 : decode cX4_commit 30 = .ok (.bipush 8, 2) := by decide +kernel
theorem dX4_commit_32 : decode cX4_commit 32 = .ok (.invokestatic 39, 3) := by decide +kernel
theorem dX4_commit_35 : decode cX4_commit 35 = .ok (.putfield 18, 3) := by decide +kernel
theorem dX4_commit_38 : decode cX4_commit 38 = .ok (.return_, 1) := by decide +kernel
theorem dX4_takeBackInto_0 : decode cX4_takeBackInto 0 = .ok (.aload_n 0, 1) := by decide +kernel
theorem dX4_takeBackInto_1 : decode cX4_takeBackInto 1 = .ok (.aload_n 0, 1) := by decide +kernel
theorem dX4_takeBackInto_2 : decode cX4_takeBackInto 2 = .ok (.getfield 22, 3) := by decide +kernel
theorem dX4_takeBackInto_5 : decode cX4_takeBackInto 5 = .ok (.invokevirtual 32, 3) := by decide +kernel
theorem dX4_takeBackInto_8 : decode cX4_takeBackInto 8 = .ok (.astore_n 2, 1) := by decide +kernel
theorem dX4_takeBackInto_9 : decode cX4_takeBackInto 9 = .ok (.aload_n 2, 1) := by decide +kernel
theorem dX4_takeBackInto_10 : decode cX4_takeBackInto 10 = .ok (.ifnull 8, 3) := by decide +kernel
theorem dX4_takeBackInto_13 : decode cX4_takeBackInto 13 = .ok (.aload_n 1, 1) := by decide +kernel
theorem dX4_takeBackInto_14 : decode cX4_takeBackInto 14 = .ok (.aload_n 2, 1) := by decide +kernel
theorem dX4_takeBackInto_15 : decode cX4_takeBackInto 15 = .ok (.invokevirtual 36, 3) := by decide +kernel
theorem dX4_takeBackInto_18 : decode cX4_takeBackInto 18 = .ok (.return_, 1) := by decide +kernel
theorem dX4_undoInto_0 : decode cX4_undoInto 0 = .ok (.aload_n 0, 1) := by decide +kernel
theorem dX4_undoInto_1 : decode cX4_undoInto 1 = .ok (.getfield 18, 3) := by decide +kernel
theorem dX4_undoInto_4 : decode cX4_undoInto 4 = .ok (.ifCond .gt 4, 3) := by decide +kernel
theorem dX4_undoInto_7 : decode cX4_undoInto 7 = .ok (.return_, 1) := by decide +kernel
theorem dX4_undoInto_8 : decode cX4_undoInto 8 = .ok (.aload_n 0, 1) := by decide +kernel
theorem dX4_undoInto_9 : decode cX4_undoInto 9 = .ok (.aload_n 0, 1) := by decide +kernel
theorem dX4_undoInto_10 : decode cX4_undoInto 10 = .ok (.getfield 22, 3) := by decide +kernel
theorem dX4_undoInto_13 : decode cX4_undoInto 13 = .ok (.ifCond .le 12, 3) := by decide +kernel
theorem dX4_undoInto_16 : decode cX4_undoInto 16 = .ok (.aload_n 0, 1) := by decide +kernel
theorem dX4_undoInto_17 : decode cX4_undoInto 17 = .ok (.getfield 22, 3) := by decide +kernel
theorem dX4_undoInto_20 : decode cX4_undoInto 20 = .ok (.iconst 1, 1) := by decide +kernel
theorem dX4_undoInto_21 : decode cX4_undoInto 21 = .ok (.isub, 1) := by decide +kernel
theorem dX4_undoInto_22 : decode cX4_undoInto 22 = .ok (.goto 5, 3) := by decide +kernel
theorem dX4_undoInto_25 : decode cX4_undoInto 25 = .ok (.bipush 8, 2) := by decide +kernel
theorem dX4_undoInto_27 : decode cX4_undoInto 27 = .ok (.putfield 22, 3) := by decide +kernel
theorem dX4_undoInto_30 : decode cX4_undoInto 30 = .ok (.aload_n 0, 1) := by decide +kernel
theorem dX4_undoInto_31 : decode cX4_undoInto 31 = .ok (.dup, 1) := by decide +kernel
theorem dX4_undoInto_32 : decode cX4_undoInto 32 = .ok (.getfield 18, 3) := by decide +kernel
theorem dX4_undoInto_35 : decode cX4_undoInto 35 = .ok (.iconst 1, 1) := by decide +kernel
theorem dX4_undoInto_36 : decode cX4_undoInto 36 = .ok (.isub, 1) := by decide +kernel
theorem dX4_undoInto_37 : decode cX4_undoInto 37 = .ok (.putfield 18, 3) := by decide +kernel
theorem dX4_undoInto_40 : decode cX4_undoInto 40 = .ok (.aload_n 0, 1) := by decide +kernel
theorem dX4_undoInto_41 : decode cX4_undoInto 41 = .ok (.aload_n 1, 1) := by decide +kernel
theorem dX4_undoInto_42 : decode cX4_undoInto 42 = .ok (.invokevirtual 45, 3) := by decide +kernel
theorem dX4_undoInto_45 : decode cX4_undoInto 45 = .ok (.return_, 1) := by decide +kernel
theorem dX4_forgetAll_0 : decode cX4_forgetAll 0 = .ok (.aload_n 0, 1) := by decide +kernel
theorem dX4_forgetAll_1 : decode cX4_forgetAll 1 = .ok (.iconst 0, 1) := by decide +kernel
theorem dX4_forgetAll_2 : decode cX4_forgetAll 2 = .ok (.putfield 18, 3) := by decide +kernel
theorem dX4_forgetAll_5 : decode cX4_forgetAll 5 = .ok (.return_, 1) := by decide +kernel
theorem dX4_rowAt_0 : decode cX4_rowAt 0 = .ok (.iload_n 1, 1) := by decide +kernel
theorem dX4_rowAt_1 : decode cX4_rowAt 1 = .ok (.ifCond .lt 21, 3) := by decide +kernel
theorem dX4_rowAt_4 : decode cX4_rowAt 4 = .ok (.iload_n 1, 1) := by decide +kernel
theorem dX4_rowAt_5 : decode cX4_rowAt 5 = .ok (.aload_n 0, 1) := by decide +kernel
theorem dX4_rowAt_6 : decode cX4_rowAt 6 = .ok (.getfield 11, 3) := by decide +kernel
theorem dX4_rowAt_9 : decode cX4_rowAt 9 = .ok (.arraylength, 1) := by decide +kernel
theorem dX4_rowAt_10 : decode cX4_rowAt 10 = .ok (.if_icmp .ge 12, 3) := by decide +kernel
theorem dX4_rowAt_13 : decode cX4_rowAt 13 = .ok (.aload_n 0, 1) := by decide +kernel
theorem dX4_rowAt_14 : decode cX4_rowAt 14 = .ok (.getfield 11, 3) := by decide +kernel
theorem dX4_rowAt_17 : decode cX4_rowAt 17 = .ok (.iload_n 1, 1) := by decide +kernel
theorem dX4_rowAt_18 : decode cX4_rowAt 18 = .ok (.aaload, 1) := by decide +kernel
theorem dX4_rowAt_19 : decode cX4_rowAt 19 = .ok (.goto 4, 3) := by decide +kernel
theorem dX4_rowAt_22 : decode cX4_rowAt 22 = .ok (.aconst_null, 1) := by decide +kernel
theorem dX4_rowAt_23 : decode cX4_rowAt 23 = .ok (.areturn, 1) := by decide +kernel
theorem dX5_init_0 : decode cX5_init 0 = .ok (.aload_n 0, 1) := by decide +kernel
theorem dX5_init_1 : decode cX5_init 1 = .ok (.invokespecial 3, 3) := by decide +kernel
theorem dX5_init_4 : decode cX5_init 4 = .ok (.aload_n 0, 1) := by decide +kernel
theorem dX5_init_5 : decode cX5_init 5 = .ok (.bipush 30, 2) := by decide +kernel
theorem dX5_init_7 : decode cX5_init 7 = .ok (.newarray .int, 2) := by decide +kernel
theorem dX5_init_9 : decode cX5_init 9 = .ok (.putfield 9, 3) := by decide +kernel
theorem dX5_init_12 : decode cX5_init 12 = .ok (.aload_n 0, 1) := by decide +kernel
theorem dX5_init_13 : decode cX5_init 13 = .ok (.bipush 30, 2) := by decide +kernel
theorem dX5_init_15 : decode cX5_init 15 = .ok (.newarray .int, 2) := by decide +kernel
theorem dX5_init_17 : decode cX5_init 17 = .ok (.putfield 15, 3) := by decide +kernel
theorem dX5_init_20 : decode cX5_init 20 = .ok (.aload_n 0, 1) := by decide +kernel
theorem dX5_init_21 : decode cX5_init 21 = .ok (.bipush 30, 2) := by decide +kernel
theorem dX5_init_23 : decode cX5_init 23 = .ok (.newarray .int, 2) := by decide +kernel
theorem dX5_init_25 : decode cX5_init 25 = .ok (.putfield 18, 3) := by decide +kernel
theorem dX5_init_28 : decode cX5_init 28 = .ok (.aload_n 0, 1) := by decide +kernel
theorem dX5_init_29 : decode cX5_init 29 = .ok (.bipush 30, 2) := by decide +kernel
theorem dX5_init_31 : decode cX5_init 31 = .ok (.newarray .int, 2) := by decide +kernel
theorem dX5_init_33 : decode cX5_init 33 = .ok (.putfield 21, 3) := by decide +kernel
theorem dX5_init_36 : decode cX5_init 36 = .ok (.aload_n 0, 1) := by decide +kernel
theorem dX5_init_37 : decode cX5_init 37 = .ok (.bipush 30, 2) := by decide +kernel
theorem dX5_init_39 : decode cX5_init 39 = .ok (.newarray .int, 2) := by decide +kernel
theorem dX5_init_41 : decode cX5_init 41 = .ok (.putfield 24, 3) := by decide +kernel
theorem dX5_init_44 : decode cX5_init 44 = .ok (.aload_n 0, 1) := by decide +kernel
theorem dX5_init_45 : decode cX5_init 45 = .ok (.bipush 30, 2) := by decide +kernel
theorem dX5_init_47 : decode cX5_init 47 = .ok (.newarray .int, 2) := by decide +kernel
theorem dX5_init_49 : decode cX5_init 49 = .ok (.putfield 27, 3) := by decide +kernel
theorem dX5_init_52 : decode cX5_init 52 = .ok (.aload_n 0, 1) := by decide +kernel
theorem dX5_init_53 : decode cX5_init 53 = .ok (.bipush 30, 2) := by decide +kernel
theorem dX5_init_55 : decode cX5_init 55 = .ok (.newarray .int, 2) := by decide +kernel
theorem dX5_init_57 : decode cX5_init 57 = .ok (.putfield 30, 3) := by decide +kernel
theorem dX5_init_60 : decode cX5_init 60 = .ok (.aload_n 0, 1) := by decide +kernel
theorem dX5_init_61 : decode cX5_init 61 = .ok (.iconst 0, 1) := by decide +kernel
theorem dX5_init_62 : decode cX5_init 62 = .ok (.putfield 33, 3) := by decide +kernel
theorem dX5_init_65 : decode cX5_init 65 = .ok (.aload_n 0, 1) := by decide +kernel
theorem dX5_init_66 : decode cX5_init 66 = .ok (.iconst 0, 1) := by decide +kernel
theorem dX5_init_67 : decode cX5_init 67 = .ok (.putfield 37, 3) := by decide +kernel
theorem dX5_init_70 : decode cX5_init 70 = .ok (.aload_n 0, 1) := by decide +kernel
theorem dX5_init_71 : decode cX5_init 71 = .ok (.new 40, 3) := by decide +kernel
theorem dX5_init_74 : decode cX5_init 74 = .ok (.dup, 1) := by decide +kernel
theorem dX5_init_75 : decode cX5_init 75 = .ok (.invokespecial 42, 3) := by decide +kernel
theorem dX5_init_78 : decode cX5_init 78 = .ok (.putfield 43, 3) := by decide +kernel
theorem dX5_init_81 : decode cX5_init 81 = .ok (.return_, 1) := by decide +kernel
theorem dX5_isItem_0 : decode cX5_isItem 0 = .ok (.iload_n 0, 1) := by decide +kernel
theorem dX5_isItem_1 : decode cX5_isItem 1 = .ok (.ifCond .lt 13, 3) := by decide +kernel
theorem dX5_isItem_4 : decode cX5_isItem 4 = .ok (.iload_n 0, 1) := by decide +kernel
theorem dX5_isItem_5 : decode cX5_isItem 5 = .ok (.bipush 30, 2) := by decide +kernel
theorem dX5_isItem_7 : decode cX5_isItem 7 = .ok (.if_icmp .ge 7, 3) := by decide +kernel
theorem dX5_isItem_10 : decode cX5_isItem 10 = .ok (.iconst 1, 1) := by decide +kernel
theorem dX5_isItem_11 : decode cX5_isItem 11 = .ok (.goto 4, 3) := by decide +kernel
theorem dX5_isItem_14 : decode cX5_isItem 14 = .ok (.iconst 0, 1) := by decide +kernel
theorem dX5_isItem_15 : decode cX5_isItem 15 = .ok (.ireturn, 1) := by decide +kernel
theorem dX5_what_0 : decode cX5_what 0 = .ok (.iload_n 1, 1) := by decide +kernel
theorem dX5_what_1 : decode cX5_what 1 = .ok (.invokestatic 47, 3) := by decide +kernel
theorem dX5_what_4 : decode cX5_what 4 = .ok (.ifCond .eq 12, 3) := by decide +kernel
theorem dX5_what_7 : decode cX5_what 7 = .ok (.aload_n 0, 1) := by decide +kernel
theorem dX5_what_8 : decode cX5_what 8 = .ok (.getfield 9, 3) := by decide +kernel
theorem dX5_what_11 : decode cX5_what 11 = .ok (.iload_n 1, 1) := by decide +kernel
theorem dX5_what_12 : decode cX5_what 12 = .ok (.iaload, 1) := by decide +kernel
theorem dX5_what_13 : decode cX5_what 13 = .ok (.goto 4, 3) := by decide +kernel
theorem dX5_what_16 : decode cX5_what 16 = .ok (.iconst 0, 1) := by decide +kernel
theorem dX5_what_17 : decode cX5_what 17 = .ok (.ireturn, 1) := by decide +kernel
theorem dX5_trackOfItem_0 : decode cX5_trackOfItem 0 = .ok (.iload_n 1, 1) := by decide +kernel
theorem dX5_trackOfItem_1 : decode cX5_trackOfItem 1 = .ok (.invokestatic 47, 3) := by decide +kernel
theorem dX5_trackOfItem_4 : decode cX5_trackOfItem 4 = .ok (.ifCond .eq 12, 3) := by decide +kernel
theorem dX5_trackOfItem_7 : decode cX5_trackOfItem 7 = .ok (.aload_n 0, 1) := by decide +kernel
theorem dX5_trackOfItem_8 : decode cX5_trackOfItem 8 = .ok (.getfield 15, 3) := by decide +kernel
theorem dX5_trackOfItem_11 : decode cX5_trackOfItem 11 = .ok (.iload_n 1, 1) := by decide +kernel
theorem dX5_trackOfItem_12 : decode cX5_trackOfItem 12 = .ok (.iaload, 1) := by decide +kernel
theorem dX5_trackOfItem_13 : decode cX5_trackOfItem 13 = .ok (.goto 4, 3) := by decide +kernel
theorem dX5_trackOfItem_16 : decode cX5_trackOfItem 16 = .ok (.iconst 0, 1) := by decide +kernel
theorem dX5_trackOfItem_17 : decode cX5_trackOfItem 17 = .ok (.ireturn, 1) := by decide +kernel
theorem dX5_kind_0 : decode cX5_kind 0 = .ok (.iload_n 1, 1) := by decide +kernel
theorem dX5_kind_1 : decode cX5_kind 1 = .ok (.invokestatic 47, 3) := by decide +kernel
theorem dX5_kind_4 : decode cX5_kind 4 = .ok (.ifCond .eq 12, 3) := by decide +kernel
theorem dX5_kind_7 : decode cX5_kind 7 = .ok (.aload_n 0, 1) := by decide +kernel
theorem dX5_kind_8 : decode cX5_kind 8 = .ok (.getfield 18, 3) := by decide +kernel
theorem dX5_kind_11 : decode cX5_kind 11 = .ok (.iload_n 1, 1) := by decide +kernel
theorem dX5_kind_12 : decode cX5_kind 12 = .ok (.iaload, 1) := by decide +kernel
theorem dX5_kind_13 : decode cX5_kind 13 = .ok (.goto 4, 3) := by decide +kernel
theorem dX5_kind_16 : decode cX5_kind 16 = .ok (.iconst 0, 1) := by decide +kernel
theorem dX5_kind_17 : decode cX5_kind 17 = .ok (.ireturn, 1) := by decide +kernel
theorem dX5_first_0 : decode cX5_first 0 = .ok (.iload_n 1, 1) := by decide +kernel
theorem dX5_first_1 : decode cX5_first 1 = .ok (.invokestatic 47, 3) := by decide +kernel
theorem dX5_first_4 : decode cX5_first 4 = .ok (.ifCond .eq 12, 3) := by decide +kernel
theorem dX5_first_7 : decode cX5_first 7 = .ok (.aload_n 0, 1) := by decide +kernel
theorem dX5_first_8 : decode cX5_first 8 = .ok (.getfield 21, 3) := by decide +kernel
theorem dX5_first_11 : decode cX5_first 11 = .ok (.iload_n 1, 1) := by decide +kernel
theorem dX5_first_12 : decode cX5_first 12 = .ok (.iaload, 1) := by decide +kernel
theorem dX5_first_13 : decode cX5_first 13 = .ok (.goto 4, 3) := by decide +kernel
theorem dX5_first_16 : decode cX5_first 16 = .ok (.iconst 0, 1) := by decide +kernel
theorem dX5_first_17 : decode cX5_first 17 = .ok (.ireturn, 1) := by decide +kernel
theorem dX5_end_0 : decode cX5_end 0 = .ok (.iload_n 1, 1) := by decide +kernel
theorem dX5_end_1 : decode cX5_end 1 = .ok (.invokestatic 47, 3) := by decide +kernel
theorem dX5_end_4 : decode cX5_end 4 = .ok (.ifCond .eq 12, 3) := by decide +kernel
theorem dX5_end_7 : decode cX5_end 7 = .ok (.aload_n 0, 1) := by decide +kernel
theorem dX5_end_8 : decode cX5_end 8 = .ok (.getfield 24, 3) := by decide +kernel
theorem dX5_end_11 : decode cX5_end 11 = .ok (.iload_n 1, 1) := by decide +kernel
theorem dX5_end_12 : decode cX5_end 12 = .ok (.iaload, 1) := by decide +kernel
theorem dX5_end_13 : decode cX5_end 13 = .ok (.goto 4, 3) := by decide +kernel
theorem dX5_end_16 : decode cX5_end 16 = .ok (.iconst 0, 1) := by decide +kernel
theorem dX5_end_17 : decode cX5_end 17 = .ok (.ireturn, 1) := by decide +kernel
theorem dX5_wordsFrom_0 : decode cX5_wordsFrom 0 = .ok (.iload_n 1, 1) := by decide +kernel
theorem dX5_wordsFrom_1 : decode cX5_wordsFrom 1 = .ok (.invokestatic 47, 3) := by decide +kernel
theorem dX5_wordsFrom_4 : decode cX5_wordsFrom 4 = .ok (.ifCond .eq 12, 3) := by decide +kernel
theorem dX5_wordsFrom_7 : decode cX5_wordsFrom 7 = .ok (.aload_n 0, 1) := by decide +kernel
theorem dX5_wordsFrom_8 : decode cX5_wordsFrom 8 = .ok (.getfield 27, 3) := by decide +kernel
theorem dX5_wordsFrom_11 : decode cX5_wordsFrom 11 = .ok (.iload_n 1, 1) := by decide +kernel
theorem dX5_wordsFrom_12 : decode cX5_wordsFrom 12 = .ok (.iaload, 1) := by decide +kernel
theorem dX5_wordsFrom_13 : decode cX5_wordsFrom 13 = .ok (.goto 4, 3) := by decide +kernel
theorem dX5_wordsFrom_16 : decode cX5_wordsFrom 16 = .ok (.iconst 0, 1) := by decide +kernel
theorem dX5_wordsFrom_17 : decode cX5_wordsFrom 17 = .ok (.ireturn, 1) := by decide +kernel
theorem dX5_wordsTo_0 : decode cX5_wordsTo 0 = .ok (.iload_n 1, 1) := by decide +kernel
theorem dX5_wordsTo_1 : decode cX5_wordsTo 1 = .ok (.invokestatic 47, 3) := by decide +kernel
theorem dX5_wordsTo_4 : decode cX5_wordsTo 4 = .ok (.ifCond .eq 12, 3) := by decide +kernel
theorem dX5_wordsTo_7 : decode cX5_wordsTo 7 = .ok (.aload_n 0, 1) := by decide +kernel
theorem dX5_wordsTo_8 : decode cX5_wordsTo 8 = .ok (.getfield 30, 3) := by decide +kernel
theorem dX5_wordsTo_11 : decode cX5_wordsTo 11 = .ok (.iload_n 1, 1) := by decide +kernel
theorem dX5_wordsTo_12 : decode cX5_wordsTo 12 = .ok (.iaload, 1) := by decide +kernel
theorem dX5_wordsTo_13 : decode cX5_wordsTo 13 = .ok (.goto 4, 3) := by decide +kernel
theorem dX5_wordsTo_16 : decode cX5_wordsTo 16 = .ok (.iconst 0, 1) := by decide +kernel
theorem dX5_wordsTo_17 : decode cX5_wordsTo 17 = .ok (.ireturn, 1) := by decide +kernel
theorem dX5_readText_0 : decode cX5_readText 0 = .ok (.aload_n 0, 1) := by decide +kernel
theorem dX5_readText_1 : decode cX5_readText 1 = .ok (.aload_n 1, 1) := by decide +kernel
theorem dX5_readText_2 : decode cX5_readText 2 = .ok (.putfield 43, 3) := by decide +kernel
theorem dX5_readText_5 : decode cX5_readText 5 = .ok (.aload_n 0, 1) := by decide +kernel
theorem dX5_readText_6 : decode cX5_readText 6 = .ok (.iconst 0, 1) := by decide +kernel
theorem dX5_readText_7 : decode cX5_readText 7 = .ok (.putfield 37, 3) := by decide +kernel
theorem dX5_readText_10 : decode cX5_readText 10 = .ok (.aload_n 0, 1) := by decide +kernel
theorem dX5_readText_11 : decode cX5_readText 11 = .ok (.iconst 0, 1) := by decide +kernel
theorem dX5_readText_12 : decode cX5_readText 12 = .ok (.putfield 33, 3) := by decide +kernel
theorem dX5_readText_15 : decode cX5_readText 15 = .ok (.iconst 0, 1) := by decide +kernel
theorem dX5_readText_16 : decode cX5_readText 16 = .ok (.istore_n 2, 1) := by decide +kernel
theorem dX5_readText_17 : decode cX5_readText 17 = .ok (.iload_n 2, 1) := by decide +kernel
theorem dX5_readText_18 : decode cX5_readText 18 = .ok (.bipush 30, 2) := by decide +kernel
theorem dX5_readText_20 : decode cX5_readText 20 = .ok (.if_icmp .ge 56, 3) := by decide +kernel
theorem dX5_readText_23 : decode cX5_readText 23 = .ok (.aload_n 0, 1) := by decide +kernel
theorem dX5_readText_24 : decode cX5_readText 24 = .ok (.iload_n 2, 1) := by decide +kernel
theorem dX5_readText_25 : decode cX5_readText 25 = .ok (.invokevirtual 51, 3) := by decide +kernel
theorem dX5_readText_28 : decode cX5_readText 28 = .ok (.ifCond .ne 5, 3) := by decide +kernel
theorem dX5_readText_31 : decode cX5_readText 31 = .ok (.iconst 0, 1) := by decide +kernel
theorem dX5_readText_32 : decode cX5_readText 32 = .ok (.ireturn, 1) := by decide +kernel
theorem dX5_readText_33 : decode cX5_readText 33 = .ok (.aload_n 0, 1) := by decide +kernel
theorem dX5_readText_34 : decode cX5_readText 34 = .ok (.dup, 1) := by decide +kernel
theorem dX5_readText_35 : decode cX5_readText 35 = .ok (.getfield 33, 3) := by decide +kernel
theorem dX5_readText_38 : decode cX5_readText 38 = .ok (.iconst 1, 1) := by decide +kernel
theorem dX5_readText_39 : decode cX5_readText 39 = .ok (.iadd, 1) := by decide +kernel
theorem dX5_readText_40 : decode cX5_readText 40 = .ok (.putfield 33, 3) := by decide +kernel
theorem dX5_readText_43 : decode cX5_readText 43 = .ok (.aload_n 0, 1) := by decide +kernel
theorem dX5_readText_44 : decode cX5_readText 44 = .ok (.getfield 37, 3) := by decide +kernel
theorem dX5_readText_47 : decode cX5_readText 47 = .ok (.aload_n 0, 1) := by decide +kernel
theorem dX5_readText_48 : decode cX5_readText 48 = .ok (.getfield 43, 3) := by decide +kernel
theorem dX5_readText_51 : decode cX5_readText 51 = .ok (.getfield 54, 3) := by decide +kernel
theorem dX5_readText_54 : decode cX5_readText 54 = .ok (.if_icmp .lt 5, 3) := by decide +kernel
theorem dX5_readText_57 : decode cX5_readText 57 = .ok (.iconst 1, 1) := by decide +kernel
theorem dX5_readText_58 : decode cX5_readText 58 = .ok (.ireturn, 1) := by decide +kernel
theorem dX5_readText_59 : decode cX5_readText 59 = .ok (.aload_n 0, 1) := by decide +kernel
theorem dX5_readText_60 : decode cX5_readText 60 = .ok (.bipush 59, 2) := by decide +kernel
theorem dX5_readText_62 : decode cX5_readText 62 = .ok (.invokevirtual 57, 3) := by decide +kernel
theorem dX5_readText_65 : decode cX5_readText 65 = .ok (.ifCond .ne 5, 3) := by decide +kernel
theorem dX5_readText_68 : decode cX5_readText 68 = .ok (.iconst 0, 1) := by decide +kernel
theorem dX5_readText_69 : decode cX5_readText 69 = .ok (.ireturn, 1) := by decide +kernel
theorem dX5_readText_70 : decode cX5_readText 70 = .ok (.iinc 2 1, 3) := by decide +kernel
theorem dX5_readText_73 : decode cX5_readText 73 = .ok (.goto (-56), 3) := by decide +kernel
theorem dX5_readText_76 : decode cX5_readText 76 = .ok (.iconst 0, 1) := by decide +kernel
theorem dX5_readText_77 : decode cX5_readText 77 = .ok (.ireturn, 1) := by decide +kernel
theorem dX5_readItem_0 : decode cX5_readItem 0 = .ok (.aload_n 0, 1) := by decide +kernel
theorem dX5_readItem_1 : decode cX5_readItem 1 = .ok (.bipush 99, 2) := by decide +kernel
theorem dX5_readItem_3 : decode cX5_readItem 3 = .ok (.invokevirtual 57, 3) := by decide +kernel
theorem dX5_readItem_6 : decode cX5_readItem 6 = .ok (.ifCond .eq 10, 3) := by decide +kernel
theorem dX5_readItem_9 : decode cX5_readItem 9 = .ok (.aload_n 0, 1) := by decide +kernel
theorem dX5_readItem_10 : decode cX5_readItem 10 = .ok (.iload_n 1, 1) := by decide +kernel
theorem dX5_readItem_11 : decode cX5_readItem 11 = .ok (.iconst 1, 1) := by decide +kernel
theorem dX5_readItem_12 : decode cX5_readItem 12 = .ok (.invokevirtual 60, 3) := by decide +kernel
theorem dX5_readItem_15 : decode cX5_readItem 15 = .ok (.ireturn, 1) := by decide +kernel
theorem dX5_readItem_16 : decode cX5_readItem 16 = .ok (.aload_n 0, 1) := by decide +kernel
theorem dX5_readItem_17 : decode cX5_readItem 17 = .ok (.bipush 117, 2) := by decide +kernel
theorem dX5_readItem_19 : decode cX5_readItem 19 = .ok (.invokevirtual 57, 3) := by decide +kernel
theorem dX5_readItem_22 : decode cX5_readItem 22 = .ok (.ifCond .eq 10, 3) := by decide +kernel
theorem dX5_readItem_25 : decode cX5_readItem 25 = .ok (.aload_n 0, 1) := by decide +kernel
theorem dX5_readItem_26 : decode cX5_readItem 26 = .ok (.iload_n 1, 1) := by decide +kernel
theorem dX5_readItem_27 : decode cX5_readItem 27 = .ok (.iconst 2, 1) := by decide +kernel
theorem dX5_readItem_28 : decode cX5_readItem 28 = .ok (.invokevirtual 60, 3) := by decide +kernel
theorem dX5_readItem_31 : decode cX5_readItem 31 = .ok (.ireturn, 1) := by decide +kernel
theorem dX5_readItem_32 : decode cX5_readItem 32 = .ok (.aload_n 0, 1) := by decide +kernel
theorem dX5_readItem_33 : decode cX5_readItem 33 = .ok (.iload_n 1, 1) := by decide +kernel
theorem dX5_readItem_34 : decode cX5_readItem 34 = .ok (.invokevirtual 64, 3) := by decide +kernel
theorem dX5_readItem_37 : decode cX5_readItem 37 = .ok (.ireturn, 1) := by decide +kernel
theorem dX5_readCut_0 : decode cX5_readCut 0 = .ok (.aload_n 0, 1) := by decide +kernel
theorem dX5_readCut_1 : decode cX5_readCut 1 = .ok (.invokevirtual 67, 3) := by decide +kernel
theorem dX5_readCut_4 : decode cX5_readCut 4 = .ok (.istore_n 3, 1) := by decide +kernel
theorem dX5_readCut_5 : decode cX5_readCut 5 = .ok (.iload_n 3, 1) := by decide +kernel
theorem dX5_readCut_6 : decode cX5_readCut 6 = .ok (.iconst (-1), 1) := by decide +kernel
theorem dX5_readCut_7 : decode cX5_readCut 7 = .ok (.if_icmp .eq 10, 3) := by decide +kernel
theorem dX5_readCut_10 : decode cX5_readCut 10 = .ok (.iload_n 1, 1) := by decide +kernel
theorem dX5_readCut_11 : decode cX5_readCut 11 = .ok (.invokestatic 47, 3) := by decide +kernel
theorem dX5_readCut_14 : decode cX5_readCut 14 = .ok (.ifCond .ne 5, 3) := by decide +kernel
theorem dX5_readCut_17 : decode cX5_readCut 17 = .ok (.iconst 0, 1) := by decide +kernel
theorem dX5_readCut_18 : decode cX5_readCut 18 = .ok (.ireturn, 1) := by decide +kernel
theorem dX5_readCut_19 : decode cX5_readCut 19 = .ok (.aload_n 0, 1) := by decide +kernel
theorem dX5_readCut_20 : decode cX5_readCut 20 = .ok (.getfield 9, 3) := by decide +kernel
theorem dX5_readCut_23 : decode cX5_readCut 23 = .ok (.iload_n 1, 1) := by decide +kernel
theorem dX5_readCut_24 : decode cX5_readCut 24 = .ok (.iload_n 2, 1) := by decide +kernel
theorem dX5_readCut_25 : decode cX5_readCut 25 = .ok (.iastore, 1) := by decide +kernel
theorem dX5_readCut_26 : decode cX5_readCut 26 = .ok (.aload_n 0, 1) := by decide +kernel
theorem dX5_readCut_27 : decode cX5_readCut 27 = .ok (.getfield 21, 3) := by decide +kernel
theorem dX5_readCut_30 : decode cX5_readCut 30 = .ok (.iload_n 1, 1) := by decide +kernel
theorem dX5_readCut_31 : decode cX5_readCut 31 = .ok (.iload_n 3, 1) := by decide +kernel
theorem dX5_readCut_32 : decode cX5_readCut 32 = .ok (.iastore, 1) := by decide +kernel
theorem dX5_readCut_33 : decode cX5_readCut 33 = .ok (.iconst 1, 1) := by decide +kernel
theorem dX5_readCut_34 : decode cX5_readCut 34 = .ok (.ireturn, 1) := by decide +kernel
theorem dX5_readCaption_0 : decode cX5_readCaption 0 = .ok (.aload_n 0, 1) := by decide +kernel
theorem dX5_readCaption_1 : decode cX5_readCaption 1 = .ok (.bipush 97, 2) := by decide +kernel
theorem dX5_readCaption_3 : decode cX5_readCaption 3 = .ok (.bipush 98, 2) := by decide +kernel
theorem dX5_readCaption_5 : decode cX5_readCaption 5 = .ok (.iconst (-1), 1) := by decide +kernel
theorem dX5_readCaption_6 : decode cX5_readCaption 6 = .ok (.invokevirtual 71, 3) := by decide +kernel
theorem dX5_readCaption_9 : decode cX5_readCaption 9 = .ok (.istore_n 2, 1) := by decide +kernel
theorem dX5_readCaption_10 : decode cX5_readCaption 10 = .ok (.iload_n 2, 1) := by decide +kernel
theorem dX5_readCaption_11 : decode cX5_readCaption 11 = .ok (.iconst (-1), 1) := by decide +kernel
theorem dX5_readCaption_12 : decode cX5_readCaption 12 = .ok (.if_icmp .ne 7, 3) := by decide +kernel
theorem dX5_readCaption_15 : decode cX5_readCaption 15 = .ok (.iconst (-1), 1) := by decide +kernel
theorem dX5_readCaption_16 : decode cX5_readCaption 16 = .ok (.goto 13, 3) := by decide +kernel
theorem dX5_readCaption_19 : decode cX5_readCaption 19 = .ok (.aload_n 0, 1) := by decide +kernel
theorem dX5_readCaption_20 : decode cX5_readCaption 20 = .ok (.bipush 46, 2) := by decide +kernel
theorem dX5_readCaption_22 : decode cX5_readCaption 22 = .ok (.bipush 33, 2) := by decide +kernel
theorem dX5_readCaption_24 : decode cX5_readCaption 24 = .ok (.bipush 42, 2) := by decide +kernel
theorem dX5_readCaption_26 : decode cX5_readCaption 26 = .ok (.invokevirtual 71, 3) := by decide +kernel
theorem dX5_readCaption_29 : decode cX5_readCaption 29 = .ok (.istore_n 3, 1) := by decide +kernel
theorem dX5_readCaption_30 : decode cX5_readCaption 30 = .ok (.iload_n 3, 1) := by decide +kernel
theorem dX5_readCaption_31 : decode cX5_readCaption 31 = .ok (.iconst (-1), 1) := by decide +kernel
theorem dX5_readCaption_32 : decode cX5_readCaption 32 = .ok (.if_icmp .ne 7, 3) := by decide +kernel
theorem dX5_readCaption_35 : decode cX5_readCaption 35 = .ok (.iconst (-1), 1) := by decide +kernel
theorem dX5_readCaption_36 : decode cX5_readCaption 36 = .ok (.goto 7, 3) := by decide +kernel
theorem dX5_readCaption_39 : decode cX5_readCaption 39 = .ok (.aload_n 0, 1) := by decide +kernel
theorem dX5_readCaption_40 : decode cX5_readCaption 40 = .ok (.invokevirtual 67, 3) := by decide +kernel
theorem dX5_readCaption_43 : decode cX5_readCaption 43 = .ok (.istore 4, 2) := by decide +kernel
theorem dX5_readCaption_45 : decode cX5_readCaption 45 = .ok (.iload 4, 2) := by decide +kernel
theorem dX5_readCaption_47 : decode cX5_readCaption 47 = .ok (.iconst (-1), 1) := by decide +kernel
theorem dX5_readCaption_48 : decode cX5_readCaption 48 = .ok (.if_icmp .eq 12, 3) := by decide +kernel
theorem dX5_readCaption_51 : decode cX5_readCaption 51 = .ok (.aload_n 0, 1) := by decide +kernel
theorem dX5_readCaption_52 : decode cX5_readCaption 52 = .ok (.bipush 45, 2) := by decide +kernel
theorem dX5_readCaption_54 : decode cX5_readCaption 54 = .ok (.invokevirtual 57, 3) := by decide +kernel
theorem dX5_readCaption_57 : decode cX5_readCaption 57 = .ok (.ifCond .ne 7, 3) := by decide +kernel
theorem dX5_readCaption_60 : decode cX5_readCaption 60 = .ok (.iconst (-1), 1) := by decide +kernel
theorem dX5_readCaption_61 : decode cX5_readCaption 61 = .ok (.goto 7, 3) := by decide +kernel
theorem dX5_readCaption_64 : decode cX5_readCaption 64 = .ok (.aload_n 0, 1) := by decide +kernel
theorem dX5_readCaption_65 : decode cX5_readCaption 65 = .ok (.invokevirtual 67, 3) := by decide +kernel
theorem dX5_readCaption_68 : decode cX5_readCaption 68 = .ok (.istore 5, 2) := by decide +kernel
theorem dX5_readCaption_70 : decode cX5_readCaption 70 = .ok (.iload 5, 2) := by decide +kernel
theorem dX5_readCaption_72 : decode cX5_readCaption 72 = .ok (.iconst (-1), 1) := by decide +kernel
theorem dX5_readCaption_73 : decode cX5_readCaption 73 = .ok (.if_icmp .eq 19, 3) := by decide +kernel
theorem dX5_readCaption_76 : decode cX5_readCaption 76 = .ok (.aload_n 0, 1) := by decide +kernel
theorem dX5_readCaption_77 : decode cX5_readCaption 77 = .ok (.bipush 58, 2) := by decide +kernel
theorem dX5_readCaption_79 : decode cX5_readCaption 79 = .ok (.invokevirtual 57, 3) := by decide +kernel
theorem dX5_readCaption_82 : decode cX5_readCaption 82 = .ok (.ifCond .eq 10, 3) := by decide +kernel
theorem dX5_readCaption_85 : decode cX5_readCaption 85 = .ok (.iload_n 1, 1) := by decide +kernel
theorem dX5_readCaption_86 : decode cX5_readCaption 86 = .ok (.invokestatic 47, 3) := by decide +kernel
theorem dX5_readCaption_89 : decode cX5_readCaption 89 = .ok (.ifCond .ne 5, 3) := by decide +kernel
theorem dX5_readCaption_92 : decode cX5_readCaption 92 = .ok (.iconst 0, 1) := by decide +kernel
theorem dX5_readCaption_93 : decode cX5_readCaption 93 = .ok (.ireturn, 1) := by decide +kernel
theorem dX5_readCaption_94 : decode cX5_readCaption 94 = .ok (.aload_n 0, 1) := by decide +kernel
theorem dX5_readCaption_95 : decode cX5_readCaption 95 = .ok (.getfield 9, 3) := by decide +kernel
theorem dX5_readCaption_98 : decode cX5_readCaption 98 = .ok (.iload_n 1, 1) := by decide +kernel
theorem dX5_readCaption_99 : decode cX5_readCaption 99 = .ok (.iconst 0, 1) := by decide +kernel
theorem dX5_readCaption_100 : decode cX5_readCaption 100 = .ok (.iastore, 1) := by decide +kernel
theorem dX5_readCaption_101 : decode cX5_readCaption 101 = .ok (.aload_n 0, 1) := by decide +kernel
theorem dX5_readCaption_102 : decode cX5_readCaption 102 = .ok (.getfield 15, 3) := by decide +kernel
theorem dX5_readCaption_105 : decode cX5_readCaption 105 = .ok (.iload_n 1, 1) := by decide +kernel
theorem dX5_readCaption_106 : decode cX5_readCaption 106 = .ok (.iload_n 2, 1) := by decide +kernel
theorem dX5_readCaption_107 : decode cX5_readCaption 107 = .ok (.iastore, 1) := by decide +kernel
theorem dX5_readCaption_108 : decode cX5_readCaption 108 = .ok (.aload_n 0, 1) := by decide +kernel
theorem dX5_readCaption_109 : decode cX5_readCaption 109 = .ok (.getfield 18, 3) := by decide +kernel
theorem dX5_readCaption_112 : decode cX5_readCaption 112 = .ok (.iload_n 1, 1) := by decide +kernel
theorem dX5_readCaption_113 : decode cX5_readCaption 113 = .ok (.iload_n 3, 1) := by decide +kernel
theorem dX5_readCaption_114 : decode cX5_readCaption 114 = .ok (.iastore, 1) := by decide +kernel
theorem dX5_readCaption_115 : decode cX5_readCaption 115 = .ok (.aload_n 0, 1) := by decide +kernel
theorem dX5_readCaption_116 : decode cX5_readCaption 116 = .ok (.getfield 21, 3) := by decide +kernel
theorem dX5_readCaption_119 : decode cX5_readCaption 119 = .ok (.iload_n 1, 1) := by decide +kernel
theorem dX5_readCaption_120 : decode cX5_readCaption 120 = .ok (.iload 4, 2) := by decide +kernel
theorem dX5_readCaption_122 : decode cX5_readCaption 122 = .ok (.iastore, 1) := by decide +kernel
theorem dX5_readCaption_123 : decode cX5_readCaption 123 = .ok (.aload_n 0, 1) := by decide +kernel
theorem dX5_readCaption_124 : decode cX5_readCaption 124 = .ok (.getfield 24, 3) := by decide +kernel
theorem dX5_readCaption_127 : decode cX5_readCaption 127 = .ok (.iload_n 1, 1) := by decide +kernel
theorem dX5_readCaption_128 : decode cX5_readCaption 128 = .ok (.iload 5, 2) := by decide +kernel
theorem dX5_readCaption_130 : decode cX5_readCaption 130 = .ok (.iastore, 1) := by decide +kernel
theorem dX5_readCaption_131 : decode cX5_readCaption 131 = .ok (.aload_n 0, 1) := by decide +kernel
theorem dX5_readCaption_132 : decode cX5_readCaption 132 = .ok (.getfield 27, 3) := by decide +kernel
theorem dX5_readCaption_135 : decode cX5_readCaption 135 = .ok (.iload_n 1, 1) := by decide +kernel
theorem dX5_readCaption_136 : decode cX5_readCaption 136 = .ok (.aload_n 0, 1) := by decide +kernel
theorem dX5_readCaption_137 : decode cX5_readCaption 137 = .ok (.getfield 37, 3) := by decide +kernel
theorem dX5_readCaption_140 : decode cX5_readCaption 140 = .ok (.iastore, 1) := by decide +kernel
theorem dX5_readCaption_141 : decode cX5_readCaption 141 = .ok (.aload_n 0, 1) := by decide +kernel
theorem dX5_readCaption_142 : decode cX5_readCaption 142 = .ok (.invokevirtual 75, 3) := by decide +kernel
theorem dX5_readCaption_145 : decode cX5_readCaption 145 = .ok (.aload_n 0, 1) := by decide +kernel
theorem dX5_readCaption_146 : decode cX5_readCaption 146 = .ok (.getfield 30, 3) := by decide +kernel
theorem dX5_readCaption_149 : decode cX5_readCaption 149 = .ok (.iload_n 1, 1) := by decide +kernel
theorem dX5_readCaption_150 : decode cX5_readCaption 150 = .ok (.aload_n 0, 1) := by decide +kernel
theorem dX5_readCaption_151 : decode cX5_readCaption 151 = .ok (.getfield 37, 3) := by decide +kernel
theorem dX5_readCaption_154 : decode cX5_readCaption 154 = .ok (.iastore, 1) := by decide +kernel
theorem dX5_readCaption_155 : decode cX5_readCaption 155 = .ok (.aload_n 0, 1) := by decide +kernel
theorem dX5_readCaption_156 : decode cX5_readCaption 156 = .ok (.getfield 30, 3) := by decide +kernel
theorem dX5_readCaption_159 : decode cX5_readCaption 159 = .ok (.iload_n 1, 1) := by decide +kernel
theorem dX5_readCaption_160 : decode cX5_readCaption 160 = .ok (.iaload, 1) := by decide +kernel
theorem dX5_readCaption_161 : decode cX5_readCaption 161 = .ok (.aload_n 0, 1) := by decide +kernel
theorem dX5_readCaption_162 : decode cX5_readCaption 162 = .ok (.getfield 27, 3) := by decide +kernel
theorem dX5_readCaption_165 : decode cX5_readCaption 165 = .ok (.iload_n 1, 1) := by decide +kernel
theorem dX5_readCaption_166 : decode cX5_readCaption 166 = .ok (.iaload, 1) := by decide +kernel
theorem dX5_readCaption_167 : decode cX5_readCaption 167 = .ok (.if_icmp .le 7, 3) := by decide +kernel
theorem dX5_readCaption_170 : decode cX5_readCaption 170 = .ok (.iconst 1, 1) := by decide +kernel
theorem dX5_readCaption_171 : decode cX5_readCaption 171 = .ok (.goto 4, 3) := by decide +kernel
theorem dX5_readCaption_174 : decode cX5_readCaption 174 = .ok (.iconst 0, 1) := by decide +kernel
theorem dX5_readCaption_175 : decode cX5_readCaption 175 = .ok (.ireturn, 1) := by decide +kernel
theorem dX5_takeSign_0 : decode cX5_takeSign 0 = .ok (.aload_n 0, 1) := by decide +kernel
theorem dX5_takeSign_1 : decode cX5_takeSign 1 = .ok (.getfield 43, 3) := by decide +kernel
theorem dX5_takeSign_4 : decode cX5_takeSign 4 = .ok (.aload_n 0, 1) := by decide +kernel
theorem dX5_takeSign_5 : decode cX5_takeSign 5 = .ok (.getfield 37, 3) := by decide +kernel
theorem dX5_takeSign_8 : decode cX5_takeSign 8 = .ok (.invokevirtual 78, 3) := by decide +kernel
theorem dX5_takeSign_11 : decode cX5_takeSign 11 = .ok (.iload_n 1, 1) := by decide +kernel
theorem dX5_takeSign_12 : decode cX5_takeSign 12 = .ok (.if_icmp .eq 5, 3) := by decide +kernel
theorem dX5_takeSign_15 : decode cX5_takeSign 15 = .ok (.iconst 0, 1) := by decide +kernel
theorem dX5_takeSign_16 : decode cX5_takeSign 16 = .ok (.ireturn, 1) := by decide +kernel
theorem dX5_takeSign_17 : decode cX5_takeSign 17 = .ok (.aload_n 0, 1) := by decide +kernel
theorem dX5_takeSign_18 : decode cX5_takeSign 18 = .ok (.dup, 1) := by decide +kernel
theorem dX5_takeSign_19 : decode cX5_takeSign 19 = .ok (.getfield 37, 3) := by decide +kernel
theorem dX5_takeSign_22 : decode cX5_takeSign 22 = .ok (.iconst 1, 1) := by decide +kernel
theorem dX5_takeSign_23 : decode cX5_takeSign 23 = .ok (.iadd, 1) := by decide +kernel
theorem dX5_takeSign_24 : decode cX5_takeSign 24 = .ok (.putfield 37, 3) := by decide +kernel
theorem dX5_takeSign_27 : decode cX5_takeSign 27 = .ok (.iconst 1, 1) := by decide +kernel
theorem dX5_takeSign_28 : decode cX5_takeSign 28 = .ok (.ireturn, 1) := by decide +kernel
theorem dX5_takeOneOf_0 : decode cX5_takeOneOf 0 = .ok (.aload_n 0, 1) := by decide +kernel
theorem dX5_takeOneOf_1 : decode cX5_takeOneOf 1 = .ok (.getfield 43, 3) := by decide +kernel
theorem dX5_takeOneOf_4 : decode cX5_takeOneOf 4 = .ok (.aload_n 0, 1) := by decide +kernel
theorem dX5_takeOneOf_5 : decode cX5_takeOneOf 5 = .ok (.getfield 37, 3) := by decide +kernel
theorem dX5_takeOneOf_8 : decode cX5_takeOneOf 8 = .ok (.invokevirtual 78, 3) := by decide +kernel
theorem dX5_takeOneOf_11 : decode cX5_takeOneOf 11 = .ok (.istore 4, 2) := by decide +kernel
theorem dX5_takeOneOf_13 : decode cX5_takeOneOf 13 = .ok (.iload 4, 2) := by decide +kernel
theorem dX5_takeOneOf_15 : decode cX5_takeOneOf 15 = .ok (.iconst (-1), 1) := by decide +kernel
theorem dX5_takeOneOf_16 : decode cX5_takeOneOf 16 = .ok (.if_icmp .ne 5, 3) := by decide +kernel
theorem dX5_takeOneOf_19 : decode cX5_takeOneOf 19 = .ok (.iconst (-1), 1) := by decide +kernel
theorem dX5_takeOneOf_20 : decode cX5_takeOneOf 20 = .ok (.ireturn, 1) := by decide +kernel
theorem dX5_takeOneOf_21 : decode cX5_takeOneOf 21 = .ok (.iload 4, 2) := by decide +kernel
theorem dX5_takeOneOf_23 : decode cX5_takeOneOf 23 = .ok (.iload_n 1, 1) := by decide +kernel
theorem dX5_takeOneOf_24 : decode cX5_takeOneOf 24 = .ok (.if_icmp .ne 7, 3) := by decide +kernel
theorem dX5_takeOneOf_27 : decode cX5_takeOneOf 27 = .ok (.iconst 0, 1) := by decide +kernel
theorem dX5_takeOneOf_28 : decode cX5_takeOneOf 28 = .ok (.goto 24, 3) := by decide +kernel
theorem dX5_takeOneOf_31 : decode cX5_takeOneOf 31 = .ok (.iload 4, 2) := by decide +kernel
theorem dX5_takeOneOf_33 : decode cX5_takeOneOf 33 = .ok (.iload_n 2, 1) := by decide +kernel
theorem dX5_takeOneOf_34 : decode cX5_takeOneOf 34 = .ok (.if_icmp .ne 7, 3) := by decide +kernel
theorem dX5_takeOneOf_37 : decode cX5_takeOneOf 37 = .ok (.iconst 1, 1) := by decide +kernel
theorem dX5_takeOneOf_38 : decode cX5_takeOneOf 38 = .ok (.goto 14, 3) := by decide +kernel
theorem dX5_takeOneOf_41 : decode cX5_takeOneOf 41 = .ok (.iload 4, 2) := by decide +kernel
theorem dX5_takeOneOf_43 : decode cX5_takeOneOf 43 = .ok (.iload_n 3, 1) := by decide +kernel
theorem dX5_takeOneOf_44 : decode cX5_takeOneOf 44 = .ok (.if_icmp .ne 7, 3) := by decide +kernel
theorem dX5_takeOneOf_47 : decode cX5_takeOneOf 47 = .ok (.iconst 2, 1) := by decide +kernel
theorem dX5_takeOneOf_48 : decode cX5_takeOneOf 48 = .ok (.goto 4, 3) := by decide +kernel
theorem dX5_takeOneOf_51 : decode cX5_takeOneOf 51 = .ok (.iconst (-1), 1) := by decide +kernel
theorem dX5_takeOneOf_52 : decode cX5_takeOneOf 52 = .ok (.istore 5, 2) := by decide +kernel
theorem dX5_takeOneOf_54 : decode cX5_takeOneOf 54 = .ok (.iload 5, 2) := by decide +kernel
theorem dX5_takeOneOf_56 : decode cX5_takeOneOf 56 = .ok (.iconst (-1), 1) := by decide +kernel
theorem dX5_takeOneOf_57 : decode cX5_takeOneOf 57 = .ok (.if_icmp .eq 13, 3) := by decide +kernel
theorem dX5_takeOneOf_60 : decode cX5_takeOneOf 60 = .ok (.aload_n 0, 1) := by decide +kernel
theorem dX5_takeOneOf_61 : decode cX5_takeOneOf 61 = .ok (.dup, 1) := by decide +kernel
theorem dX5_takeOneOf_62 : decode cX5_takeOneOf 62 = .ok (.getfield 37, 3) := by decide +kernel
theorem dX5_takeOneOf_65 : decode cX5_takeOneOf 65 = .ok (.iconst 1, 1) := by decide +kernel
theorem dX5_takeOneOf_66 : decode cX5_takeOneOf 66 = .ok (.iadd, 1) := by decide +kernel
theorem dX5_takeOneOf_67 : decode cX5_takeOneOf 67 = .ok (.putfield 37, 3) := by decide +kernel
theorem dX5_takeOneOf_70 : decode cX5_takeOneOf 70 = .ok (.iload 5, 2) := by decide +kernel
theorem dX5_takeOneOf_72 : decode cX5_takeOneOf 72 = .ok (.ireturn, 1) := by decide +kernel
theorem dX5_readNumber_0 : decode cX5_readNumber 0 = .ok (.iconst 0, 1) := by decide +kernel
theorem dX5_readNumber_1 : decode cX5_readNumber 1 = .ok (.istore_n 1, 1) := by decide +kernel
theorem dX5_readNumber_2 : decode cX5_readNumber 2 = .ok (.iconst 0, 1) := by decide +kernel
theorem dX5_readNumber_3 : decode cX5_readNumber 3 = .ok (.istore_n 2, 1) := by decide +kernel
theorem dX5_readNumber_4 : decode cX5_readNumber 4 = .ok (.iload_n 2, 1) := by decide +kernel
theorem dX5_readNumber_5 : decode cX5_readNumber 5 = .ok (.iconst 4, 1) := by decide +kernel
theorem dX5_readNumber_6 : decode cX5_readNumber 6 = .ok (.if_icmp .ge 56, 3) := by decide +kernel
theorem dX5_readNumber_9 : decode cX5_readNumber 9 = .ok (.aload_n 0, 1) := by decide +kernel
theorem dX5_readNumber_10 : decode cX5_readNumber 10 = .ok (.getfield 43, 3) := by decide +kernel
theorem dX5_readNumber_13 : decode cX5_readNumber 13 = .ok (.aload_n 0, 1) := by decide +kernel
theorem dX5_readNumber_14 : decode cX5_readNumber 14 = .ok (.getfield 37, 3) := by decide +kernel
theorem dX5_readNumber_17 : decode cX5_readNumber 17 = .ok (.invokevirtual 78, 3) := by decide +kernel
theorem dX5_readNumber_20 : decode cX5_readNumber 20 = .ok (.invokestatic 82, 3) := by decide +kernel
theorem dX5_readNumber_23 : decode cX5_readNumber 23 = .ok (.ifCond .eq 39, 3) := by decide +kernel
theorem dX5_readNumber_26 : decode cX5_readNumber 26 = .ok (.iload_n 1, 1) := by decide +kernel
theorem dX5_readNumber_27 : decode cX5_readNumber 27 = .ok (.bipush 10, 2) := by decide +kernel
theorem dX5_readNumber_29 : decode cX5_readNumber 29 = .ok (.imul, 1) := by decide +kernel
theorem dX5_readNumber_30 : decode cX5_readNumber 30 = .ok (.aload_n 0, 1) := by decide +kernel
theorem dX5_readNumber_31 : decode cX5_readNumber 31 = .ok (.getfield 43, 3) := by decide +kernel
theorem dX5_readNumber_34 : decode cX5_readNumber 34 = .ok (.aload_n 0, 1) := by decide +kernel
theorem dX5_readNumber_35 : decode cX5_readNumber 35 = .ok (.getfield 37, 3) := by decide +kernel
theorem dX5_readNumber_38 : decode cX5_readNumber 38 = .ok (.invokevirtual 78, 3) := by decide +kernel
theorem dX5_readNumber_41 : decode cX5_readNumber 41 = .ok (.iadd, 1) := by decide +kernel
theorem dX5_readNumber_42 : decode cX5_readNumber 42 = .ok (.bipush 48, 2) := by decide +kernel
theorem dX5_readNumber_44 : decode cX5_readNumber 44 = .ok (.isub, 1) := by decide +kernel
theorem dX5_readNumber_45 : decode cX5_readNumber 45 = .ok (.istore_n 1, 1) := by decide +kernel
theorem dX5_readNumber_46 : decode cX5_readNumber 46 = .ok (.aload_n 0, 1) := by decide +kernel
theorem dX5_readNumber_47 : decode cX5_readNumber 47 = .ok (.dup, 1) := by decide +kernel
theorem dX5_readNumber_48 : decode cX5_readNumber 48 = .ok (.getfield 37, 3) := by decide +kernel
theorem dX5_readNumber_51 : decode cX5_readNumber 51 = .ok (.iconst 1, 1) := by decide +kernel
theorem dX5_readNumber_52 : decode cX5_readNumber 52 = .ok (.iadd, 1) := by decide +kernel
theorem dX5_readNumber_53 : decode cX5_readNumber 53 = .ok (.putfield 37, 3) := by decide +kernel
theorem dX5_readNumber_56 : decode cX5_readNumber 56 = .ok (.iinc 2 1, 3) := by decide +kernel
theorem dX5_readNumber_59 : decode cX5_readNumber 59 = .ok (.goto (-55), 3) := by decide +kernel
theorem dX5_readNumber_62 : decode cX5_readNumber 62 = .ok (.iload_n 2, 1) := by decide +kernel
theorem dX5_readNumber_63 : decode cX5_readNumber 63 = .ok (.ifCond .le 7, 3) := by decide +kernel
theorem dX5_readNumber_66 : decode cX5_readNumber 66 = .ok (.iload_n 1, 1) := by decide +kernel
theorem dX5_readNumber_67 : decode cX5_readNumber 67 = .ok (.goto 4, 3) := by decide +kernel
theorem dX5_readNumber_70 : decode cX5_readNumber 70 = .ok (.iconst (-1), 1) := by decide +kernel
theorem dX5_readNumber_71 : decode cX5_readNumber 71 = .ok (.ireturn, 1) := by decide +kernel
theorem dX5_skipWords_0 : decode cX5_skipWords 0 = .ok (.iconst 0, 1) := by decide +kernel
theorem dX5_skipWords_1 : decode cX5_skipWords 1 = .ok (.istore_n 1, 1) := by decide +kernel
theorem dX5_skipWords_2 : decode cX5_skipWords 2 = .ok (.iload_n 1, 1) := by decide +kernel
theorem dX5_skipWords_3 : decode cX5_skipWords 3 = .ok (.bipush 24, 2) := by decide +kernel
theorem dX5_skipWords_5 : decode cX5_skipWords 5 = .ok (.if_icmp .ge 36, 3) := by decide +kernel
theorem dX5_skipWords_8 : decode cX5_skipWords 8 = .ok (.aload_n 0, 1) := by decide +kernel
theorem dX5_skipWords_9 : decode cX5_skipWords 9 = .ok (.getfield 43, 3) := by decide +kernel
theorem dX5_skipWords_12 : decode cX5_skipWords 12 = .ok (.aload_n 0, 1) := by decide +kernel
theorem dX5_skipWords_13 : decode cX5_skipWords 13 = .ok (.getfield 37, 3) := by decide +kernel
theorem dX5_skipWords_16 : decode cX5_skipWords 16 = .ok (.invokevirtual 78, 3) := by decide +kernel
theorem dX5_skipWords_19 : decode cX5_skipWords 19 = .ok (.invokestatic 85, 3) := by decide +kernel
theorem dX5_skipWords_22 : decode cX5_skipWords 22 = .ok (.ifCond .eq 19, 3) := by decide +kernel
theorem dX5_skipWords_25 : decode cX5_skipWords 25 = .ok (.aload_n 0, 1) := by decide +kernel
theorem dX5_skipWords_26 : decode cX5_skipWords 26 = .ok (.dup, 1) := by decide +kernel
theorem dX5_skipWords_27 : decode cX5_skipWords 27 = .ok (.getfield 37, 3) := by decide +kernel
theorem dX5_skipWords_30 : decode cX5_skipWords 30 = .ok (.iconst 1, 1) := by decide +kernel
theorem dX5_skipWords_31 : decode cX5_skipWords 31 = .ok (.iadd, 1) := by decide +kernel
theorem dX5_skipWords_32 : decode cX5_skipWords 32 = .ok (.putfield 37, 3) := by decide +kernel
theorem dX5_skipWords_35 : decode cX5_skipWords 35 = .ok (.iinc 1 1, 3) := by decide +kernel
theorem dX5_skipWords_38 : decode cX5_skipWords 38 = .ok (.goto (-36), 3) := by decide +kernel
theorem dX5_skipWords_41 : decode cX5_skipWords 41 = .ok (.return_, 1) := by decide +kernel
theorem dX5_isDigit_0 : decode cX5_isDigit 0 = .ok (.iload_n 0, 1) := by decide +kernel
theorem dX5_isDigit_1 : decode cX5_isDigit 1 = .ok (.bipush 48, 2) := by decide +kernel
theorem dX5_isDigit_3 : decode cX5_isDigit 3 = .ok (.if_icmp .lt 13, 3) := by decide +kernel
theorem dX5_isDigit_6 : decode cX5_isDigit 6 = .ok (.iload_n 0, 1) := by decide +kernel
theorem dX5_isDigit_7 : decode cX5_isDigit 7 = .ok (.bipush 57, 2) := by decide +kernel
theorem dX5_isDigit_9 : decode cX5_isDigit 9 = .ok (.if_icmp .gt 7, 3) := by decide +kernel
theorem dX5_isDigit_12 : decode cX5_isDigit 12 = .ok (.iconst 1, 1) := by decide +kernel
theorem dX5_isDigit_13 : decode cX5_isDigit 13 = .ok (.goto 4, 3) := by decide +kernel
theorem dX5_isDigit_16 : decode cX5_isDigit 16 = .ok (.iconst 0, 1) := by decide +kernel
theorem dX5_isDigit_17 : decode cX5_isDigit 17 = .ok (.ireturn, 1) := by decide +kernel
theorem dX6_init_0 : decode cX6_init 0 = .ok (.aload_n 0, 1) := by decide +kernel
theorem dX6_init_1 : decode cX6_init 1 = .ok (.invokespecial 1, 3) := by decide +kernel
theorem dX6_init_4 : decode cX6_init 4 = .ok (.aload_n 0, 1) := by decide +kernel
theorem dX6_init_5 : decode cX6_init 5 = .ok (.iload_n 1, 1) := by decide +kernel
theorem dX6_init_6 : decode cX6_init 6 = .ok (.putfield 7, 3) := by decide +kernel
theorem dX6_init_9 : decode cX6_init 9 = .ok (.aload_n 0, 1) := by decide +kernel
theorem dX6_init_10 : decode cX6_init 10 = .ok (.iload_n 2, 1) := by decide +kernel
theorem dX6_init_11 : decode cX6_init 11 = .ok (.putfield 13, 3) := by decide +kernel
theorem dX6_init_14 : decode cX6_init 14 = .ok (.aload_n 0, 1) := by decide +kernel
theorem dX6_init_15 : decode cX6_init 15 = .ok (.iload 4, 2) := by decide +kernel
theorem dX6_init_17 : decode cX6_init 17 = .ok (.iload_n 2, 1) := by decide +kernel
theorem dX6_init_18 : decode cX6_init 18 = .ok (.isub, 1) := by decide +kernel
theorem dX6_init_19 : decode cX6_init 19 = .ok (.invokestatic 16, 3) := by decide +kernel
theorem dX6_init_22 : decode cX6_init 22 = .ok (.putfield 22, 3) := by decide +kernel
theorem dX6_init_25 : decode cX6_init 25 = .ok (.aload_n 0, 1) := by decide +kernel
theorem dX6_init_26 : decode cX6_init 26 = .ok (.iload_n 3, 1) := by decide +kernel
theorem dX6_init_27 : decode cX6_init 27 = .ok (.iload_n 1, 1) := by decide +kernel
theorem dX6_init_28 : decode cX6_init 28 = .ok (.isub, 1) := by decide +kernel
theorem dX6_init_29 : decode cX6_init 29 = .ok (.invokestatic 16, 3) := by decide +kernel
theorem dX6_init_32 : decode cX6_init 32 = .ok (.putfield 25, 3) := by decide +kernel
theorem dX6_init_35 : decode cX6_init 35 = .ok (.return_, 1) := by decide +kernel
theorem dX6_frameFor_0 : decode cX6_frameFor 0 = .ok (.aload_n 0, 1) := by decide +kernel
theorem dX6_frameFor_1 : decode cX6_frameFor 1 = .ok (.getfield 25, 3) := by decide +kernel
theorem dX6_frameFor_4 : decode cX6_frameFor 4 = .ok (.ifCond .gt 5, 3) := by decide +kernel
theorem dX6_frameFor_7 : decode cX6_frameFor 7 = .ok (.iload_n 1, 1) := by decide +kernel
theorem dX6_frameFor_8 : decode cX6_frameFor 8 = .ok (.ireturn, 1) := by decide +kernel
theorem dX6_frameFor_9 : decode cX6_frameFor 9 = .ok (.aload_n 0, 1) := by decide +kernel
theorem dX6_frameFor_10 : decode cX6_frameFor 10 = .ok (.getfield 13, 3) := by decide +kernel
theorem dX6_frameFor_13 : decode cX6_frameFor 13 = .ok (.iconst 2, 1) := by decide +kernel
theorem dX6_frameFor_14 : decode cX6_frameFor 14 = .ok (.iload_n 1, 1) := by decide +kernel
theorem dX6_frameFor_15 : decode cX6_frameFor 15 = .ok (.aload_n 0, 1) := by decide +kernel
theorem dX6_frameFor_16 : decode cX6_frameFor 16 = .ok (.getfield 7, 3) := by decide +kernel
theorem dX6_frameFor_19 : decode cX6_frameFor 19 = .ok (.isub, 1) := by decide +kernel
theorem dX6_frameFor_20 : decode cX6_frameFor 20 = .ok (.imul, 1) := by decide +kernel
theorem dX6_frameFor_21 : decode cX6_frameFor 21 = .ok (.aload_n 0, 1) := by decide +kernel
theorem dX6_frameFor_22 : decode cX6_frameFor 22 = .ok (.getfield 22, 3) := by decide +kernel
theorem dX6_frameFor_25 : decode cX6_frameFor 25 = .ok (.imul, 1) := by decide +kernel
theorem dX6_frameFor_26 : decode cX6_frameFor 26 = .ok (.aload_n 0, 1) := by decide +kernel
theorem dX6_frameFor_27 : decode cX6_frameFor 27 = .ok (.getfield 25, 3) := by decide +kernel
theorem dX6_frameFor_30 : decode cX6_frameFor 30 = .ok (.iadd, 1) := by decide +kernel
theorem dX6_frameFor_31 : decode cX6_frameFor 31 = .ok (.iconst 2, 1) := by decide +kernel
theorem dX6_frameFor_32 : decode cX6_frameFor 32 = .ok (.aload_n 0, 1) := by decide +kernel
theorem dX6_frameFor_33 : decode cX6_frameFor 33 = .ok (.getfield 25, 3) := by decide +kernel
theorem dX6_frameFor_36 : decode cX6_frameFor 36 = .ok (.imul, 1) := by decide +kernel
theorem dX6_frameFor_37 : decode cX6_frameFor 37 = .ok (.invokestatic 28, 3) := by decide +kernel
theorem dX6_frameFor_40 : decode cX6_frameFor 40 = .ok (.iadd, 1) := by decide +kernel
theorem dX6_frameFor_41 : decode cX6_frameFor 41 = .ok (.ireturn, 1) := by decide +kernel
theorem dX7_init_0 : decode cX7_init 0 = .ok (.aload_n 0, 1) := by decide +kernel
theorem dX7_init_1 : decode cX7_init 1 = .ok (.invokespecial 3, 3) := by decide +kernel
theorem dX7_init_4 : decode cX7_init 4 = .ok (.aload_n 0, 1) := by decide +kernel
theorem dX7_init_5 : decode cX7_init 5 = .ok (.bipush 60, 2) := by decide +kernel
theorem dX7_init_7 : decode cX7_init 7 = .ok (.newarray .int, 2) := by decide +kernel
theorem dX7_init_9 : decode cX7_init 9 = .ok (.putfield 9, 3) := by decide +kernel
theorem dX7_init_12 : decode cX7_init 12 = .ok (.aload_n 0, 1) := by decide +kernel
theorem dX7_init_13 : decode cX7_init 13 = .ok (.iconst 0, 1) := by decide +kernel
theorem dX7_init_14 : decode cX7_init 14 = .ok (.putfield 15, 3) := by decide +kernel
theorem dX7_init_17 : decode cX7_init 17 = .ok (.return_, 1) := by decide +kernel
theorem dX7_clear_0 : decode cX7_clear 0 = .ok (.aload_n 0, 1) := by decide +kernel
theorem dX7_clear_1 : decode cX7_clear 1 = .ok (.iconst 0, 1) := by decide +kernel
theorem dX7_clear_2 : decode cX7_clear 2 = .ok (.putfield 15, 3) := by decide +kernel
theorem dX7_clear_5 : decode cX7_clear 5 = .ok (.return_, 1) := by decide +kernel
theorem dX7_append_0 : decode cX7_append 0 = .ok (.aload_n 0, 1) := by decide +kernel
theorem dX7_append_1 : decode cX7_append 1 = .ok (.getfield 15, 3) := by decide +kernel
theorem dX7_append_4 : decode cX7_append 4 = .ok (.ifCond .lt 15, 3) := by decide +kernel
theorem dX7_append_7 : decode cX7_append 7 = .ok (.aload_n 0, 1) := by decide +kernel
theorem dX7_append_8 : decode cX7_append 8 = .ok (.getfield 15, 3) := by decide +kernel
theorem dX7_append_11 : decode cX7_append 11 = .ok (.aload_n 0, 1) := by decide +kernel
theorem dX7_append_12 : decode cX7_append 12 = .ok (.getfield 9, 3) := by decide +kernel
theorem dX7_append_15 : decode cX7_append 15 = .ok (.arraylength, 1) := by decide +kernel
theorem dX7_append_16 : decode cX7_append 16 = .ok (.if_icmp .lt 5, 3) := by decide +kernel
theorem dX7_append_19 : decode cX7_append 19 = .ok (.iconst 0, 1) := by decide +kernel
theorem dX7_append_20 : decode cX7_append 20 = .ok (.ireturn, 1) := by decide +kernel
theorem dX7_append_21 : decode cX7_append 21 = .ok (.aload_n 0, 1) := by decide +kernel
theorem dX7_append_22 : decode cX7_append 22 = .ok (.getfield 9, 3) := by decide +kernel
theorem dX7_append_25 : decode cX7_append 25 = .ok (.aload_n 0, 1) := by decide +kernel
theorem dX7_append_26 : decode cX7_append 26 = .ok (.getfield 15, 3) := by decide +kernel
theorem dX7_append_29 : decode cX7_append 29 = .ok (.iload_n 1, 1) := by decide +kernel
theorem dX7_append_30 : decode cX7_append 30 = .ok (.iastore, 1) := by decide +kernel
theorem dX7_append_31 : decode cX7_append 31 = .ok (.aload_n 0, 1) := by decide +kernel
theorem dX7_append_32 : decode cX7_append 32 = .ok (.dup, 1) := by decide +kernel
theorem dX7_append_33 : decode cX7_append 33 = .ok (.getfield 15, 3) := by decide +kernel
theorem dX7_append_36 : decode cX7_append 36 = .ok (.iconst 1, 1) := by decide +kernel
theorem dX7_append_37 : decode cX7_append 37 = .ok (.iadd, 1) := by decide +kernel
theorem dX7_append_38 : decode cX7_append 38 = .ok (.putfield 15, 3) := by decide +kernel
theorem dX7_append_41 : decode cX7_append 41 = .ok (.iconst 1, 1) := by decide +kernel
theorem dX7_append_42 : decode cX7_append 42 = .ok (.ireturn, 1) := by decide +kernel
theorem dX7_appendPart_0 : decode cX7_appendPart 0 = .ok (.iload_n 2, 1) := by decide +kernel
theorem dX7_appendPart_1 : decode cX7_appendPart 1 = .ok (.istore 4, 2) := by decide +kernel
theorem dX7_appendPart_3 : decode cX7_appendPart 3 = .ok (.iload 4, 2) := by decide +kernel
theorem dX7_appendPart_5 : decode cX7_appendPart 5 = .ok (.iload_n 3, 1) := by decide +kernel
theorem dX7_appendPart_6 : decode cX7_appendPart 6 = .ok (.if_icmp .ge 30, 3) := by decide +kernel
theorem dX7_appendPart_9 : decode cX7_appendPart 9 = .ok (.aload_n 1, 1) := by decide +kernel
theorem dX7_appendPart_10 : decode cX7_appendPart 10 = .ok (.iload 4, 2) := by decide +kernel
theorem dX7_appendPart_12 : decode cX7_appendPart 12 = .ok (.invokevirtual 19, 3) := by decide +kernel
theorem dX7_appendPart_15 : decode cX7_appendPart 15 = .ok (.istore 5, 2) := by decide +kernel
theorem dX7_appendPart_17 : decode cX7_appendPart 17 = .ok (.iload 5, 2) := by decide +kernel
theorem dX7_appendPart_19 : decode cX7_appendPart 19 = .ok (.iconst (-1), 1) := by decide +kernel
theorem dX7_appendPart_20 : decode cX7_appendPart 20 = .ok (.if_icmp .eq 10, 3) := by decide +kernel
theorem dX7_appendPart_23 : decode cX7_appendPart 23 = .ok (.aload_n 0, 1) := by decide +kernel
theorem dX7_appendPart_24 : decode cX7_appendPart 24 = .ok (.iload 5, 2) := by decide +kernel
theorem dX7_appendPart_26 : decode cX7_appendPart 26 = .ok (.invokevirtual 23, 3) := by decide +kernel
theorem dX7_appendPart_29 : decode cX7_appendPart 29 = .ok (.pop, 1) := by decide +kernel
theorem dX7_appendPart_30 : decode cX7_appendPart 30 = .ok (.iinc 4 1, 3) := by decide +kernel
theorem dX7_appendPart_33 : decode cX7_appendPart 33 = .ok (.goto (-30), 3) := by decide +kernel
theorem dX7_appendPart_36 : decode cX7_appendPart 36 = .ok (.return_, 1) := by decide +kernel
theorem dX7_signAt_0 : decode cX7_signAt 0 = .ok (.iload_n 1, 1) := by decide +kernel
theorem dX7_signAt_1 : decode cX7_signAt 1 = .ok (.ifCond .lt 29, 3) := by decide +kernel
theorem dX7_signAt_4 : decode cX7_signAt 4 = .ok (.iload_n 1, 1) := by decide +kernel
theorem dX7_signAt_5 : decode cX7_signAt 5 = .ok (.aload_n 0, 1) := by decide +kernel
theorem dX7_signAt_6 : decode cX7_signAt 6 = .ok (.getfield 15, 3) := by decide +kernel
theorem dX7_signAt_9 : decode cX7_signAt 9 = .ok (.if_icmp .ge 21, 3) := by decide +kernel
theorem dX7_signAt_12 : decode cX7_signAt 12 = .ok (.iload_n 1, 1) := by decide +kernel
theorem dX7_signAt_13 : decode cX7_signAt 13 = .ok (.aload_n 0, 1) := by decide +kernel
theorem dX7_signAt_14 : decode cX7_signAt 14 = .ok (.getfield 9, 3) := by decide +kernel
theorem dX7_signAt_17 : decode cX7_signAt 17 = .ok (.arraylength, 1) := by decide +kernel
theorem dX7_signAt_18 : decode cX7_signAt 18 = .ok (.if_icmp .ge 12, 3) := by decide +kernel
theorem dX7_signAt_21 : decode cX7_signAt 21 = .ok (.aload_n 0, 1) := by decide +kernel
theorem dX7_signAt_22 : decode cX7_signAt 22 = .ok (.getfield 9, 3) := by decide +kernel
theorem dX7_signAt_25 : decode cX7_signAt 25 = .ok (.iload_n 1, 1) := by decide +kernel
theorem dX7_signAt_26 : decode cX7_signAt 26 = .ok (.iaload, 1) := by decide +kernel
theorem dX7_signAt_27 : decode cX7_signAt 27 = .ok (.goto 4, 3) := by decide +kernel
theorem dX7_signAt_30 : decode cX7_signAt 30 = .ok (.iconst (-1), 1) := by decide +kernel
theorem dX7_signAt_31 : decode cX7_signAt 31 = .ok (.ireturn, 1) := by decide +kernel
theorem dX7_isValid_0 : decode cX7_isValid 0 = .ok (.aload_n 0, 1) := by decide +kernel
theorem dX7_isValid_1 : decode cX7_isValid 1 = .ok (.getfield 15, 3) := by decide +kernel
theorem dX7_isValid_4 : decode cX7_isValid 4 = .ok (.iconst 1, 1) := by decide +kernel
theorem dX7_isValid_5 : decode cX7_isValid 5 = .ok (.if_icmp .lt 12, 3) := by decide +kernel
theorem dX7_isValid_8 : decode cX7_isValid 8 = .ok (.aload_n 0, 1) := by decide +kernel
theorem dX7_isValid_9 : decode cX7_isValid 9 = .ok (.getfield 15, 3) := by decide +kernel
theorem dX7_isValid_12 : decode cX7_isValid 12 = .ok (.bipush 24, 2) := by decide +kernel
theorem dX7_isValid_14 : decode cX7_isValid 14 = .ok (.if_icmp .le 5, 3) := by decide +kernel
theorem dX7_isValid_17 : decode cX7_isValid 17 = .ok (.iconst 0, 1) := by decide +kernel
theorem dX7_isValid_18 : decode cX7_isValid 18 = .ok (.ireturn, 1) := by decide +kernel
theorem dX7_isValid_19 : decode cX7_isValid 19 = .ok (.iconst 0, 1) := by decide +kernel
theorem dX7_isValid_20 : decode cX7_isValid 20 = .ok (.istore_n 1, 1) := by decide +kernel
theorem dX7_isValid_21 : decode cX7_isValid 21 = .ok (.iconst 0, 1) := by decide +kernel
theorem dX7_isValid_22 : decode cX7_isValid 22 = .ok (.istore_n 2, 1) := by decide +kernel
theorem dX7_isValid_23 : decode cX7_isValid 23 = .ok (.iload_n 2, 1) := by decide +kernel
theorem dX7_isValid_24 : decode cX7_isValid 24 = .ok (.aload_n 0, 1) := by decide +kernel
theorem dX7_isValid_25 : decode cX7_isValid 25 = .ok (.getfield 15, 3) := by decide +kernel
theorem dX7_isValid_28 : decode cX7_isValid 28 = .ok (.if_icmp .ge 33, 3) := by decide +kernel
theorem dX7_isValid_31 : decode cX7_isValid 31 = .ok (.aload_n 0, 1) := by decide +kernel
theorem dX7_isValid_32 : decode cX7_isValid 32 = .ok (.iload_n 2, 1) := by decide +kernel
theorem dX7_isValid_33 : decode cX7_isValid 33 = .ok (.invokevirtual 19, 3) := by decide +kernel
theorem dX7_isValid_36 : decode cX7_isValid 36 = .ok (.istore_n 3, 1) := by decide +kernel
theorem dX7_isValid_37 : decode cX7_isValid 37 = .ok (.iload_n 3, 1) := by decide +kernel
theorem dX7_isValid_38 : decode cX7_isValid 38 = .ok (.invokestatic 27, 3) := by decide +kernel
theorem dX7_isValid_41 : decode cX7_isValid 41 = .ok (.ifCond .ne 5, 3) := by decide +kernel
theorem dX7_isValid_44 : decode cX7_isValid 44 = .ok (.iconst 0, 1) := by decide +kernel
theorem dX7_isValid_45 : decode cX7_isValid 45 = .ok (.ireturn, 1) := by decide +kernel
theorem dX7_isValid_46 : decode cX7_isValid 46 = .ok (.iload_n 3, 1) := by decide +kernel
theorem dX7_isValid_47 : decode cX7_isValid 47 = .ok (.bipush 124, 2) := by decide +kernel
theorem dX7_isValid_49 : decode cX7_isValid 49 = .ok (.if_icmp .ne 6, 3) := by decide +kernel
theorem dX7_isValid_52 : decode cX7_isValid 52 = .ok (.iinc 1 1, 3) := by decide +kernel
theorem dX7_isValid_55 : decode cX7_isValid 55 = .ok (.iinc 2 1, 3) := by decide +kernel
theorem dX7_isValid_58 : decode cX7_isValid 58 = .ok (.goto (-35), 3) := by decide +kernel
theorem dX7_isValid_61 : decode cX7_isValid 61 = .ok (.iload_n 1, 1) := by decide +kernel
theorem dX7_isValid_62 : decode cX7_isValid 62 = .ok (.iconst 1, 1) := by decide +kernel
theorem dX7_isValid_63 : decode cX7_isValid 63 = .ok (.if_icmp .gt 32, 3) := by decide +kernel
theorem dX7_isValid_66 : decode cX7_isValid 66 = .ok (.aload_n 0, 1) := by decide +kernel
theorem dX7_isValid_67 : decode cX7_isValid 67 = .ok (.iconst 0, 1) := by decide +kernel
theorem dX7_isValid_68 : decode cX7_isValid 68 = .ok (.invokevirtual 19, 3) := by decide +kernel
theorem dX7_isValid_71 : decode cX7_isValid 71 = .ok (.bipush 124, 2) := by decide +kernel
theorem dX7_isValid_73 : decode cX7_isValid 73 = .ok (.if_icmp .eq 22, 3) := by decide +kernel
theorem dX7_isValid_76 : decode cX7_isValid 76 = .ok (.aload_n 0, 1) := by decide +kernel
theorem dX7_isValid_77 : decode cX7_isValid 77 = .ok (.aload_n 0, 1) := by decide +kernel
theorem dX7_isValid_78 : decode cX7_isValid 78 = .ok (.getfield 15, 3) := by decide +kernel
theorem dX7_isValid_81 : decode cX7_isValid 81 = .ok (.iconst 1, 1) := by decide +kernel
theorem dX7_isValid_82 : decode cX7_isValid 82 = .ok (.isub, 1) := by decide +kernel
theorem dX7_isValid_83 : decode cX7_isValid 83 = .ok (.invokevirtual 19, 3) := by decide +kernel
theorem dX7_isValid_86 : decode cX7_isValid 86 = .ok (.bipush 124, 2) := by decide +kernel
theorem dX7_isValid_88 : decode cX7_isValid 88 = .ok (.if_icmp .eq 7, 3) := by decide +kernel
theorem dX7_isValid_91 : decode cX7_isValid 91 = .ok (.iconst 1, 1) := by decide +kernel
theorem dX7_isValid_92 : decode cX7_isValid 92 = .ok (.goto 4, 3) := by decide +kernel
theorem dX7_isValid_95 : decode cX7_isValid 95 = .ok (.iconst 0, 1) := by decide +kernel
theorem dX7_isValid_96 : decode cX7_isValid 96 = .ok (.ireturn, 1) := by decide +kernel
theorem dX8_init_0 : decode cX8_init 0 = .ok (.aload_n 0, 1) := by decide +kernel
theorem dX8_init_1 : decode cX8_init 1 = .ok (.invokespecial 3, 3) := by decide +kernel
theorem dX8_init_4 : decode cX8_init 4 = .ok (.aload_n 0, 1) := by decide +kernel
theorem dX8_init_5 : decode cX8_init 5 = .ok (.bipush 16, 2) := by decide +kernel
theorem dX8_init_7 : decode cX8_init 7 = .ok (.newarray .int, 2) := by decide +kernel
theorem dX8_init_9 : decode cX8_init 9 = .ok (.putfield 9, 3) := by decide +kernel
theorem dX8_init_12 : decode cX8_init 12 = .ok (.aload_n 0, 1) := by decide +kernel
theorem dX8_init_13 : decode cX8_init 13 = .ok (.bipush 16, 2) := by decide +kernel
theorem dX8_init_15 : decode cX8_init 15 = .ok (.newarray .int, 2) := by decide +kernel
theorem dX8_init_17 : decode cX8_init 17 = .ok (.putfield 15, 3) := by decide +kernel
theorem dX8_init_20 : decode cX8_init 20 = .ok (.aload_n 0, 1) := by decide +kernel
theorem dX8_init_21 : decode cX8_init 21 = .ok (.bipush 16, 2) := by decide +kernel
theorem dX8_init_23 : decode cX8_init 23 = .ok (.newarray .int, 2) := by decide +kernel
theorem dX8_init_25 : decode cX8_init 25 = .ok (.putfield 18, 3) := by decide +kernel
theorem dX8_init_28 : decode cX8_init 28 = .ok (.aload_n 0, 1) := by decide +kernel
theorem dX8_init_29 : decode cX8_init 29 = .ok (.bipush 16, 2) := by decide +kernel
theorem dX8_init_31 : decode cX8_init 31 = .ok (.newarray .int, 2) := by decide +kernel
theorem dX8_init_33 : decode cX8_init 33 = .ok (.putfield 21, 3) := by decide +kernel
theorem dX8_init_36 : decode cX8_init 36 = .ok (.aload_n 0, 1) := by decide +kernel
theorem dX8_init_37 : decode cX8_init 37 = .ok (.sipush 384, 3) := by decide +kernel
theorem dX8_init_40 : decode cX8_init 40 = .ok (.newarray .int, 2) := by decide +kernel
theorem dX8_init_42 : decode cX8_init 42 = .ok (.putfield 24, 3) := by decide +kernel
theorem dX8_init_45 : decode cX8_init 45 = .ok (.aload_n 0, 1) := by decide +kernel
theorem dX8_init_46 : decode cX8_init 46 = .ok (.iconst 0, 1) := by decide +kernel
theorem dX8_init_47 : decode cX8_init 47 = .ok (.putfield 27, 3) := by decide +kernel
theorem dX8_init_50 : decode cX8_init 50 = .ok (.return_, 1) := by decide +kernel
theorem dX8_copyFrom_0 : decode cX8_copyFrom 0 = .ok (.aload_n 1, 1) := by decide +kernel
theorem dX8_copyFrom_1 : decode cX8_copyFrom 1 = .ok (.getfield 9, 3) := by decide +kernel
theorem dX8_copyFrom_4 : decode cX8_copyFrom 4 = .ok (.iconst 0, 1) := by decide +kernel
theorem dX8_copyFrom_5 : decode cX8_copyFrom 5 = .ok (.aload_n 0, 1) := by decide +kernel
theorem dX8_copyFrom_6 : decode cX8_copyFrom 6 = .ok (.getfield 9, 3) := by decide +kernel
theorem dX8_copyFrom_9 : decode cX8_copyFrom 9 = .ok (.iconst 0, 1) := by decide +kernel
theorem dX8_copyFrom_10 : decode cX8_copyFrom 10 = .ok (.bipush 16, 2) := by decide +kernel
theorem dX8_copyFrom_12 : decode cX8_copyFrom 12 = .ok (.invokestatic 31, 3) := by decide +kernel
theorem dX8_copyFrom_15 : decode cX8_copyFrom 15 = .ok (.aload_n 1, 1) := by decide +kernel
theorem dX8_copyFrom_16 : decode cX8_copyFrom 16 = .ok (.getfield 15, 3) := by decide +kernel
theorem dX8_copyFrom_19 : decode cX8_copyFrom 19 = .ok (.iconst 0, 1) := by decide +kernel
theorem dX8_copyFrom_20 : decode cX8_copyFrom 20 = .ok (.aload_n 0, 1) := by decide +kernel
theorem dX8_copyFrom_21 : decode cX8_copyFrom 21 = .ok (.getfield 15, 3) := by decide +kernel
theorem dX8_copyFrom_24 : decode cX8_copyFrom 24 = .ok (.iconst 0, 1) := by decide +kernel
theorem dX8_copyFrom_25 : decode cX8_copyFrom 25 = .ok (.bipush 16, 2) := by decide +kernel
theorem dX8_copyFrom_27 : decode cX8_copyFrom 27 = .ok (.invokestatic 31, 3) := by decide +kernel
theorem dX8_copyFrom_30 : decode cX8_copyFrom 30 = .ok (.aload_n 1, 1) := by decide +kernel
theorem dX8_copyFrom_31 : decode cX8_copyFrom 31 = .ok (.getfield 18, 3) := by decide +kernel
theorem dX8_copyFrom_34 : decode cX8_copyFrom 34 = .ok (.iconst 0, 1) := by decide +kernel
theorem dX8_copyFrom_35 : decode cX8_copyFrom 35 = .ok (.aload_n 0, 1) := by decide +kernel
theorem dX8_copyFrom_36 : decode cX8_copyFrom 36 = .ok (.getfield 18, 3) := by decide +kernel
theorem dX8_copyFrom_39 : decode cX8_copyFrom 39 = .ok (.iconst 0, 1) := by decide +kernel
theorem dX8_copyFrom_40 : decode cX8_copyFrom 40 = .ok (.bipush 16, 2) := by decide +kernel
theorem dX8_copyFrom_42 : decode cX8_copyFrom 42 = .ok (.invokestatic 31, 3) := by decide +kernel
theorem dX8_copyFrom_45 : decode cX8_copyFrom 45 = .ok (.aload_n 1, 1) := by decide +kernel
theorem dX8_copyFrom_46 : decode cX8_copyFrom 46 = .ok (.getfield 21, 3) := by decide +kernel
theorem dX8_copyFrom_49 : decode cX8_copyFrom 49 = .ok (.iconst 0, 1) := by decide +kernel
theorem dX8_copyFrom_50 : decode cX8_copyFrom 50 = .ok (.aload_n 0, 1) := by decide +kernel
theorem dX8_copyFrom_51 : decode cX8_copyFrom 51 = .ok (.getfield 21, 3) := by decide +kernel
theorem dX8_copyFrom_54 : decode cX8_copyFrom 54 = .ok (.iconst 0, 1) := by decide +kernel
theorem dX8_copyFrom_55 : decode cX8_copyFrom 55 = .ok (.bipush 16, 2) := by decide +kernel
theorem dX8_copyFrom_57 : decode cX8_copyFrom 57 = .ok (.invokestatic 31, 3) := by decide +kernel
theorem dX8_copyFrom_60 : decode cX8_copyFrom 60 = .ok (.aload_n 1, 1) := by decide +kernel
theorem dX8_copyFrom_61 : decode cX8_copyFrom 61 = .ok (.getfield 24, 3) := by decide +kernel
theorem dX8_copyFrom_64 : decode cX8_copyFrom 64 = .ok (.iconst 0, 1) := by decide +kernel
theorem dX8_copyFrom_65 : decode cX8_copyFrom 65 = .ok (.aload_n 0, 1) := by decide +kernel
theorem dX8_copyFrom_66 : decode cX8_copyFrom 66 = .ok (.getfield 24, 3) := by decide +kernel
theorem dX8_copyFrom_69 : decode cX8_copyFrom 69 = .ok (.iconst 0, 1) := by decide +kernel
theorem dX8_copyFrom_70 : decode cX8_copyFrom 70 = .ok (.sipush 384, 3) := by decide +kernel
theorem dX8_copyFrom_73 : decode cX8_copyFrom 73 = .ok (.invokestatic 31, 3) := by decide +kernel
theorem dX8_copyFrom_76 : decode cX8_copyFrom 76 = .ok (.aload_n 0, 1) := by decide +kernel
theorem dX8_copyFrom_77 : decode cX8_copyFrom 77 = .ok (.aload_n 1, 1) := by decide +kernel
theorem dX8_copyFrom_78 : decode cX8_copyFrom 78 = .ok (.getfield 27, 3) := by decide +kernel
theorem dX8_copyFrom_81 : decode cX8_copyFrom 81 = .ok (.putfield 27, 3) := by decide +kernel
theorem dX8_copyFrom_84 : decode cX8_copyFrom 84 = .ok (.return_, 1) := by decide +kernel
theorem dX8_has_0 : decode cX8_has 0 = .ok (.iload_n 1, 1) := by decide +kernel
theorem dX8_has_1 : decode cX8_has 1 = .ok (.ifCond .lt 21, 3) := by decide +kernel
theorem dX8_has_4 : decode cX8_has 4 = .ok (.iload_n 1, 1) := by decide +kernel
theorem dX8_has_5 : decode cX8_has 5 = .ok (.aload_n 0, 1) := by decide +kernel
theorem dX8_has_6 : decode cX8_has 6 = .ok (.getfield 27, 3) := by decide +kernel
theorem dX8_has_9 : decode cX8_has 9 = .ok (.if_icmp .ge 13, 3) := by decide +kernel
theorem dX8_has_12 : decode cX8_has 12 = .ok (.iload_n 1, 1) := by decide +kernel
theorem dX8_has_13 : decode cX8_has 13 = .ok (.bipush 16, 2) := by decide +kernel
theorem dX8_has_15 : decode cX8_has 15 = .ok (.if_icmp .ge 7, 3) := by decide +kernel
theorem dX8_has_18 : decode cX8_has 18 = .ok (.iconst 1, 1) := by decide +kernel
theorem dX8_has_19 : decode cX8_has 19 = .ok (.goto 4, 3) := by decide +kernel
theorem dX8_has_22 : decode cX8_has 22 = .ok (.iconst 0, 1) := by decide +kernel
theorem dX8_has_23 : decode cX8_has 23 = .ok (.ireturn, 1) := by decide +kernel
theorem dX8_first_0 : decode cX8_first 0 = .ok (.aload_n 0, 1) := by decide +kernel
theorem dX8_first_1 : decode cX8_first 1 = .ok (.iload_n 1, 1) := by decide +kernel
theorem dX8_first_2 : decode cX8_first 2 = .ok (.invokevirtual 37, 3) := by decide +kernel
theorem dX8_first_5 : decode cX8_first 5 = .ok (.ifCond .eq 12, 3) := by decide +kernel
theorem dX8_first_8 : decode cX8_first 8 = .ok (.aload_n 0, 1) := by decide +kernel
theorem dX8_first_9 : decode cX8_first 9 = .ok (.getfield 9, 3) := by decide +kernel
theorem dX8_first_12 : decode cX8_first 12 = .ok (.iload_n 1, 1) := by decide +kernel
theorem dX8_first_13 : decode cX8_first 13 = .ok (.iaload, 1) := by decide +kernel
theorem dX8_first_14 : decode cX8_first 14 = .ok (.goto 4, 3) := by decide +kernel
theorem dX8_first_17 : decode cX8_first 17 = .ok (.iconst 0, 1) := by decide +kernel
theorem dX8_first_18 : decode cX8_first 18 = .ok (.ireturn, 1) := by decide +kernel
theorem dX8_end_0 : decode cX8_end 0 = .ok (.aload_n 0, 1) := by decide +kernel
theorem dX8_end_1 : decode cX8_end 1 = .ok (.iload_n 1, 1) := by decide +kernel
theorem dX8_end_2 : decode cX8_end 2 = .ok (.invokevirtual 37, 3) := by decide +kernel
theorem dX8_end_5 : decode cX8_end 5 = .ok (.ifCond .eq 12, 3) := by decide +kernel
theorem dX8_end_8 : decode cX8_end 8 = .ok (.aload_n 0, 1) := by decide +kernel
theorem dX8_end_9 : decode cX8_end 9 = .ok (.getfield 15, 3) := by decide +kernel
theorem dX8_end_12 : decode cX8_end 12 = .ok (.iload_n 1, 1) := by decide +kernel
theorem dX8_end_13 : decode cX8_end 13 = .ok (.iaload, 1) := by decide +kernel
theorem dX8_end_14 : decode cX8_end 14 = .ok (.goto 4, 3) := by decide +kernel
theorem dX8_end_17 : decode cX8_end 17 = .ok (.iconst 0, 1) := by decide +kernel
theorem dX8_end_18 : decode cX8_end 18 = .ok (.ireturn, 1) := by decide +kernel
theorem dX8_kind_0 : decode cX8_kind 0 = .ok (.aload_n 0, 1) := by decide +kernel
theorem dX8_kind_1 : decode cX8_kind 1 = .ok (.iload_n 1, 1) := by decide +kernel
theorem dX8_kind_2 : decode cX8_kind 2 = .ok (.invokevirtual 37, 3) := by decide +kernel
theorem dX8_kind_5 : decode cX8_kind 5 = .ok (.ifCond .eq 12, 3) := by decide +kernel
theorem dX8_kind_8 : decode cX8_kind 8 = .ok (.aload_n 0, 1) := by decide +kernel
theorem dX8_kind_9 : decode cX8_kind 9 = .ok (.getfield 18, 3) := by decide +kernel
theorem dX8_kind_12 : decode cX8_kind 12 = .ok (.iload_n 1, 1) := by decide +kernel
theorem dX8_kind_13 : decode cX8_kind 13 = .ok (.iaload, 1) := by decide +kernel
theorem dX8_kind_14 : decode cX8_kind 14 = .ok (.goto 4, 3) := by decide +kernel
theorem dX8_kind_17 : decode cX8_kind 17 = .ok (.iconst 0, 1) := by decide +kernel
theorem dX8_kind_18 : decode cX8_kind 18 = .ok (.ireturn, 1) := by decide +kernel
theorem dX8_size_0 : decode cX8_size 0 = .ok (.aload_n 0, 1) := by decide +kernel
theorem dX8_size_1 : decode cX8_size 1 = .ok (.iload_n 1, 1) := by decide +kernel
theorem dX8_size_2 : decode cX8_size 2 = .ok (.invokevirtual 37, 3) := by decide +kernel
theorem dX8_size_5 : decode cX8_size 5 = .ok (.ifCond .eq 12, 3) := by decide +kernel
theorem dX8_size_8 : decode cX8_size 8 = .ok (.aload_n 0, 1) := by decide +kernel
theorem dX8_size_9 : decode cX8_size 9 = .ok (.getfield 21, 3) := by decide +kernel
theorem dX8_size_12 : decode cX8_size 12 = .ok (.iload_n 1, 1) := by decide +kernel
theorem dX8_size_13 : decode cX8_size 13 = .ok (.iaload, 1) := by decide +kernel
theorem dX8_size_14 : decode cX8_size 14 = .ok (.goto 4, 3) := by decide +kernel
theorem dX8_size_17 : decode cX8_size 17 = .ok (.iconst 0, 1) := by decide +kernel
theorem dX8_size_18 : decode cX8_size 18 = .ok (.ireturn, 1) := by decide +kernel
theorem dX8_frames_0 : decode cX8_frames 0 = .ok (.aload_n 0, 1) := by decide +kernel
theorem dX8_frames_1 : decode cX8_frames 1 = .ok (.iload_n 1, 1) := by decide +kernel
theorem dX8_frames_2 : decode cX8_frames 2 = .ok (.invokevirtual 41, 3) := by decide +kernel
theorem dX8_frames_5 : decode cX8_frames 5 = .ok (.aload_n 0, 1) := by decide +kernel
theorem dX8_frames_6 : decode cX8_frames 6 = .ok (.iload_n 1, 1) := by decide +kernel
theorem dX8_frames_7 : decode cX8_frames 7 = .ok (.invokevirtual 45, 3) := by decide +kernel
theorem dX8_frames_10 : decode cX8_frames 10 = .ok (.isub, 1) := by decide +kernel
theorem dX8_frames_11 : decode cX8_frames 11 = .ok (.ireturn, 1) := by decide +kernel
theorem dX8_signAt_0 : decode cX8_signAt 0 = .ok (.aload_n 0, 1) := by decide +kernel
theorem dX8_signAt_1 : decode cX8_signAt 1 = .ok (.iload_n 1, 1) := by decide +kernel
theorem dX8_signAt_2 : decode cX8_signAt 2 = .ok (.invokevirtual 37, 3) := by decide +kernel
theorem dX8_signAt_5 : decode cX8_signAt 5 = .ok (.ifCond .eq 23, 3) := by decide +kernel
theorem dX8_signAt_8 : decode cX8_signAt 8 = .ok (.iload_n 2, 1) := by decide +kernel
theorem dX8_signAt_9 : decode cX8_signAt 9 = .ok (.ifCond .lt 19, 3) := by decide +kernel
theorem dX8_signAt_12 : decode cX8_signAt 12 = .ok (.iload_n 2, 1) := by decide +kernel
theorem dX8_signAt_13 : decode cX8_signAt 13 = .ok (.aload_n 0, 1) := by decide +kernel
theorem dX8_signAt_14 : decode cX8_signAt 14 = .ok (.getfield 21, 3) := by decide +kernel
theorem dX8_signAt_17 : decode cX8_signAt 17 = .ok (.iload_n 1, 1) := by decide +kernel
theorem dX8_signAt_18 : decode cX8_signAt 18 = .ok (.iaload, 1) := by decide +kernel
theorem dX8_signAt_19 : decode cX8_signAt 19 = .ok (.if_icmp .ge 9, 3) := by decide +kernel
theorem dX8_signAt_22 : decode cX8_signAt 22 = .ok (.iload_n 2, 1) := by decide +kernel
theorem dX8_signAt_23 : decode cX8_signAt 23 = .ok (.bipush 24, 2) := by decide +kernel
theorem dX8_signAt_25 : decode cX8_signAt 25 = .ok (.if_icmp .lt 5, 3) := by decide +kernel
theorem dX8_signAt_28 : decode cX8_signAt 28 = .ok (.iconst (-1), 1) := by decide +kernel
theorem dX8_signAt_29 : decode cX8_signAt 29 = .ok (.ireturn, 1) := by decide +kernel
theorem dX8_signAt_30 : decode cX8_signAt 30 = .ok (.aload_n 0, 1) := by decide +kernel
theorem dX8_signAt_31 : decode cX8_signAt 31 = .ok (.getfield 24, 3) := by decide +kernel
theorem dX8_signAt_34 : decode cX8_signAt 34 = .ok (.iload_n 1, 1) := by decide +kernel
theorem dX8_signAt_35 : decode cX8_signAt 35 = .ok (.bipush 24, 2) := by decide +kernel
theorem dX8_signAt_37 : decode cX8_signAt 37 = .ok (.imul, 1) := by decide +kernel
theorem dX8_signAt_38 : decode cX8_signAt 38 = .ok (.iload_n 2, 1) := by decide +kernel
theorem dX8_signAt_39 : decode cX8_signAt 39 = .ok (.iadd, 1) := by decide +kernel
theorem dX8_signAt_40 : decode cX8_signAt 40 = .ok (.iaload, 1) := by decide +kernel
theorem dX8_signAt_41 : decode cX8_signAt 41 = .ok (.ireturn, 1) := by decide +kernel
theorem dX8_load_0 : decode cX8_load 0 = .ok (.aload_n 0, 1) := by decide +kernel
theorem dX8_load_1 : decode cX8_load 1 = .ok (.iload_n 1, 1) := by decide +kernel
theorem dX8_load_2 : decode cX8_load 2 = .ok (.iconst 0, 1) := by decide +kernel
theorem dX8_load_3 : decode cX8_load 3 = .ok (.aload_n 0, 1) := by decide +kernel
theorem dX8_load_4 : decode cX8_load 4 = .ok (.iload_n 1, 1) := by decide +kernel
theorem dX8_load_5 : decode cX8_load 5 = .ok (.invokevirtual 48, 3) := by decide +kernel
theorem dX8_load_8 : decode cX8_load 8 = .ok (.invokevirtual 51, 3) := by decide +kernel
theorem dX8_load_11 : decode cX8_load 11 = .ok (.ireturn, 1) := by decide +kernel
theorem dX8_loadBetween_0 : decode cX8_loadBetween 0 = .ok (.iconst 0, 1) := by decide +kernel
theorem dX8_loadBetween_1 : decode cX8_loadBetween 1 = .ok (.istore 4, 2) := by decide +kernel
theorem dX8_loadBetween_3 : decode cX8_loadBetween 3 = .ok (.iload_n 2, 1) := by decide +kernel
theorem dX8_loadBetween_4 : decode cX8_loadBetween 4 = .ok (.istore 5, 2) := by decide +kernel
theorem dX8_loadBetween_6 : decode cX8_loadBetween 6 = .ok (.iload 5, 2) := by decide +kernel
theorem dX8_loadBetween_8 : decode cX8_loadBetween 8 = .ok (.iload_n 3, 1) := by decide +kernel
theorem dX8_loadBetween_9 : decode cX8_loadBetween 9 = .ok (.if_icmp .ge 24, 3) := by decide +kernel
theorem dX8_loadBetween_12 : decode cX8_loadBetween 12 = .ok (.aload_n 0, 1) := by decide +kernel
theorem dX8_loadBetween_13 : decode cX8_loadBetween 13 = .ok (.iload_n 1, 1) := by decide +kernel
theorem dX8_loadBetween_14 : decode cX8_loadBetween 14 = .ok (.iload 5, 2) := by decide +kernel
theorem dX8_loadBetween_16 : decode cX8_loadBetween 16 = .ok (.invokevirtual 55, 3) := by decide +kernel
theorem dX8_loadBetween_19 : decode cX8_loadBetween 19 = .ok (.bipush 124, 2) := by decide +kernel
theorem dX8_loadBetween_21 : decode cX8_loadBetween 21 = .ok (.if_icmp .eq 6, 3) := by decide +kernel
theorem dX8_loadBetween_24 : decode cX8_loadBetween 24 = .ok (.iinc 4 1, 3) := by decide +kernel
theorem dX8_loadBetween_27 : decode cX8_loadBetween 27 = .ok (.iinc 5 1, 3) := by decide +kernel
theorem dX8_loadBetween_30 : decode cX8_loadBetween 30 = .ok (.goto (-24), 3) := by decide +kernel
theorem dX8_loadBetween_33 : decode cX8_loadBetween 33 = .ok (.iload 4, 2) := by decide +kernel
theorem dX8_loadBetween_35 : decode cX8_loadBetween 35 = .ok (.ireturn, 1) := by decide +kernel
theorem dX8_longestLine_0 : decode cX8_longestLine 0 = .ok (.iconst 0, 1) := by decide +kernel
theorem dX8_longestLine_1 : decode cX8_longestLine 1 = .ok (.istore_n 2, 1) := by decide +kernel
theorem dX8_longestLine_2 : decode cX8_longestLine 2 = .ok (.iconst 0, 1) := by decide +kernel
theorem dX8_longestLine_3 : decode cX8_longestLine 3 = .ok (.istore_n 3, 1) := by decide +kernel
theorem dX8_longestLine_4 : decode cX8_longestLine 4 = .ok (.iconst 0, 1) := by decide +kernel
theorem dX8_longestLine_5 : decode cX8_longestLine 5 = .ok (.istore 4, 2) := by decide +kernel
theorem dX8_longestLine_7 : decode cX8_longestLine 7 = .ok (.iload 4, 2) := by decide +kernel
theorem dX8_longestLine_9 : decode cX8_longestLine 9 = .ok (.aload_n 0, 1) := by decide +kernel
theorem dX8_longestLine_10 : decode cX8_longestLine 10 = .ok (.iload_n 1, 1) := by decide +kernel
theorem dX8_longestLine_11 : decode cX8_longestLine 11 = .ok (.invokevirtual 48, 3) := by decide +kernel
theorem dX8_longestLine_14 : decode cX8_longestLine 14 = .ok (.if_icmp .ge 35, 3) := by decide +kernel
theorem dX8_longestLine_17 : decode cX8_longestLine 17 = .ok (.aload_n 0, 1) := by decide +kernel
theorem dX8_longestLine_18 : decode cX8_longestLine 18 = .ok (.iload_n 1, 1) := by decide +kernel
theorem dX8_longestLine_19 : decode cX8_longestLine 19 = .ok (.iload 4, 2) := by decide +kernel
theorem dX8_longestLine_21 : decode cX8_longestLine 21 = .ok (.invokevirtual 55, 3) := by decide +kernel
theorem dX8_longestLine_24 : decode cX8_longestLine 24 = .ok (.bipush 124, 2) := by decide +kernel
theorem dX8_longestLine_26 : decode cX8_longestLine 26 = .ok (.if_icmp .ne 7, 3) := by decide +kernel
theorem dX8_longestLine_29 : decode cX8_longestLine 29 = .ok (.iconst 0, 1) := by decide +kernel
theorem dX8_longestLine_30 : decode cX8_longestLine 30 = .ok (.goto 6, 3) := by decide +kernel
theorem dX8_longestLine_33 : decode cX8_longestLine 33 = .ok (.iload_n 3, 1) := by decide +kernel
theorem dX8_longestLine_34 : decode cX8_longestLine 34 = .ok (.iconst 1, 1) := by decide +kernel
theorem dX8_longestLine_35 : decode cX8_longestLine 35 = .ok (.iadd, 1) := by decide +kernel
theorem dX8_longestLine_36 : decode cX8_longestLine 36 = .ok (.istore_n 3, 1) := by decide +kernel
theorem dX8_longestLine_37 : decode cX8_longestLine 37 = .ok (.iload_n 2, 1) := by decide +kernel
theorem dX8_longestLine_38 : decode cX8_longestLine 38 = .ok (.iload_n 3, 1) := by decide +kernel
theorem dX8_longestLine_39 : decode cX8_longestLine 39 = .ok (.invokestatic 59, 3) := by decide +kernel
theorem dX8_longestLine_42 : decode cX8_longestLine 42 = .ok (.istore_n 2, 1) := by decide +kernel
theorem dX8_longestLine_43 : decode cX8_longestLine 43 = .ok (.iinc 4 1, 3) := by decide +kernel
theorem dX8_longestLine_46 : decode cX8_longestLine 46 = .ok (.goto (-39), 3) := by decide +kernel
theorem dX8_longestLine_49 : decode cX8_longestLine 49 = .ok (.iload_n 2, 1) := by decide +kernel
theorem dX8_longestLine_50 : decode cX8_longestLine 50 = .ok (.ireturn, 1) := by decide +kernel
theorem dX8_gapBefore_0 : decode cX8_gapBefore 0 = .ok (.aload_n 0, 1) := by decide +kernel
theorem dX8_gapBefore_1 : decode cX8_gapBefore 1 = .ok (.iload_n 1, 1) := by decide +kernel
theorem dX8_gapBefore_2 : decode cX8_gapBefore 2 = .ok (.iconst 1, 1) := by decide +kernel
theorem dX8_gapBefore_3 : decode cX8_gapBefore 3 = .ok (.isub, 1) := by decide +kernel
theorem dX8_gapBefore_4 : decode cX8_gapBefore 4 = .ok (.invokevirtual 37, 3) := by decide +kernel
theorem dX8_gapBefore_7 : decode cX8_gapBefore 7 = .ok (.ifCond .eq 19, 3) := by decide +kernel
theorem dX8_gapBefore_10 : decode cX8_gapBefore 10 = .ok (.aload_n 0, 1) := by decide +kernel
theorem dX8_gapBefore_11 : decode cX8_gapBefore 11 = .ok (.iload_n 1, 1) := by decide +kernel
theorem dX8_gapBefore_12 : decode cX8_gapBefore 12 = .ok (.invokevirtual 45, 3) := by decide +kernel
theorem dX8_gapBefore_15 : decode cX8_gapBefore 15 = .ok (.aload_n 0, 1) := by decide +kernel
theorem dX8_gapBefore_16 : decode cX8_gapBefore 16 = .ok (.iload_n 1, 1) := by decide +kernel
theorem dX8_gapBefore_17 : decode cX8_gapBefore 17 = .ok (.iconst 1, 1) := by decide +kernel
theorem dX8_gapBefore_18 : decode cX8_gapBefore 18 = .ok (.isub, 1) := by decide +kernel
theorem dX8_gapBefore_19 : decode cX8_gapBefore 19 = .ok (.invokevirtual 41, 3) := by decide +kernel
theorem dX8_gapBefore_22 : decode cX8_gapBefore 22 = .ok (.isub, 1) := by decide +kernel
theorem dX8_gapBefore_23 : decode cX8_gapBefore 23 = .ok (.goto 4, 3) := by decide +kernel
theorem dX8_gapBefore_26 : decode cX8_gapBefore 26 = .ok (.iconst (-1), 1) := by decide +kernel
theorem dX8_gapBefore_27 : decode cX8_gapBefore 27 = .ok (.ireturn, 1) := by decide +kernel
theorem dX8_shared_0 : decode cX8_shared 0 = .ok (.aload_n 0, 1) := by decide +kernel
theorem dX8_shared_1 : decode cX8_shared 1 = .ok (.iload_n 1, 1) := by decide +kernel
theorem dX8_shared_2 : decode cX8_shared 2 = .ok (.invokevirtual 37, 3) := by decide +kernel
theorem dX8_shared_5 : decode cX8_shared 5 = .ok (.ifCond .ne 5, 3) := by decide +kernel
theorem dX8_shared_8 : decode cX8_shared 8 = .ok (.iconst 0, 1) := by decide +kernel
theorem dX8_shared_9 : decode cX8_shared 9 = .ok (.ireturn, 1) := by decide +kernel
theorem dX8_shared_10 : decode cX8_shared 10 = .ok (.iconst 0, 1) := by decide +kernel
theorem dX8_shared_11 : decode cX8_shared 11 = .ok (.iload_n 3, 1) := by decide +kernel
theorem dX8_shared_12 : decode cX8_shared 12 = .ok (.aload_n 0, 1) := by decide +kernel
theorem dX8_shared_13 : decode cX8_shared 13 = .ok (.getfield 15, 3) := by decide +kernel
theorem dX8_shared_16 : decode cX8_shared 16 = .ok (.iload_n 1, 1) := by decide +kernel
theorem dX8_shared_17 : decode cX8_shared 17 = .ok (.iaload, 1) := by decide +kernel
theorem dX8_shared_18 : decode cX8_shared 18 = .ok (.invokestatic 64, 3) := by decide +kernel
theorem dX8_shared_21 : decode cX8_shared 21 = .ok (.iload_n 2, 1) := by decide +kernel
theorem dX8_shared_22 : decode cX8_shared 22 = .ok (.aload_n 0, 1) := by decide +kernel
theorem dX8_shared_23 : decode cX8_shared 23 = .ok (.getfield 9, 3) := by decide +kernel
theorem dX8_shared_26 : decode cX8_shared 26 = .ok (.iload_n 1, 1) := by decide +kernel
theorem dX8_shared_27 : decode cX8_shared 27 = .ok (.iaload, 1) := by decide +kernel
theorem dX8_shared_28 : decode cX8_shared 28 = .ok (.invokestatic 59, 3) := by decide +kernel
theorem dX8_shared_31 : decode cX8_shared 31 = .ok (.isub, 1) := by decide +kernel
theorem dX8_shared_32 : decode cX8_shared 32 = .ok (.invokestatic 59, 3) := by decide +kernel
theorem dX8_shared_35 : decode cX8_shared 35 = .ok (.ireturn, 1) := by decide +kernel
theorem dX8_sharesWithOthers_0 : decode cX8_sharesWithOthers 0 = .ok (.iconst 0, 1) := by decide +kernel
theorem dX8_sharesWithOthers_1 : decode cX8_sharesWithOthers 1 = .ok (.istore 4, 2) := by decide +kernel
theorem dX8_sharesWithOthers_3 : decode cX8_sharesWithOthers 3 = .ok (.iload 4, 2) := by decide +kernel
theorem dX8_sharesWithOthers_5 : decode cX8_sharesWithOthers 5 = .ok (.aload_n 0, 1) := by decide +kernel
theorem dX8_sharesWithOthers_6 : decode cX8_sharesWithOthers 6 = .ok (.getfield 27, 3) := by decide +kernel
theorem dX8_sharesWithOthers_9 : decode cX8_sharesWithOthers 9 = .ok (.if_icmp .ge 28, 3) := by decide +kernel
theorem dX8_sharesWithOthers_12 : decode cX8_sharesWithOthers 12 = .ok (.iload 4, 2) := by decide +kernel
theorem dX8_sharesWithOthers_14 : decode cX8_sharesWithOthers 14 = .ok (.iload_n 1, 1) := by decide +kernel
theorem dX8_sharesWithOthers_15 : decode cX8_sharesWithOthers 15 = .ok (.if_icmp .eq 16, 3) := by decide +kernel
theorem dX8_sharesWithOthers_18 : decode cX8_sharesWithOthers 18 = .ok (.aload_n 0, 1) := by decide +kernel
theorem dX8_sharesWithOthers_19 : decode cX8_sharesWithOthers 19 = .ok (.iload 4, 2) := by decide +kernel
theorem dX8_sharesWithOthers_21 : decode cX8_sharesWithOthers 21 = .ok (.iload_n 2, 1) := by decide +kernel
theorem dX8_sharesWithOthers_22 : decode cX8_sharesWithOthers 22 = .ok (.iload_n 3, 1) := by decide +kernel
theorem dX8_sharesWithOthers_23 : decode cX8_sharesWithOthers 23 = .ok (.invokevirtual 67, 3) := by decide +kernel
theorem dX8_sharesWithOthers_26 : decode cX8_sharesWithOthers 26 = .ok (.ifCond .le 5, 3) := by decide +kernel
theorem dX8_sharesWithOthers_29 : decode cX8_sharesWithOthers 29 = .ok (.iconst 1, 1) := by decide +kernel
theorem dX8_sharesWithOthers_30 : decode cX8_sharesWithOthers 30 = .ok (.ireturn, 1) := by decide +kernel
theorem dX8_sharesWithOthers_31 : decode cX8_sharesWithOthers 31 = .ok (.iinc 4 1, 3) := by decide +kernel
theorem dX8_sharesWithOthers_34 : decode cX8_sharesWithOthers 34 = .ok (.goto (-31), 3) := by decide +kernel
theorem dX8_sharesWithOthers_37 : decode cX8_sharesWithOthers 37 = .ok (.iconst 0, 1) := by decide +kernel
theorem dX8_sharesWithOthers_38 : decode cX8_sharesWithOthers 38 = .ok (.ireturn, 1) := by decide +kernel
theorem dX8_captionOn_0 : decode cX8_captionOn 0 = .ok (.iconst 0, 1) := by decide +kernel
theorem dX8_captionOn_1 : decode cX8_captionOn 1 = .ok (.istore_n 2, 1) := by decide +kernel
theorem dX8_captionOn_2 : decode cX8_captionOn 2 = .ok (.iload_n 2, 1) := by decide +kernel
theorem dX8_captionOn_3 : decode cX8_captionOn 3 = .ok (.aload_n 0, 1) := by decide +kernel
theorem dX8_captionOn_4 : decode cX8_captionOn 4 = .ok (.getfield 27, 3) := by decide +kernel
theorem dX8_captionOn_7 : decode cX8_captionOn 7 = .ok (.if_icmp .ge 29, 3) := by decide +kernel
theorem dX8_captionOn_10 : decode cX8_captionOn 10 = .ok (.aload_n 0, 1) := by decide +kernel
theorem dX8_captionOn_11 : decode cX8_captionOn 11 = .ok (.iload_n 2, 1) := by decide +kernel
theorem dX8_captionOn_12 : decode cX8_captionOn 12 = .ok (.invokevirtual 45, 3) := by decide +kernel
theorem dX8_captionOn_15 : decode cX8_captionOn 15 = .ok (.iload_n 1, 1) := by decide +kernel
theorem dX8_captionOn_16 : decode cX8_captionOn 16 = .ok (.if_icmp .gt 14, 3) := by decide +kernel
theorem dX8_captionOn_19 : decode cX8_captionOn 19 = .ok (.iload_n 1, 1) := by decide +kernel
theorem dX8_captionOn_20 : decode cX8_captionOn 20 = .ok (.aload_n 0, 1) := by decide +kernel
theorem dX8_captionOn_21 : decode cX8_captionOn 21 = .ok (.iload_n 2, 1) := by decide +kernel
theorem dX8_captionOn_22 : decode cX8_captionOn 22 = .ok (.invokevirtual 41, 3) := by decide +kernel
theorem dX8_captionOn_25 : decode cX8_captionOn 25 = .ok (.if_icmp .ge 5, 3) := by decide +kernel
theorem dX8_captionOn_28 : decode cX8_captionOn 28 = .ok (.iload_n 2, 1) := by decide +kernel
theorem dX8_captionOn_29 : decode cX8_captionOn 29 = .ok (.ireturn, 1) := by decide +kernel
theorem dX8_captionOn_30 : decode cX8_captionOn 30 = .ok (.iinc 2 1, 3) := by decide +kernel
theorem dX8_captionOn_33 : decode cX8_captionOn 33 = .ok (.goto (-31), 3) := by decide +kernel
theorem dX8_captionOn_36 : decode cX8_captionOn 36 = .ok (.iconst (-1), 1) := by decide +kernel
theorem dX8_captionOn_37 : decode cX8_captionOn 37 = .ok (.ireturn, 1) := by decide +kernel
theorem dX8_allFrames_0 : decode cX8_allFrames 0 = .ok (.iconst 0, 1) := by decide +kernel
theorem dX8_allFrames_1 : decode cX8_allFrames 1 = .ok (.istore_n 1, 1) := by decide +kernel
theorem dX8_allFrames_2 : decode cX8_allFrames 2 = .ok (.iconst 0, 1) := by decide +kernel
theorem dX8_allFrames_3 : decode cX8_allFrames 3 = .ok (.istore_n 2, 1) := by decide +kernel
theorem dX8_allFrames_4 : decode cX8_allFrames 4 = .ok (.iload_n 2, 1) := by decide +kernel
theorem dX8_allFrames_5 : decode cX8_allFrames 5 = .ok (.aload_n 0, 1) := by decide +kernel
theorem dX8_allFrames_6 : decode cX8_allFrames 6 = .ok (.getfield 27, 3) := by decide +kernel
theorem dX8_allFrames_9 : decode cX8_allFrames 9 = .ok (.if_icmp .ge 17, 3) := by decide +kernel
theorem dX8_allFrames_12 : decode cX8_allFrames 12 = .ok (.iload_n 1, 1) := by decide +kernel
theorem dX8_allFrames_13 : decode cX8_allFrames 13 = .ok (.aload_n 0, 1) := by decide +kernel
theorem dX8_allFrames_14 : decode cX8_allFrames 14 = .ok (.iload_n 2, 1) := by decide +kernel
theorem dX8_allFrames_15 : decode cX8_allFrames 15 = .ok (.invokevirtual 70, 3) := by decide +kernel
theorem dX8_allFrames_18 : decode cX8_allFrames 18 = .ok (.iadd, 1) := by decide +kernel
theorem dX8_allFrames_19 : decode cX8_allFrames 19 = .ok (.istore_n 1, 1) := by decide +kernel
theorem dX8_allFrames_20 : decode cX8_allFrames 20 = .ok (.iinc 2 1, 3) := by decide +kernel
theorem dX8_allFrames_23 : decode cX8_allFrames 23 = .ok (.goto (-19), 3) := by decide +kernel
theorem dX8_allFrames_26 : decode cX8_allFrames 26 = .ok (.iload_n 1, 1) := by decide +kernel
theorem dX8_allFrames_27 : decode cX8_allFrames 27 = .ok (.ireturn, 1) := by decide +kernel
theorem dX8_allLoad_0 : decode cX8_allLoad 0 = .ok (.iconst 0, 1) := by decide +kernel
theorem dX8_allLoad_1 : decode cX8_allLoad 1 = .ok (.istore_n 1, 1) := by decide +kernel
theorem dX8_allLoad_2 : decode cX8_allLoad 2 = .ok (.iconst 0, 1) := by decide +kernel
theorem dX8_allLoad_3 : decode cX8_allLoad 3 = .ok (.istore_n 2, 1) := by decide +kernel
theorem dX8_allLoad_4 : decode cX8_allLoad 4 = .ok (.iload_n 2, 1) := by decide +kernel
theorem dX8_allLoad_5 : decode cX8_allLoad 5 = .ok (.aload_n 0, 1) := by decide +kernel
theorem dX8_allLoad_6 : decode cX8_allLoad 6 = .ok (.getfield 27, 3) := by decide +kernel
theorem dX8_allLoad_9 : decode cX8_allLoad 9 = .ok (.if_icmp .ge 17, 3) := by decide +kernel
theorem dX8_allLoad_12 : decode cX8_allLoad 12 = .ok (.iload_n 1, 1) := by decide +kernel
theorem dX8_allLoad_13 : decode cX8_allLoad 13 = .ok (.aload_n 0, 1) := by decide +kernel
theorem dX8_allLoad_14 : decode cX8_allLoad 14 = .ok (.iload_n 2, 1) := by decide +kernel
theorem dX8_allLoad_15 : decode cX8_allLoad 15 = .ok (.invokevirtual 73, 3) := by decide +kernel
theorem dX8_allLoad_18 : decode cX8_allLoad 18 = .ok (.iadd, 1) := by decide +kernel
theorem dX8_allLoad_19 : decode cX8_allLoad 19 = .ok (.istore_n 1, 1) := by decide +kernel
theorem dX8_allLoad_20 : decode cX8_allLoad 20 = .ok (.iinc 2 1, 3) := by decide +kernel
theorem dX8_allLoad_23 : decode cX8_allLoad 23 = .ok (.goto (-19), 3) := by decide +kernel
theorem dX8_allLoad_26 : decode cX8_allLoad 26 = .ok (.iload_n 1, 1) := by decide +kernel
theorem dX8_allLoad_27 : decode cX8_allLoad 27 = .ok (.ireturn, 1) := by decide +kernel
theorem dX8_densest_0 : decode cX8_densest 0 = .ok (.iconst (-1), 1) := by decide +kernel
theorem dX8_densest_1 : decode cX8_densest 1 = .ok (.istore_n 1, 1) := by decide +kernel
theorem dX8_densest_2 : decode cX8_densest 2 = .ok (.iconst 0, 1) := by decide +kernel
theorem dX8_densest_3 : decode cX8_densest 3 = .ok (.istore_n 2, 1) := by decide +kernel
theorem dX8_densest_4 : decode cX8_densest 4 = .ok (.iload_n 2, 1) := by decide +kernel
theorem dX8_densest_5 : decode cX8_densest 5 = .ok (.aload_n 0, 1) := by decide +kernel
theorem dX8_densest_6 : decode cX8_densest 6 = .ok (.getfield 27, 3) := by decide +kernel
theorem dX8_densest_9 : decode cX8_densest 9 = .ok (.if_icmp .ge 41, 3) := by decide +kernel
theorem dX8_densest_12 : decode cX8_densest 12 = .ok (.iload_n 1, 1) := by decide +kernel
theorem dX8_densest_13 : decode cX8_densest 13 = .ok (.iconst (-1), 1) := by decide +kernel
theorem dX8_densest_14 : decode cX8_densest 14 = .ok (.if_icmp .eq 28, 3) := by decide +kernel
theorem dX8_densest_17 : decode cX8_densest 17 = .ok (.aload_n 0, 1) := by decide +kernel
theorem dX8_densest_18 : decode cX8_densest 18 = .ok (.iload_n 2, 1) := by decide +kernel
theorem dX8_densest_19 : decode cX8_densest 19 = .ok (.invokevirtual 73, 3) := by decide +kernel
theorem dX8_densest_22 : decode cX8_densest 22 = .ok (.aload_n 0, 1) := by decide +kernel
theorem dX8_densest_23 : decode cX8_densest 23 = .ok (.iload_n 1, 1) := by decide +kernel
theorem dX8_densest_24 : decode cX8_densest 24 = .ok (.invokevirtual 70, 3) := by decide +kernel
theorem dX8_densest_27 : decode cX8_densest 27 = .ok (.imul, 1) := by decide +kernel
theorem dX8_densest_28 : decode cX8_densest 28 = .ok (.aload_n 0, 1) := by decide +kernel
theorem dX8_densest_29 : decode cX8_densest 29 = .ok (.iload_n 1, 1) := by decide +kernel
theorem dX8_densest_30 : decode cX8_densest 30 = .ok (.invokevirtual 73, 3) := by decide +kernel
theorem dX8_densest_33 : decode cX8_densest 33 = .ok (.aload_n 0, 1) := by decide +kernel
theorem dX8_densest_34 : decode cX8_densest 34 = .ok (.iload_n 2, 1) := by decide +kernel
theorem dX8_densest_35 : decode cX8_densest 35 = .ok (.invokevirtual 70, 3) := by decide +kernel
theorem dX8_densest_38 : decode cX8_densest 38 = .ok (.imul, 1) := by decide +kernel
theorem dX8_densest_39 : decode cX8_densest 39 = .ok (.if_icmp .le 5, 3) := by decide +kernel
theorem dX8_densest_42 : decode cX8_densest 42 = .ok (.iload_n 2, 1) := by decide +kernel
theorem dX8_densest_43 : decode cX8_densest 43 = .ok (.istore_n 1, 1) := by decide +kernel
theorem dX8_densest_44 : decode cX8_densest 44 = .ok (.iinc 2 1, 3) := by decide +kernel
theorem dX8_densest_47 : decode cX8_densest 47 = .ok (.goto (-43), 3) := by decide +kernel
theorem dX8_densest_50 : decode cX8_densest 50 = .ok (.iload_n 1, 1) := by decide +kernel
theorem dX8_densest_51 : decode cX8_densest 51 = .ok (.ireturn, 1) := by decide +kernel
theorem dX8_appendTextTo_0 : decode cX8_appendTextTo 0 = .ok (.iload_n 3, 1) := by decide +kernel
theorem dX8_appendTextTo_1 : decode cX8_appendTextTo 1 = .ok (.istore 5, 2) := by decide +kernel
theorem dX8_appendTextTo_3 : decode cX8_appendTextTo 3 = .ok (.iload 5, 2) := by decide +kernel
theorem dX8_appendTextTo_5 : decode cX8_appendTextTo 5 = .ok (.iload 4, 2) := by decide +kernel
theorem dX8_appendTextTo_7 : decode cX8_appendTextTo 7 = .ok (.if_icmp .ge 31, 3) := by decide +kernel
theorem dX8_appendTextTo_10 : decode cX8_appendTextTo 10 = .ok (.aload_n 0, 1) := by decide +kernel
theorem dX8_appendTextTo_11 : decode cX8_appendTextTo 11 = .ok (.iload_n 2, 1) := by decide +kernel
theorem dX8_appendTextTo_12 : decode cX8_appendTextTo 12 = .ok (.iload 5, 2) := by decide +kernel
theorem dX8_appendTextTo_14 : decode cX8_appendTextTo 14 = .ok (.invokevirtual 55, 3) := by decide +kernel
theorem dX8_appendTextTo_17 : decode cX8_appendTextTo 17 = .ok (.istore 6, 2) := by decide +kernel
theorem dX8_appendTextTo_19 : decode cX8_appendTextTo 19 = .ok (.iload 6, 2) := by decide +kernel
theorem dX8_appendTextTo_21 : decode cX8_appendTextTo 21 = .ok (.iconst (-1), 1) := by decide +kernel
theorem dX8_appendTextTo_22 : decode cX8_appendTextTo 22 = .ok (.if_icmp .eq 10, 3) := by decide +kernel
theorem dX8_appendTextTo_25 : decode cX8_appendTextTo 25 = .ok (.aload_n 1, 1) := by decide +kernel
theorem dX8_appendTextTo_26 : decode cX8_appendTextTo 26 = .ok (.iload 6, 2) := by decide +kernel
theorem dX8_appendTextTo_28 : decode cX8_appendTextTo 28 = .ok (.invokevirtual 76, 3) := by decide +kernel
theorem dX8_appendTextTo_31 : decode cX8_appendTextTo 31 = .ok (.pop, 1) := by decide +kernel
theorem dX8_appendTextTo_32 : decode cX8_appendTextTo 32 = .ok (.iinc 5 1, 3) := by decide +kernel
theorem dX8_appendTextTo_35 : decode cX8_appendTextTo 35 = .ok (.goto (-32), 3) := by decide +kernel
theorem dX8_appendTextTo_38 : decode cX8_appendTextTo 38 = .ok (.return_, 1) := by decide +kernel
theorem dX8_setFrames_0 : decode cX8_setFrames 0 = .ok (.aload_n 0, 1) := by decide +kernel
theorem dX8_setFrames_1 : decode cX8_setFrames 1 = .ok (.iload_n 1, 1) := by decide +kernel
theorem dX8_setFrames_2 : decode cX8_setFrames 2 = .ok (.invokevirtual 37, 3) := by decide +kernel
theorem dX8_setFrames_5 : decode cX8_setFrames 5 = .ok (.ifCond .eq 17, 3) := by decide +kernel
theorem dX8_setFrames_8 : decode cX8_setFrames 8 = .ok (.aload_n 0, 1) := by decide +kernel
theorem dX8_setFrames_9 : decode cX8_setFrames 9 = .ok (.getfield 9, 3) := by decide +kernel
theorem dX8_setFrames_12 : decode cX8_setFrames 12 = .ok (.iload_n 1, 1) := by decide +kernel
theorem dX8_setFrames_13 : decode cX8_setFrames 13 = .ok (.iload_n 2, 1) := by decide +kernel
theorem dX8_setFrames_14 : decode cX8_setFrames 14 = .ok (.iastore, 1) := by decide +kernel
theorem dX8_setFrames_15 : decode cX8_setFrames 15 = .ok (.aload_n 0, 1) := by decide +kernel
theorem dX8_setFrames_16 : decode cX8_setFrames 16 = .ok (.getfield 15, 3) := by decide +kernel
theorem dX8_setFrames_19 : decode cX8_setFrames 19 = .ok (.iload_n 1, 1) := by decide +kernel
theorem dX8_setFrames_20 : decode cX8_setFrames 20 = .ok (.iload_n 3, 1) := by decide +kernel
theorem dX8_setFrames_21 : decode cX8_setFrames 21 = .ok (.iastore, 1) := by decide +kernel
theorem dX8_setFrames_22 : decode cX8_setFrames 22 = .ok (.return_, 1) := by decide +kernel
theorem dX8_setText_0 : decode cX8_setText 0 = .ok (.aload_n 0, 1) := by decide +kernel
theorem dX8_setText_1 : decode cX8_setText 1 = .ok (.iload_n 1, 1) := by decide +kernel
theorem dX8_setText_2 : decode cX8_setText 2 = .ok (.invokevirtual 37, 3) := by decide +kernel
theorem dX8_setText_5 : decode cX8_setText 5 = .ok (.ifCond .ne 4, 3) := by decide +kernel
theorem dX8_setText_8 : decode cX8_setText 8 = .ok (.return_, 1) := by decide +kernel
theorem dX8_setText_9 : decode cX8_setText 9 = .ok (.aload_n 0, 1) := by decide +kernel
theorem dX8_setText_10 : decode cX8_setText 10 = .ok (.getfield 21, 3) := by decide +kernel
theorem dX8_setText_13 : decode cX8_setText 13 = .ok (.iload_n 1, 1) := by decide +kernel
theorem dX8_setText_14 : decode cX8_setText 14 = .ok (.aload_n 2, 1) := by decide +kernel
theorem dX8_setText_15 : decode cX8_setText 15 = .ok (.getfield 81, 3) := by decide +kernel
theorem dX8_setText_18 : decode cX8_setText 18 = .ok (.bipush 24, 2) := by decide +kernel
theorem dX8_setText_20 : decode cX8_setText 20 = .ok (.invokestatic 64, 3) := by decide +kernel
theorem dX8_setText_23 : decode cX8_setText 23 = .ok (.iastore, 1) := by decide +kernel
theorem dX8_setText_24 : decode cX8_setText 24 = .ok (.iconst 0, 1) := by decide +kernel
theorem dX8_setText_25 : decode cX8_setText 25 = .ok (.istore_n 3, 1) := by decide +kernel
theorem dX8_setText_26 : decode cX8_setText 26 = .ok (.iload_n 3, 1) := by decide +kernel
theorem dX8_setText_27 : decode cX8_setText 27 = .ok (.aload_n 0, 1) := by decide +kernel
theorem dX8_setText_28 : decode cX8_setText 28 = .ok (.getfield 21, 3) := by decide +kernel
theorem dX8_setText_31 : decode cX8_setText 31 = .ok (.iload_n 1, 1) := by decide +kernel
theorem dX8_setText_32 : decode cX8_setText 32 = .ok (.iaload, 1) := by decide +kernel
theorem dX8_setText_33 : decode cX8_setText 33 = .ok (.if_icmp .ge 31, 3) := by decide +kernel
theorem dX8_setText_36 : decode cX8_setText 36 = .ok (.iload_n 3, 1) := by decide +kernel
theorem dX8_setText_37 : decode cX8_setText 37 = .ok (.bipush 24, 2) := by decide +kernel
theorem dX8_setText_39 : decode cX8_setText 39 = .ok (.if_icmp .ge 25, 3) := by decide +kernel
theorem dX8_setText_42 : decode cX8_setText 42 = .ok (.aload_n 0, 1) := by decide +kernel
theorem dX8_setText_43 : decode cX8_setText 43 = .ok (.getfield 24, 3) := by decide +kernel
theorem dX8_setText_46 : decode cX8_setText 46 = .ok (.iload_n 1, 1) := by decide +kernel
theorem dX8_setText_47 : decode cX8_setText 47 = .ok (.bipush 24, 2) := by decide +kernel
theorem dX8_setText_49 : decode cX8_setText 49 = .ok (.imul, 1) := by decide +kernel
theorem dX8_setText_50 : decode cX8_setText 50 = .ok (.iload_n 3, 1) := by decide +kernel
theorem dX8_setText_51 : decode cX8_setText 51 = .ok (.iadd, 1) := by decide +kernel
theorem dX8_setText_52 : decode cX8_setText 52 = .ok (.aload_n 2, 1) := by decide +kernel
theorem dX8_setText_53 : decode cX8_setText 53 = .ok (.iload_n 3, 1) := by decide +kernel
theorem dX8_setText_54 : decode cX8_setText 54 = .ok (.invokevirtual 83, 3) := by decide +kernel
theorem dX8_setText_57 : decode cX8_setText 57 = .ok (.iastore, 1) := by decide +kernel
theorem dX8_setText_58 : decode cX8_setText 58 = .ok (.iinc 3 1, 3) := by decide +kernel
theorem dX8_setText_61 : decode cX8_setText 61 = .ok (.goto (-35), 3) := by decide +kernel
theorem dX8_setText_64 : decode cX8_setText 64 = .ok (.return_, 1) := by decide +kernel
theorem dX8_insertCaption_0 : decode cX8_insertCaption 0 = .ok (.iconst 0, 1) := by decide +kernel
theorem dX8_insertCaption_1 : decode cX8_insertCaption 1 = .ok (.istore 5, 2) := by decide +kernel
theorem dX8_insertCaption_3 : decode cX8_insertCaption 3 = .ok (.iload 5, 2) := by decide +kernel
theorem dX8_insertCaption_5 : decode cX8_insertCaption 5 = .ok (.aload_n 0, 1) := by decide +kernel
theorem dX8_insertCaption_6 : decode cX8_insertCaption 6 = .ok (.getfield 27, 3) := by decide +kernel
theorem dX8_insertCaption_9 : decode cX8_insertCaption 9 = .ok (.if_icmp .ge 19, 3) := by decide +kernel
theorem dX8_insertCaption_12 : decode cX8_insertCaption 12 = .ok (.aload_n 0, 1) := by decide +kernel
theorem dX8_insertCaption_13 : decode cX8_insertCaption 13 = .ok (.iload 5, 2) := by decide +kernel
theorem dX8_insertCaption_15 : decode cX8_insertCaption 15 = .ok (.invokevirtual 45, 3) := by decide +kernel
theorem dX8_insertCaption_18 : decode cX8_insertCaption 18 = .ok (.iload_n 2, 1) := by decide +kernel
theorem dX8_insertCaption_19 : decode cX8_insertCaption 19 = .ok (.if_icmp .ge 9, 3) := by decide +kernel
theorem dX8_insertCaption_22 : decode cX8_insertCaption 22 = .ok (.iinc 5 1, 3) := by decide +kernel
theorem dX8_insertCaption_25 : decode cX8_insertCaption 25 = .ok (.goto (-22), 3) := by decide +kernel
theorem dX8_insertCaption_28 : decode cX8_insertCaption 28 = .ok (.iload 5, 2) := by decide +kernel
theorem dX8_insertCaption_30 : decode cX8_insertCaption 30 = .ok (.invokestatic 85, 3) := by decide +kernel
theorem dX8_insertCaption_33 : decode cX8_insertCaption 33 = .ok (.ifCond .eq 13, 3) := by decide +kernel
theorem dX8_insertCaption_36 : decode cX8_insertCaption 36 = .ok (.aload_n 0, 1) := by decide +kernel
theorem dX8_insertCaption_37 : decode cX8_insertCaption 37 = .ok (.getfield 27, 3) := by decide +kernel
theorem dX8_insertCaption_40 : decode cX8_insertCaption 40 = .ok (.invokestatic 85, 3) := by decide +kernel
theorem dX8_insertCaption_43 : decode cX8_insertCaption 43 = .ok (.ifCond .ne 5, 3) := by decide +kernel
theorem dX8_insertCaption_46 : decode cX8_insertCaption 46 = .ok (.iconst (-1), 1) := by decide +kernel
theorem dX8_insertCaption_47 : decode cX8_insertCaption 47 = .ok (.ireturn, 1) := by decide +kernel
theorem dX8_insertCaption_48 : decode cX8_insertCaption 48 = .ok (.aload_n 0, 1) := by decide +kernel
theorem dX8_insertCaption_49 : decode cX8_insertCaption 49 = .ok (.getfield 27, 3) := by decide +kernel
theorem dX8_insertCaption_52 : decode cX8_insertCaption 52 = .ok (.istore 6, 2) := by decide +kernel
theorem dX8_insertCaption_54 : decode cX8_insertCaption 54 = .ok (.iload 6, 2) := by decide +kernel
theorem dX8_insertCaption_56 : decode cX8_insertCaption 56 = .ok (.iload 5, 2) := by decide +kernel
theorem dX8_insertCaption_58 : decode cX8_insertCaption 58 = .ok (.if_icmp .le 19, 3) := by decide +kernel
theorem dX8_insertCaption_61 : decode cX8_insertCaption 61 = .ok (.aload_n 0, 1) := by decide +kernel
theorem dX8_insertCaption_62 : decode cX8_insertCaption 62 = .ok (.iload 6, 2) := by decide +kernel
theorem dX8_insertCaption_64 : decode cX8_insertCaption 64 = .ok (.iconst 1, 1) := by decide +kernel
theorem dX8_insertCaption_65 : decode cX8_insertCaption 65 = .ok (.isub, 1) := by decide +kernel
theorem dX8_insertCaption_66 : decode cX8_insertCaption 66 = .ok (.iload 6, 2) := by decide +kernel
theorem dX8_insertCaption_68 : decode cX8_insertCaption 68 = .ok (.invokevirtual 88, 3) := by decide +kernel
theorem dX8_insertCaption_71 : decode cX8_insertCaption 71 = .ok (.iinc 6 (-1), 3) := by decide +kernel
theorem dX8_insertCaption_74 : decode cX8_insertCaption 74 = .ok (.goto (-20), 3) := by decide +kernel
theorem dX8_insertCaption_77 : decode cX8_insertCaption 77 = .ok (.aload_n 0, 1) := by decide +kernel
theorem dX8_insertCaption_78 : decode cX8_insertCaption 78 = .ok (.dup, 1) := by decide +kernel
theorem dX8_insertCaption_79 : decode cX8_insertCaption 79 = .ok (.getfield 27, 3) := by decide +kernel
theorem dX8_insertCaption_82 : decode cX8_insertCaption 82 = .ok (.iconst 1, 1) := by decide +kernel
theorem dX8_insertCaption_83 : decode cX8_insertCaption 83 = .ok (.iadd, 1) := by decide +kernel
theorem dX8_insertCaption_84 : decode cX8_insertCaption 84 = .ok (.putfield 27, 3) := by decide +kernel
theorem dX8_insertCaption_87 : decode cX8_insertCaption 87 = .ok (.aload_n 0, 1) := by decide +kernel
theorem dX8_insertCaption_88 : decode cX8_insertCaption 88 = .ok (.getfield 18, 3) := by decide +kernel
theorem dX8_insertCaption_91 : decode cX8_insertCaption 91 = .ok (.iload 5, 2) := by decide +kernel
theorem dX8_insertCaption_93 : decode cX8_insertCaption 93 = .ok (.iload_n 1, 1) := by decide +kernel
theorem dX8_insertCaption_94 : decode cX8_insertCaption 94 = .ok (.iastore, 1) := by decide +kernel
theorem dX8_insertCaption_95 : decode cX8_insertCaption 95 = .ok (.aload_n 0, 1) := by decide +kernel
theorem dX8_insertCaption_96 : decode cX8_insertCaption 96 = .ok (.iload 5, 2) := by decide +kernel
theorem dX8_insertCaption_98 : decode cX8_insertCaption 98 = .ok (.iload_n 2, 1) := by decide +kernel
theorem dX8_insertCaption_99 : decode cX8_insertCaption 99 = .ok (.iload_n 3, 1) := by decide +kernel
theorem dX8_insertCaption_100 : decode cX8_insertCaption 100 = .ok (.invokevirtual 92, 3) := by decide +kernel
theorem dX8_insertCaption_103 : decode cX8_insertCaption 103 = .ok (.aload_n 0, 1) := by decide +kernel
theorem dX8_insertCaption_104 : decode cX8_insertCaption 104 = .ok (.iload 5, 2) := by decide +kernel
theorem dX8_insertCaption_106 : decode cX8_insertCaption 106 = .ok (.aload 4, 2) := by decide +kernel
theorem dX8_insertCaption_108 : decode cX8_insertCaption 108 = .ok (.invokevirtual 96, 3) := by decide +kernel
theorem dX8_insertCaption_111 : decode cX8_insertCaption 111 = .ok (.iload 5, 2) := by decide +kernel
theorem dX8_insertCaption_113 : decode cX8_insertCaption 113 = .ok (.ireturn, 1) := by decide +kernel
theorem dX8_closeRow_0 : decode cX8_closeRow 0 = .ok (.aload_n 0, 1) := by decide +kernel
theorem dX8_closeRow_1 : decode cX8_closeRow 1 = .ok (.iload_n 1, 1) := by decide +kernel
theorem dX8_closeRow_2 : decode cX8_closeRow 2 = .ok (.invokevirtual 37, 3) := by decide +kernel
theorem dX8_closeRow_5 : decode cX8_closeRow 5 = .ok (.ifCond .ne 4, 3) := by decide +kernel
theorem dX8_closeRow_8 : decode cX8_closeRow 8 = .ok (.return_, 1) := by decide +kernel
theorem dX8_closeRow_9 : decode cX8_closeRow 9 = .ok (.iload_n 1, 1) := by decide +kernel
theorem dX8_closeRow_10 : decode cX8_closeRow 10 = .ok (.iconst 1, 1) := by decide +kernel
theorem dX8_closeRow_11 : decode cX8_closeRow 11 = .ok (.iadd, 1) := by decide +kernel
theorem dX8_closeRow_12 : decode cX8_closeRow 12 = .ok (.istore_n 2, 1) := by decide +kernel
theorem dX8_closeRow_13 : decode cX8_closeRow 13 = .ok (.iload_n 2, 1) := by decide +kernel
theorem dX8_closeRow_14 : decode cX8_closeRow 14 = .ok (.aload_n 0, 1) := by decide +kernel
theorem dX8_closeRow_15 : decode cX8_closeRow 15 = .ok (.getfield 27, 3) := by decide +kernel
theorem dX8_closeRow_18 : decode cX8_closeRow 18 = .ok (.if_icmp .ge 17, 3) := by decide +kernel
theorem dX8_closeRow_21 : decode cX8_closeRow 21 = .ok (.aload_n 0, 1) := by decide +kernel
theorem dX8_closeRow_22 : decode cX8_closeRow 22 = .ok (.iload_n 2, 1) := by decide +kernel
theorem dX8_closeRow_23 : decode cX8_closeRow 23 = .ok (.iload_n 2, 1) := by decide +kernel
theorem dX8_closeRow_24 : decode cX8_closeRow 24 = .ok (.iconst 1, 1) := by decide +kernel
theorem dX8_closeRow_25 : decode cX8_closeRow 25 = .ok (.isub, 1) := by decide +kernel
theorem dX8_closeRow_26 : decode cX8_closeRow 26 = .ok (.invokevirtual 88, 3) := by decide +kernel
theorem dX8_closeRow_29 : decode cX8_closeRow 29 = .ok (.iinc 2 1, 3) := by decide +kernel
theorem dX8_closeRow_32 : decode cX8_closeRow 32 = .ok (.goto (-19), 3) := by decide +kernel
theorem dX8_closeRow_35 : decode cX8_closeRow 35 = .ok (.aload_n 0, 1) := by decide +kernel
theorem dX8_closeRow_36 : decode cX8_closeRow 36 = .ok (.dup, 1) := by decide +kernel
theorem dX8_closeRow_37 : decode cX8_closeRow 37 = .ok (.getfield 27, 3) := by decide +kernel
theorem dX8_closeRow_40 : decode cX8_closeRow 40 = .ok (.iconst 1, 1) := by decide +kernel
theorem dX8_closeRow_41 : decode cX8_closeRow 41 = .ok (.isub, 1) := by decide +kernel
theorem dX8_closeRow_42 : decode cX8_closeRow 42 = .ok (.putfield 27, 3) := by decide +kernel
theorem dX8_closeRow_45 : decode cX8_closeRow 45 = .ok (.return_, 1) := by decide +kernel
theorem dX8_copyRow_0 : decode cX8_copyRow 0 = .ok (.iload_n 1, 1) := by decide +kernel
theorem dX8_copyRow_1 : decode cX8_copyRow 1 = .ok (.invokestatic 85, 3) := by decide +kernel
theorem dX8_copyRow_4 : decode cX8_copyRow 4 = .ok (.ifCond .eq 10, 3) := by decide +kernel
theorem dX8_copyRow_7 : decode cX8_copyRow 7 = .ok (.iload_n 2, 1) := by decide +kernel
theorem dX8_copyRow_8 : decode cX8_copyRow 8 = .ok (.invokestatic 85, 3) := by decide +kernel
theorem dX8_copyRow_11 : decode cX8_copyRow 11 = .ok (.ifCond .ne 4, 3) := by decide +kernel
theorem dX8_copyRow_14 : decode cX8_copyRow 14 = .ok (.return_, 1) := by decide +kernel
theorem dX8_copyRow_15 : decode cX8_copyRow 15 = .ok (.aload_n 0, 1) := by decide +kernel
theorem dX8_copyRow_16 : decode cX8_copyRow 16 = .ok (.getfield 9, 3) := by decide +kernel
theorem dX8_copyRow_19 : decode cX8_copyRow 19 = .ok (.iload_n 2, 1) := by decide +kernel
theorem dX8_copyRow_20 : decode cX8_copyRow 20 = .ok (.aload_n 0, 1) := by decide +kernel
theorem dX8_copyRow_21 : decode cX8_copyRow 21 = .ok (.getfield 9, 3) := by decide +kernel
theorem dX8_copyRow_24 : decode cX8_copyRow 24 = .ok (.iload_n 1, 1) := by decide +kernel
theorem dX8_copyRow_25 : decode cX8_copyRow 25 = .ok (.iaload, 1) := by decide +kernel
theorem dX8_copyRow_26 : decode cX8_copyRow 26 = .ok (.iastore, 1) := by decide +kernel
theorem dX8_copyRow_27 : decode cX8_copyRow 27 = .ok (.aload_n 0, 1) := by decide +kernel
theorem dX8_copyRow_28 : decode cX8_copyRow 28 = .ok (.getfield 15, 3) := by decide +kernel
theorem dX8_copyRow_31 : decode cX8_copyRow 31 = .ok (.iload_n 2, 1) := by decide +kernel
theorem dX8_copyRow_32 : decode cX8_copyRow 32 = .ok (.aload_n 0, 1) := by decide +kernel
theorem dX8_copyRow_33 : decode cX8_copyRow 33 = .ok (.getfield 15, 3) := by decide +kernel
theorem dX8_copyRow_36 : decode cX8_copyRow 36 = .ok (.iload_n 1, 1) := by decide +kernel
theorem dX8_copyRow_37 : decode cX8_copyRow 37 = .ok (.iaload, 1) := by decide +kernel
theorem dX8_copyRow_38 : decode cX8_copyRow 38 = .ok (.iastore, 1) := by decide +kernel
theorem dX8_copyRow_39 : decode cX8_copyRow 39 = .ok (.aload_n 0, 1) := by decide +kernel
theorem dX8_copyRow_40 : decode cX8_copyRow 40 = .ok (.getfield 18, 3) := by decide +kernel
theorem dX8_copyRow_43 : decode cX8_copyRow 43 = .ok (.iload_n 2, 1) := by decide +kernel
theorem dX8_copyRow_44 : decode cX8_copyRow 44 = .ok (.aload_n 0, 1) := by decide +kernel
theorem dX8_copyRow_45 : decode cX8_copyRow 45 = .ok (.getfield 18, 3) := by decide +kernel
theorem dX8_copyRow_48 : decode cX8_copyRow 48 = .ok (.iload_n 1, 1) := by decide +kernel
theorem dX8_copyRow_49 : decode cX8_copyRow 49 = .ok (.iaload, 1) := by decide +kernel
theorem dX8_copyRow_50 : decode cX8_copyRow 50 = .ok (.iastore, 1) := by decide +kernel
theorem dX8_copyRow_51 : decode cX8_copyRow 51 = .ok (.aload_n 0, 1) := by decide +kernel
theorem dX8_copyRow_52 : decode cX8_copyRow 52 = .ok (.getfield 21, 3) := by decide +kernel
theorem dX8_copyRow_55 : decode cX8_copyRow 55 = .ok (.iload_n 2, 1) := by decide +kernel
theorem dX8_copyRow_56 : decode cX8_copyRow 56 = .ok (.aload_n 0, 1) := by decide +kernel
theorem dX8_copyRow_57 : decode cX8_copyRow 57 = .ok (.getfield 21, 3) := by decide +kernel
theorem dX8_copyRow_60 : decode cX8_copyRow 60 = .ok (.iload_n 1, 1) := by decide +kernel
theorem dX8_copyRow_61 : decode cX8_copyRow 61 = .ok (.iaload, 1) := by decide +kernel
theorem dX8_copyRow_62 : decode cX8_copyRow 62 = .ok (.iastore, 1) := by decide +kernel
theorem dX8_copyRow_63 : decode cX8_copyRow 63 = .ok (.aload_n 0, 1) := by decide +kernel
theorem dX8_copyRow_64 : decode cX8_copyRow 64 = .ok (.getfield 24, 3) := by decide +kernel
theorem dX8_copyRow_67 : decode cX8_copyRow 67 = .ok (.iload_n 1, 1) := by decide +kernel
theorem dX8_copyRow_68 : decode cX8_copyRow 68 = .ok (.bipush 24, 2) := by decide +kernel
theorem dX8_copyRow_70 : decode cX8_copyRow 70 = .ok (.imul, 1) := by decide +kernel
theorem dX8_copyRow_71 : decode cX8_copyRow 71 = .ok (.aload_n 0, 1) := by decide +kernel
theorem dX8_copyRow_72 : decode cX8_copyRow 72 = .ok (.getfield 24, 3) := by decide +kernel
theorem dX8_copyRow_75 : decode cX8_copyRow 75 = .ok (.iload_n 2, 1) := by decide +kernel
theorem dX8_copyRow_76 : decode cX8_copyRow 76 = .ok (.bipush 24, 2) := by decide +kernel
theorem dX8_copyRow_78 : decode cX8_copyRow 78 = .ok (.imul, 1) := by decide +kernel
theorem dX8_copyRow_79 : decode cX8_copyRow 79 = .ok (.bipush 24, 2) := by decide +kernel
theorem dX8_copyRow_81 : decode cX8_copyRow 81 = .ok (.invokestatic 31, 3) := by decide +kernel
theorem dX8_copyRow_84 : decode cX8_copyRow 84 = .ok (.return_, 1) := by decide +kernel
theorem dX8_isRow_0 : decode cX8_isRow 0 = .ok (.iload_n 0, 1) := by decide +kernel
theorem dX8_isRow_1 : decode cX8_isRow 1 = .ok (.ifCond .lt 13, 3) := by decide +kernel
theorem dX8_isRow_4 : decode cX8_isRow 4 = .ok (.iload_n 0, 1) := by decide +kernel
theorem dX8_isRow_5 : decode cX8_isRow 5 = .ok (.bipush 16, 2) := by decide +kernel
theorem dX8_isRow_7 : decode cX8_isRow 7 = .ok (.if_icmp .ge 7, 3) := by decide +kernel
theorem dX8_isRow_10 : decode cX8_isRow 10 = .ok (.iconst 1, 1) := by decide +kernel
theorem dX8_isRow_11 : decode cX8_isRow 11 = .ok (.goto 4, 3) := by decide +kernel
theorem dX8_isRow_14 : decode cX8_isRow 14 = .ok (.iconst 0, 1) := by decide +kernel
theorem dX8_isRow_15 : decode cX8_isRow 15 = .ok (.ireturn, 1) := by decide +kernel
theorem dX9_init_0 : decode cX9_init 0 = .ok (.aload_n 0, 1) := by decide +kernel
theorem dX9_init_1 : decode cX9_init 1 = .ok (.invokespecial 1, 3) := by decide +kernel
theorem dX9_init_4 : decode cX9_init 4 = .ok (.aload_n 0, 1) := by decide +kernel
theorem dX9_init_5 : decode cX9_init 5 = .ok (.new 7, 3) := by decide +kernel
theorem dX9_init_8 : decode cX9_init 8 = .ok (.dup, 1) := by decide +kernel
theorem dX9_init_9 : decode cX9_init 9 = .ok (.invokespecial 9, 3) := by decide +kernel
theorem dX9_init_12 : decode cX9_init 12 = .ok (.putfield 10, 3) := by decide +kernel
theorem dX9_init_15 : decode cX9_init 15 = .ok (.aload_n 0, 1) := by decide +kernel
theorem dX9_init_16 : decode cX9_init 16 = .ok (.new 16, 3) := by decide +kernel
theorem dX9_init_19 : decode cX9_init 19 = .ok (.dup, 1) := by decide +kernel
theorem dX9_init_20 : decode cX9_init 20 = .ok (.aload_n 0, 1) := by decide +kernel
theorem dX9_init_21 : decode cX9_init 21 = .ok (.getfield 10, 3) := by decide +kernel
theorem dX9_init_24 : decode cX9_init 24 = .ok (.invokespecial 18, 3) := by decide +kernel
theorem dX9_init_27 : decode cX9_init 27 = .ok (.putfield 21, 3) := by decide +kernel
theorem dX9_init_30 : decode cX9_init 30 = .ok (.aload_n 0, 1) := by decide +kernel
theorem dX9_init_31 : decode cX9_init 31 = .ok (.new 25, 3) := by decide +kernel
theorem dX9_init_34 : decode cX9_init 34 = .ok (.dup, 1) := by decide +kernel
theorem dX9_init_35 : decode cX9_init 35 = .ok (.aload_n 0, 1) := by decide +kernel
theorem dX9_init_36 : decode cX9_init 36 = .ok (.getfield 10, 3) := by decide +kernel
theorem dX9_init_39 : decode cX9_init 39 = .ok (.aload_n 0, 1) := by decide +kernel
theorem dX9_init_40 : decode cX9_init 40 = .ok (.getfield 21, 3) := by decide +kernel
theorem dX9_init_43 : decode cX9_init 43 = .ok (.invokespecial 27, 3) := by decide +kernel
theorem dX9_init_46 : decode cX9_init 46 = .ok (.putfield 30, 3) := by decide +kernel
theorem dX9_init_49 : decode cX9_init 49 = .ok (.aload_n 0, 1) := by decide +kernel
theorem dX9_init_50 : decode cX9_init 50 = .ok (.new 34, 3) := by decide +kernel
theorem dX9_init_53 : decode cX9_init 53 = .ok (.dup, 1) := by decide +kernel
theorem dX9_init_54 : decode cX9_init 54 = .ok (.invokespecial 36, 3) := by decide +kernel
theorem dX9_init_57 : decode cX9_init 57 = .ok (.putfield 37, 3) := by decide +kernel
theorem dX9_init_60 : decode cX9_init 60 = .ok (.aload_n 0, 1) := by decide +kernel
theorem dX9_init_61 : decode cX9_init 61 = .ok (.new 7, 3) := by decide +kernel
theorem dX9_init_64 : decode cX9_init 64 = .ok (.dup, 1) := by decide +kernel
theorem dX9_init_65 : decode cX9_init 65 = .ok (.invokespecial 9, 3) := by decide +kernel
theorem dX9_init_68 : decode cX9_init 68 = .ok (.putfield 41, 3) := by decide +kernel
theorem dX9_init_71 : decode cX9_init 71 = .ok (.aload_n 0, 1) := by decide +kernel
theorem dX9_init_72 : decode cX9_init 72 = .ok (.iconst 0, 1) := by decide +kernel
theorem dX9_init_73 : decode cX9_init 73 = .ok (.putfield 44, 3) := by decide +kernel
theorem dX9_init_76 : decode cX9_init 76 = .ok (.aload_n 0, 1) := by decide +kernel
theorem dX9_init_77 : decode cX9_init 77 = .ok (.new 48, 3) := by decide +kernel
theorem dX9_init_80 : decode cX9_init 80 = .ok (.dup, 1) := by decide +kernel
theorem dX9_init_81 : decode cX9_init 81 = .ok (.invokespecial 50, 3) := by decide +kernel
theorem dX9_init_84 : decode cX9_init 84 = .ok (.putfield 51, 3) := by decide +kernel
theorem dX9_init_87 : decode cX9_init 87 = .ok (.aload_n 0, 1) := by decide +kernel
theorem dX9_init_88 : decode cX9_init 88 = .ok (.new 48, 3) := by decide +kernel
theorem dX9_init_91 : decode cX9_init 91 = .ok (.dup, 1) := by decide +kernel
theorem dX9_init_92 : decode cX9_init 92 = .ok (.invokespecial 50, 3) := by decide +kernel
theorem dX9_init_95 : decode cX9_init 95 = .ok (.putfield 55, 3) := by decide +kernel
theorem dX9_init_98 : decode cX9_init 98 = .ok (.aload_n 0, 1) := by decide +kernel
theorem dX9_init_99 : decode cX9_init 99 = .ok (.new 58, 3) := by decide +kernel
theorem dX9_init_102 : decode cX9_init 102 = .ok (.dup, 1) := by decide +kernel
theorem dX9_init_103 : decode cX9_init 103 = .ok (.invokespecial 60, 3) := by decide +kernel
theorem dX9_init_106 : decode cX9_init 106 = .ok (.putfield 61, 3) := by decide +kernel
theorem dX9_init_109 : decode cX9_init 109 = .ok (.aload_n 0, 1) := by decide +kernel
theorem dX9_init_110 : decode cX9_init 110 = .ok (.iconst (-1), 1) := by decide +kernel
theorem dX9_init_111 : decode cX9_init 111 = .ok (.putfield 65, 3) := by decide +kernel
theorem dX9_init_114 : decode cX9_init 114 = .ok (.aload_n 0, 1) := by decide +kernel
theorem dX9_init_115 : decode cX9_init 115 = .ok (.iconst 0, 1) := by decide +kernel
theorem dX9_init_116 : decode cX9_init 116 = .ok (.putfield 69, 3) := by decide +kernel
theorem dX9_init_119 : decode cX9_init 119 = .ok (.aload_n 0, 1) := by decide +kernel
theorem dX9_init_120 : decode cX9_init 120 = .ok (.iconst 0, 1) := by decide +kernel
theorem dX9_init_121 : decode cX9_init 121 = .ok (.putfield 72, 3) := by decide +kernel
theorem dX9_init_124 : decode cX9_init 124 = .ok (.return_, 1) := by decide +kernel
theorem dX9_film_0 : decode cX9_film 0 = .ok (.iload_n 1, 1) := by decide +kernel
theorem dX9_film_1 : decode cX9_film 1 = .ok (.bipush 100, 2) := by decide +kernel
theorem dX9_film_3 : decode cX9_film 3 = .ok (.if_icmp .lt 10, 3) := by decide +kernel
theorem dX9_film_6 : decode cX9_film 6 = .ok (.iload_n 1, 1) := by decide +kernel
theorem dX9_film_7 : decode cX9_film 7 = .ok (.sipush 9999, 3) := by decide +kernel
theorem dX9_film_10 : decode cX9_film 10 = .ok (.if_icmp .le 13, 3) := by decide +kernel
theorem dX9_film_13 : decode cX9_film 13 = .ok (.new 75, 3) := by decide +kernel
theorem dX9_film_16 : decode cX9_film 16 = .ok (.dup, 1) := by decide +kernel
theorem dX9_film_17 : decode cX9_film 17 = .ok (.ldc 77, 2) := by decide +kernel
theorem dX9_film_19 : decode cX9_film 19 = .ok (.invokespecial 79, 3) := by decide +kernel
theorem dX9_film_22 : decode cX9_film 22 = .ok (.athrow, 1) := by decide +kernel
theorem dX9_film_23 : decode cX9_film 23 = .ok (.aload_n 0, 1) := by decide +kernel
theorem dX9_film_24 : decode cX9_film 24 = .ok (.aload_n 0, 1) := by decide +kernel
theorem dX9_film_25 : decode cX9_film 25 = .ok (.getfield 10, 3) := by decide +kernel
theorem dX9_film_28 : decode cX9_film 28 = .ok (.iload_n 1, 1) := by decide +kernel
theorem dX9_film_29 : decode cX9_film 29 = .ok (.invokevirtual 82, 3) := by decide +kernel
theorem dX9_film_32 : decode cX9_film 32 = .ok (.invokevirtual 86, 3) := by decide +kernel
theorem dX9_film_35 : decode cX9_film 35 = .ok (.aload_n 0, 1) := by decide +kernel
theorem dX9_film_36 : decode cX9_film 36 = .ok (.getfield 37, 3) := by decide +kernel
theorem dX9_film_39 : decode cX9_film 39 = .ok (.aload_n 0, 1) := by decide +kernel
theorem dX9_film_40 : decode cX9_film 40 = .ok (.getfield 10, 3) := by decide +kernel
theorem dX9_film_43 : decode cX9_film 43 = .ok (.invokevirtual 90, 3) := by decide +kernel
theorem dX9_film_46 : decode cX9_film 46 = .ok (.aload_n 0, 1) := by decide +kernel
theorem dX9_film_47 : decode cX9_film 47 = .ok (.getfield 10, 3) := by decide +kernel
theorem dX9_film_50 : decode cX9_film 50 = .ok (.getfield 93, 3) := by decide +kernel
theorem dX9_film_53 : decode cX9_film 53 = .ok (.istore_n 2, 1) := by decide +kernel
theorem dX9_film_54 : decode cX9_film 54 = .ok (.aload_n 0, 1) := by decide +kernel
theorem dX9_film_55 : decode cX9_film 55 = .ok (.getfield 10, 3) := by decide +kernel
theorem dX9_film_58 : decode cX9_film 58 = .ok (.iload_n 1, 1) := by decide +kernel
theorem dX9_film_59 : decode cX9_film 59 = .ok (.putfield 93, 3) := by decide +kernel
theorem dX9_film_62 : decode cX9_film 62 = .ok (.iload_n 2, 1) := by decide +kernel
theorem dX9_film_63 : decode cX9_film 63 = .ok (.ireturn, 1) := by decide +kernel
theorem dX9_set_0 : decode cX9_set 0 = .ok (.iload_n 1, 1) := by decide +kernel
theorem dX9_set_1 : decode cX9_set 1 = .ok (.iload_n 2, 1) := by decide +kernel
theorem dX9_set_2 : decode cX9_set 2 = .ok (.invokestatic 96, 3) := by decide +kernel
theorem dX9_set_5 : decode cX9_set 5 = .ok (.ifCond .ne 13, 3) := by decide +kernel
theorem dX9_set_8 : decode cX9_set 8 = .ok (.new 75, 3) := by decide +kernel
theorem dX9_set_11 : decode cX9_set 11 = .ok (.dup, 1) := by decide +kernel
theorem dX9_set_12 : decode cX9_set 12 = .ok (.ldc 100, 2) := by decide +kernel
theorem dX9_set_14 : decode cX9_set 14 = .ok (.invokespecial 79, 3) := by decide +kernel
theorem dX9_set_17 : decode cX9_set 17 = .ok (.athrow, 1) := by decide +kernel
theorem dX9_set_18 : decode cX9_set 18 = .ok (.aload_n 0, 1) := by decide +kernel
theorem dX9_set_19 : decode cX9_set 19 = .ok (.getfield 37, 3) := by decide +kernel
theorem dX9_set_22 : decode cX9_set 22 = .ok (.aload_n 0, 1) := by decide +kernel
theorem dX9_set_23 : decode cX9_set 23 = .ok (.getfield 10, 3) := by decide +kernel
theorem dX9_set_26 : decode cX9_set 26 = .ok (.invokevirtual 90, 3) := by decide +kernel
theorem dX9_set_29 : decode cX9_set 29 = .ok (.aload_n 0, 1) := by decide +kernel
theorem dX9_set_30 : decode cX9_set 30 = .ok (.getfield 10, 3) := by decide +kernel
theorem dX9_set_33 : decode cX9_set 33 = .ok (.iload_n 1, 1) := by decide +kernel
theorem dX9_set_34 : decode cX9_set 34 = .ok (.iload_n 2, 1) := by decide +kernel
theorem dX9_set_35 : decode cX9_set 35 = .ok (.invokevirtual 102, 3) := by decide +kernel
theorem dX9_set_38 : decode cX9_set 38 = .ok (.ireturn, 1) := by decide +kernel
theorem dX9_cut_0 : decode cX9_cut 0 = .ok (.aload_n 0, 1) := by decide +kernel
theorem dX9_cut_1 : decode cX9_cut 1 = .ok (.getfield 10, 3) := by decide +kernel
theorem dX9_cut_4 : decode cX9_cut 4 = .ok (.iload_n 1, 1) := by decide +kernel
theorem dX9_cut_5 : decode cX9_cut 5 = .ok (.invokevirtual 106, 3) := by decide +kernel
theorem dX9_cut_8 : decode cX9_cut 8 = .ok (.ifCond .ne 13, 3) := by decide +kernel
theorem dX9_cut_11 : decode cX9_cut 11 = .ok (.new 110, 3) := by decide +kernel
theorem dX9_cut_14 : decode cX9_cut 14 = .ok (.dup, 1) := by decide +kernel
theorem dX9_cut_15 : decode cX9_cut 15 = .ok (.ldc 112, 2) := by decide +kernel
theorem dX9_cut_17 : decode cX9_cut 17 = .ok (.invokespecial 114, 3) := by decide +kernel
theorem dX9_cut_20 : decode cX9_cut 20 = .ok (.athrow, 1) := by decide +kernel
theorem dX9_cut_21 : decode cX9_cut 21 = .ok (.iload_n 2, 1) := by decide +kernel
theorem dX9_cut_22 : decode cX9_cut 22 = .ok (.ifCond .eq 27, 3) := by decide +kernel
theorem dX9_cut_25 : decode cX9_cut 25 = .ok (.aload_n 0, 1) := by decide +kernel
theorem dX9_cut_26 : decode cX9_cut 26 = .ok (.getfield 10, 3) := by decide +kernel
theorem dX9_cut_29 : decode cX9_cut 29 = .ok (.getfield 115, 3) := by decide +kernel
theorem dX9_cut_32 : decode cX9_cut 32 = .ok (.iload_n 1, 1) := by decide +kernel
theorem dX9_cut_33 : decode cX9_cut 33 = .ok (.invokevirtual 119, 3) := by decide +kernel
theorem dX9_cut_36 : decode cX9_cut 36 = .ok (.ifCond .eq 13, 3) := by decide +kernel
theorem dX9_cut_39 : decode cX9_cut 39 = .ok (.new 124, 3) := by decide +kernel
theorem dX9_cut_42 : decode cX9_cut 42 = .ok (.dup, 1) := by decide +kernel
theorem dX9_cut_43 : decode cX9_cut 43 = .ok (.ldc 126, 2) := by decide +kernel
theorem dX9_cut_45 : decode cX9_cut 45 = .ok (.invokespecial 128, 3) := by decide +kernel
theorem dX9_cut_48 : decode cX9_cut 48 = .ok (.athrow, 1) := by decide +kernel
theorem dX9_cut_49 : decode cX9_cut 49 = .ok (.aload_n 0, 1) := by decide +kernel
theorem dX9_cut_50 : decode cX9_cut 50 = .ok (.getfield 37, 3) := by decide +kernel
theorem dX9_cut_53 : decode cX9_cut 53 = .ok (.aload_n 0, 1) := by decide +kernel
theorem dX9_cut_54 : decode cX9_cut 54 = .ok (.getfield 10, 3) := by decide +kernel
theorem dX9_cut_57 : decode cX9_cut 57 = .ok (.invokevirtual 90, 3) := by decide +kernel
theorem dX9_cut_60 : decode cX9_cut 60 = .ok (.iload_n 2, 1) := by decide +kernel
theorem dX9_cut_61 : decode cX9_cut 61 = .ok (.ifCond .eq 17, 3) := by decide +kernel
theorem dX9_cut_64 : decode cX9_cut 64 = .ok (.aload_n 0, 1) := by decide +kernel
theorem dX9_cut_65 : decode cX9_cut 65 = .ok (.getfield 10, 3) := by decide +kernel
theorem dX9_cut_68 : decode cX9_cut 68 = .ok (.getfield 115, 3) := by decide +kernel
theorem dX9_cut_71 : decode cX9_cut 71 = .ok (.iload_n 1, 1) := by decide +kernel
theorem dX9_cut_72 : decode cX9_cut 72 = .ok (.invokevirtual 129, 3) := by decide +kernel
theorem dX9_cut_75 : decode cX9_cut 75 = .ok (.goto 14, 3) := by decide +kernel
theorem dX9_cut_78 : decode cX9_cut 78 = .ok (.aload_n 0, 1) := by decide +kernel
theorem dX9_cut_79 : decode cX9_cut 79 = .ok (.getfield 10, 3) := by decide +kernel
theorem dX9_cut_82 : decode cX9_cut 82 = .ok (.getfield 115, 3) := by decide +kernel
theorem dX9_cut_85 : decode cX9_cut 85 = .ok (.iload_n 1, 1) := by decide +kernel
theorem dX9_cut_86 : decode cX9_cut 86 = .ok (.invokevirtual 132, 3) := by decide +kernel
theorem dX9_cut_89 : decode cX9_cut 89 = .ok (.aload_n 0, 1) := by decide +kernel
theorem dX9_cut_90 : decode cX9_cut 90 = .ok (.getfield 10, 3) := by decide +kernel
theorem dX9_cut_93 : decode cX9_cut 93 = .ok (.getfield 115, 3) := by decide +kernel
theorem dX9_cut_96 : decode cX9_cut 96 = .ok (.getfield 135, 3) := by decide +kernel
theorem dX9_cut_99 : decode cX9_cut 99 = .ok (.ireturn, 1) := by decide +kernel
theorem dX9_number_0 : decode cX9_number 0 = .ok (.iload_n 1, 1) := by decide +kernel
theorem dX9_number_1 : decode cX9_number 1 = .ok (.tableswitch 136 6 13 #[47, 55, 66, 78, 90, 98, 120, 128], 47) := by decide +kernel
theorem dX9_number_48 : decode cX9_number 48 = .ok (.aload_n 0, 1) := by decide +kernel
theorem dX9_number_49 : decode cX9_number 49 = .ok (.getfield 10, 3) := by decide +kernel
theorem dX9_number_52 : decode cX9_number 52 = .ok (.getfield 93, 3) := by decide +kernel
theorem dX9_number_55 : decode cX9_number 55 = .ok (.ireturn, 1) := by decide +kernel
theorem dX9_number_56 : decode cX9_number 56 = .ok (.aload_n 0, 1) := by decide +kernel
theorem dX9_number_57 : decode cX9_number 57 = .ok (.getfield 10, 3) := by decide +kernel
theorem dX9_number_60 : decode cX9_number 60 = .ok (.getfield 115, 3) := by decide +kernel
theorem dX9_number_63 : decode cX9_number 63 = .ok (.getfield 135, 3) := by decide +kernel
theorem dX9_number_66 : decode cX9_number 66 = .ok (.ireturn, 1) := by decide +kernel
theorem dX9_number_67 : decode cX9_number 67 = .ok (.aload_n 0, 1) := by decide +kernel
theorem dX9_number_68 : decode cX9_number 68 = .ok (.getfield 10, 3) := by decide +kernel
theorem dX9_number_71 : decode cX9_number 71 = .ok (.iconst 0, 1) := by decide +kernel
theorem dX9_number_72 : decode cX9_number 72 = .ok (.invokevirtual 138, 3) := by decide +kernel
theorem dX9_number_75 : decode cX9_number 75 = .ok (.getfield 142, 3) := by decide +kernel
theorem dX9_number_78 : decode cX9_number 78 = .ok (.ireturn, 1) := by decide +kernel
theorem dX9_number_79 : decode cX9_number 79 = .ok (.aload_n 0, 1) := by decide +kernel
theorem dX9_number_80 : decode cX9_number 80 = .ok (.getfield 10, 3) := by decide +kernel
theorem dX9_number_83 : decode cX9_number 83 = .ok (.iconst 1, 1) := by decide +kernel
theorem dX9_number_84 : decode cX9_number 84 = .ok (.invokevirtual 138, 3) := by decide +kernel
theorem dX9_number_87 : decode cX9_number 87 = .ok (.getfield 142, 3) := by decide +kernel
theorem dX9_number_90 : decode cX9_number 90 = .ok (.ireturn, 1) := by decide +kernel
theorem dX9_number_91 : decode cX9_number 91 = .ok (.aload_n 0, 1) := by decide +kernel
theorem dX9_number_92 : decode cX9_number 92 = .ok (.getfield 21, 3) := by decide +kernel
theorem dX9_number_95 : decode cX9_number 95 = .ok (.invokevirtual 145, 3) := by decide +kernel
theorem dX9_number_98 : decode cX9_number 98 = .ok (.ireturn, 1) := by decide +kernel
theorem dX9_number_99 : decode cX9_number 99 = .ok (.aload_n 0, 1) := by decide +kernel
theorem dX9_number_100 : decode cX9_number 100 = .ok (.getfield 21, 3) := by decide +kernel
theorem dX9_number_103 : decode cX9_number 103 = .ok (.iconst 0, 1) := by decide +kernel
theorem dX9_number_104 : decode cX9_number 104 = .ok (.bipush 63, 2) := by decide +kernel
theorem dX9_number_106 : decode cX9_number 106 = .ok (.invokevirtual 149, 3) := by decide +kernel
theorem dX9_number_109 : decode cX9_number 109 = .ok (.aload_n 0, 1) := by decide +kernel
theorem dX9_number_110 : decode cX9_number 110 = .ok (.getfield 21, 3) := by decide +kernel
theorem dX9_number_113 : decode cX9_number 113 = .ok (.iconst 1, 1) := by decide +kernel
theorem dX9_number_114 : decode cX9_number 114 = .ok (.bipush 63, 2) := by decide +kernel
theorem dX9_number_116 : decode cX9_number 116 = .ok (.invokevirtual 149, 3) := by decide +kernel
theorem dX9_number_119 : decode cX9_number 119 = .ok (.iadd, 1) := by decide +kernel
theorem dX9_number_120 : decode cX9_number 120 = .ok (.ireturn, 1) := by decide +kernel
theorem dX9_number_121 : decode cX9_number 121 = .ok (.aload_n 0, 1) := by decide +kernel
theorem dX9_number_122 : decode cX9_number 122 = .ok (.getfield 37, 3) := by decide +kernel
theorem dX9_number_125 : decode cX9_number 125 = .ok (.getfield 152, 3) := by decide +kernel
theorem dX9_number_128 : decode cX9_number 128 = .ok (.ireturn, 1) := by decide +kernel
theorem dX9_number_129 : decode cX9_number 129 = .ok (.aload_n 0, 1) := by decide +kernel
theorem dX9_number_130 : decode cX9_number 130 = .ok (.getfield 51, 3) := by decide +kernel
theorem dX9_number_133 : decode cX9_number 133 = .ok (.getfield 153, 3) := by decide +kernel
theorem dX9_number_136 : decode cX9_number 136 = .ok (.ireturn, 1) := by decide +kernel
theorem dX9_number_137 : decode cX9_number 137 = .ok (.iload_n 1, 1) := by decide +kernel
theorem dX9_number_138 : decode cX9_number 138 = .ok (.invokestatic 156, 3) := by decide +kernel
theorem dX9_number_141 : decode cX9_number 141 = .ok (.ifCond .ne 13, 3) := by decide +kernel
theorem dX9_number_144 : decode cX9_number 144 = .ok (.new 75, 3) := by decide +kernel
theorem dX9_number_147 : decode cX9_number 147 = .ok (.dup, 1) := by decide +kernel
theorem dX9_number_148 : decode cX9_number 148 = .ok (.ldc 159, 2) := by decide +kernel
theorem dX9_number_150 : decode cX9_number 150 = .ok (.invokespecial 79, 3) := by decide +kernel
theorem dX9_number_153 : decode cX9_number 153 = .ok (.athrow, 1) := by decide +kernel
theorem dX9_number_154 : decode cX9_number 154 = .ok (.aload_n 0, 1) := by decide +kernel
theorem dX9_number_155 : decode cX9_number 155 = .ok (.getfield 10, 3) := by decide +kernel
theorem dX9_number_158 : decode cX9_number 158 = .ok (.iload_n 1, 1) := by decide +kernel
theorem dX9_number_159 : decode cX9_number 159 = .ok (.invokevirtual 161, 3) := by decide +kernel
theorem dX9_number_162 : decode cX9_number 162 = .ok (.ireturn, 1) := by decide +kernel
theorem dX9_shot_0 : decode cX9_shot 0 = .ok (.aload_n 0, 1) := by decide +kernel
theorem dX9_shot_1 : decode cX9_shot 1 = .ok (.getfield 10, 3) := by decide +kernel
theorem dX9_shot_4 : decode cX9_shot 4 = .ok (.iload_n 1, 1) := by decide +kernel
theorem dX9_shot_5 : decode cX9_shot 5 = .ok (.invokevirtual 164, 3) := by decide +kernel
theorem dX9_shot_8 : decode cX9_shot 8 = .ok (.ifCond .ne 13, 3) := by decide +kernel
theorem dX9_shot_11 : decode cX9_shot 11 = .ok (.new 110, 3) := by decide +kernel
theorem dX9_shot_14 : decode cX9_shot 14 = .ok (.dup, 1) := by decide +kernel
theorem dX9_shot_15 : decode cX9_shot 15 = .ok (.ldc 167, 2) := by decide +kernel
theorem dX9_shot_17 : decode cX9_shot 17 = .ok (.invokespecial 114, 3) := by decide +kernel
theorem dX9_shot_20 : decode cX9_shot 20 = .ok (.athrow, 1) := by decide +kernel
theorem dX9_shot_21 : decode cX9_shot 21 = .ok (.aload_n 0, 1) := by decide +kernel
theorem dX9_shot_22 : decode cX9_shot 22 = .ok (.getfield 10, 3) := by decide +kernel
theorem dX9_shot_25 : decode cX9_shot 25 = .ok (.getfield 115, 3) := by decide +kernel
theorem dX9_shot_28 : decode cX9_shot 28 = .ok (.iload_n 1, 1) := by decide +kernel
theorem dX9_shot_29 : decode cX9_shot 29 = .ok (.invokevirtual 169, 3) := by decide +kernel
theorem dX9_shot_32 : decode cX9_shot 32 = .ok (.ireturn, 1) := by decide +kernel
theorem dX9_feed_0 : decode cX9_feed 0 = .ok (.aload_n 0, 1) := by decide +kernel
theorem dX9_feed_1 : decode cX9_feed 1 = .ok (.getfield 51, 3) := by decide +kernel
theorem dX9_feed_4 : decode cX9_feed 4 = .ok (.iload_n 1, 1) := by decide +kernel
theorem dX9_feed_5 : decode cX9_feed 5 = .ok (.invokevirtual 172, 3) := by decide +kernel
theorem dX9_feed_8 : decode cX9_feed 8 = .ok (.ifCond .ne 13, 3) := by decide +kernel
theorem dX9_feed_11 : decode cX9_feed 11 = .ok (.new 124, 3) := by decide +kernel
theorem dX9_feed_14 : decode cX9_feed 14 = .ok (.dup, 1) := by decide +kernel
theorem dX9_feed_15 : decode cX9_feed 15 = .ok (.ldc 175, 2) := by decide +kernel
theorem dX9_feed_17 : decode cX9_feed 17 = .ok (.invokespecial 128, 3) := by decide +kernel
theorem dX9_feed_20 : decode cX9_feed 20 = .ok (.athrow, 1) := by decide +kernel
theorem dX9_feed_21 : decode cX9_feed 21 = .ok (.aload_n 0, 1) := by decide +kernel
theorem dX9_feed_22 : decode cX9_feed 22 = .ok (.getfield 51, 3) := by decide +kernel
theorem dX9_feed_25 : decode cX9_feed 25 = .ok (.getfield 153, 3) := by decide +kernel
theorem dX9_feed_28 : decode cX9_feed 28 = .ok (.ireturn, 1) := by decide +kernel
theorem dX9_add_0 : decode cX9_add 0 = .ok (.aload_n 0, 1) := by decide +kernel
theorem dX9_add_1 : decode cX9_add 1 = .ok (.getfield 55, 3) := by decide +kernel
theorem dX9_add_4 : decode cX9_add 4 = .ok (.invokevirtual 177, 3) := by decide +kernel
theorem dX9_add_7 : decode cX9_add 7 = .ok (.aload_n 0, 1) := by decide +kernel
theorem dX9_add_8 : decode cX9_add 8 = .ok (.getfield 55, 3) := by decide +kernel
theorem dX9_add_11 : decode cX9_add 11 = .ok (.aload_n 0, 1) := by decide +kernel
theorem dX9_add_12 : decode cX9_add 12 = .ok (.getfield 51, 3) := by decide +kernel
theorem dX9_add_15 : decode cX9_add 15 = .ok (.iconst 0, 1) := by decide +kernel
theorem dX9_add_16 : decode cX9_add 16 = .ok (.aload_n 0, 1) := by decide +kernel
theorem dX9_add_17 : decode cX9_add 17 = .ok (.getfield 51, 3) := by decide +kernel
theorem dX9_add_20 : decode cX9_add 20 = .ok (.getfield 153, 3) := by decide +kernel
theorem dX9_add_23 : decode cX9_add 23 = .ok (.invokevirtual 180, 3) := by decide +kernel
theorem dX9_add_26 : decode cX9_add 26 = .ok (.aload_n 0, 1) := by decide +kernel
theorem dX9_add_27 : decode cX9_add 27 = .ok (.getfield 51, 3) := by decide +kernel
theorem dX9_add_30 : decode cX9_add 30 = .ok (.invokevirtual 177, 3) := by decide +kernel
theorem dX9_add_33 : decode cX9_add 33 = .ok (.aload_n 0, 1) := by decide +kernel
theorem dX9_add_34 : decode cX9_add 34 = .ok (.iload_n 1, 1) := by decide +kernel
theorem dX9_add_35 : decode cX9_add 35 = .ok (.invokevirtual 184, 3) := by decide +kernel
theorem dX9_add_38 : decode cX9_add 38 = .ok (.iload_n 2, 1) := by decide +kernel
theorem dX9_add_39 : decode cX9_add 39 = .ok (.ifCond .lt 8, 3) := by decide +kernel
theorem dX9_add_42 : decode cX9_add 42 = .ok (.iload_n 2, 1) := by decide +kernel
theorem dX9_add_43 : decode cX9_add 43 = .ok (.iconst 2, 1) := by decide +kernel
theorem dX9_add_44 : decode cX9_add 44 = .ok (.if_icmp .le 13, 3) := by decide +kernel
theorem dX9_add_47 : decode cX9_add 47 = .ok (.new 75, 3) := by decide +kernel
theorem dX9_add_50 : decode cX9_add 50 = .ok (.dup, 1) := by decide +kernel
theorem dX9_add_51 : decode cX9_add 51 = .ok (.ldc 187, 2) := by decide +kernel
theorem dX9_add_53 : decode cX9_add 53 = .ok (.invokespecial 79, 3) := by decide +kernel
theorem dX9_add_56 : decode cX9_add 56 = .ok (.athrow, 1) := by decide +kernel
theorem dX9_add_57 : decode cX9_add 57 = .ok (.aload_n 0, 1) := by decide +kernel
theorem dX9_add_58 : decode cX9_add 58 = .ok (.aload_n 0, 1) := by decide +kernel
theorem dX9_add_59 : decode cX9_add 59 = .ok (.getfield 10, 3) := by decide +kernel
theorem dX9_add_62 : decode cX9_add 62 = .ok (.iload_n 1, 1) := by decide +kernel
theorem dX9_add_63 : decode cX9_add 63 = .ok (.iload_n 3, 1) := by decide +kernel
theorem dX9_add_64 : decode cX9_add 64 = .ok (.iload 4, 2) := by decide +kernel
theorem dX9_add_66 : decode cX9_add 66 = .ok (.aload_n 0, 1) := by decide +kernel
theorem dX9_add_67 : decode cX9_add 67 = .ok (.getfield 55, 3) := by decide +kernel
theorem dX9_add_70 : decode cX9_add 70 = .ok (.invokevirtual 189, 3) := by decide +kernel
theorem dX9_add_73 : decode cX9_add 73 = .ok (.invokevirtual 86, 3) := by decide +kernel
theorem dX9_add_76 : decode cX9_add 76 = .ok (.aload_n 0, 1) := by decide +kernel
theorem dX9_add_77 : decode cX9_add 77 = .ok (.getfield 37, 3) := by decide +kernel
theorem dX9_add_80 : decode cX9_add 80 = .ok (.aload_n 0, 1) := by decide +kernel
theorem dX9_add_81 : decode cX9_add 81 = .ok (.getfield 10, 3) := by decide +kernel
theorem dX9_add_84 : decode cX9_add 84 = .ok (.invokevirtual 90, 3) := by decide +kernel
theorem dX9_add_87 : decode cX9_add 87 = .ok (.aload_n 0, 1) := by decide +kernel
theorem dX9_add_88 : decode cX9_add 88 = .ok (.getfield 10, 3) := by decide +kernel
theorem dX9_add_91 : decode cX9_add 91 = .ok (.iload_n 1, 1) := by decide +kernel
theorem dX9_add_92 : decode cX9_add 92 = .ok (.invokevirtual 138, 3) := by decide +kernel
theorem dX9_add_95 : decode cX9_add 95 = .ok (.iload_n 2, 1) := by decide +kernel
theorem dX9_add_96 : decode cX9_add 96 = .ok (.iload_n 3, 1) := by decide +kernel
theorem dX9_add_97 : decode cX9_add 97 = .ok (.iload 4, 2) := by decide +kernel
theorem dX9_add_99 : decode cX9_add 99 = .ok (.aload_n 0, 1) := by decide +kernel
theorem dX9_add_100 : decode cX9_add 100 = .ok (.getfield 55, 3) := by decide +kernel
theorem dX9_add_103 : decode cX9_add 103 = .ok (.invokevirtual 193, 3) := by decide +kernel
theorem dX9_add_106 : decode cX9_add 106 = .ok (.ireturn, 1) := by decide +kernel
theorem dX9_remove_0 : decode cX9_remove 0 = .ok (.aload_n 0, 1) := by decide +kernel
theorem dX9_remove_1 : decode cX9_remove 1 = .ok (.iload_n 1, 1) := by decide +kernel
theorem dX9_remove_2 : decode cX9_remove 2 = .ok (.iload_n 2, 1) := by decide +kernel
theorem dX9_remove_3 : decode cX9_remove 3 = .ok (.invokevirtual 196, 3) := by decide +kernel
theorem dX9_remove_6 : decode cX9_remove 6 = .ok (.aload_n 0, 1) := by decide +kernel
theorem dX9_remove_7 : decode cX9_remove 7 = .ok (.getfield 37, 3) := by decide +kernel
theorem dX9_remove_10 : decode cX9_remove 10 = .ok (.aload_n 0, 1) := by decide +kernel
theorem dX9_remove_11 : decode cX9_remove 11 = .ok (.getfield 10, 3) := by decide +kernel
theorem dX9_remove_14 : decode cX9_remove 14 = .ok (.invokevirtual 90, 3) := by decide +kernel
theorem dX9_remove_17 : decode cX9_remove 17 = .ok (.aload_n 0, 1) := by decide +kernel
theorem dX9_remove_18 : decode cX9_remove 18 = .ok (.getfield 10, 3) := by decide +kernel
theorem dX9_remove_21 : decode cX9_remove 21 = .ok (.iload_n 1, 1) := by decide +kernel
theorem dX9_remove_22 : decode cX9_remove 22 = .ok (.invokevirtual 138, 3) := by decide +kernel
theorem dX9_remove_25 : decode cX9_remove 25 = .ok (.astore_n 3, 1) := by decide +kernel
theorem dX9_remove_26 : decode cX9_remove 26 = .ok (.aload_n 3, 1) := by decide +kernel
theorem dX9_remove_27 : decode cX9_remove 27 = .ok (.iload_n 2, 1) := by decide +kernel
theorem dX9_remove_28 : decode cX9_remove 28 = .ok (.invokevirtual 200, 3) := by decide +kernel
theorem dX9_remove_31 : decode cX9_remove 31 = .ok (.aload_n 3, 1) := by decide +kernel
theorem dX9_remove_32 : decode cX9_remove 32 = .ok (.getfield 142, 3) := by decide +kernel
theorem dX9_remove_35 : decode cX9_remove 35 = .ok (.ireturn, 1) := by decide +kernel
theorem dX9_move_0 : decode cX9_move 0 = .ok (.aload_n 0, 1) := by decide +kernel
theorem dX9_move_1 : decode cX9_move 1 = .ok (.iload_n 1, 1) := by decide +kernel
theorem dX9_move_2 : decode cX9_move 2 = .ok (.iload_n 2, 1) := by decide +kernel
theorem dX9_move_3 : decode cX9_move 3 = .ok (.invokevirtual 196, 3) := by decide +kernel
theorem dX9_move_6 : decode cX9_move 6 = .ok (.aload_n 0, 1) := by decide +kernel
theorem dX9_move_7 : decode cX9_move 7 = .ok (.aload_n 0, 1) := by decide +kernel
theorem dX9_move_8 : decode cX9_move 8 = .ok (.getfield 10, 3) := by decide +kernel
theorem dX9_move_11 : decode cX9_move 11 = .ok (.iload_n 1, 1) := by decide +kernel
theorem dX9_move_12 : decode cX9_move 12 = .ok (.iload_n 2, 1) := by decide +kernel
theorem dX9_move_13 : decode cX9_move 13 = .ok (.iload_n 3, 1) := by decide +kernel
theorem dX9_move_14 : decode cX9_move 14 = .ok (.iload 4, 2) := by decide +kernel
theorem dX9_move_16 : decode cX9_move 16 = .ok (.invokevirtual 203, 3) := by decide +kernel
theorem dX9_move_19 : decode cX9_move 19 = .ok (.invokevirtual 86, 3) := by decide +kernel
theorem dX9_move_22 : decode cX9_move 22 = .ok (.aload_n 0, 1) := by decide +kernel
theorem dX9_move_23 : decode cX9_move 23 = .ok (.getfield 37, 3) := by decide +kernel
theorem dX9_move_26 : decode cX9_move 26 = .ok (.aload_n 0, 1) := by decide +kernel
theorem dX9_move_27 : decode cX9_move 27 = .ok (.getfield 10, 3) := by decide +kernel
theorem dX9_move_30 : decode cX9_move 30 = .ok (.invokevirtual 90, 3) := by decide +kernel
theorem dX9_move_33 : decode cX9_move 33 = .ok (.aload_n 0, 1) := by decide +kernel
theorem dX9_move_34 : decode cX9_move 34 = .ok (.getfield 30, 3) := by decide +kernel
theorem dX9_move_37 : decode cX9_move 37 = .ok (.iload_n 1, 1) := by decide +kernel
theorem dX9_move_38 : decode cX9_move 38 = .ok (.iload_n 2, 1) := by decide +kernel
theorem dX9_move_39 : decode cX9_move 39 = .ok (.iload_n 3, 1) := by decide +kernel
theorem dX9_move_40 : decode cX9_move 40 = .ok (.iload 4, 2) := by decide +kernel
theorem dX9_move_42 : decode cX9_move 42 = .ok (.invokevirtual 207, 3) := by decide +kernel
theorem dX9_move_45 : decode cX9_move 45 = .ok (.ireturn, 1) := by decide +kernel
theorem dX9_split_0 : decode cX9_split 0 = .ok (.aload_n 0, 1) := by decide +kernel
theorem dX9_split_1 : decode cX9_split 1 = .ok (.iload_n 1, 1) := by decide +kernel
theorem dX9_split_2 : decode cX9_split 2 = .ok (.iload_n 2, 1) := by decide +kernel
theorem dX9_split_3 : decode cX9_split 3 = .ok (.invokevirtual 196, 3) := by decide +kernel
theorem dX9_split_6 : decode cX9_split 6 = .ok (.iload_n 3, 1) := by decide +kernel
theorem dX9_split_7 : decode cX9_split 7 = .ok (.ifCond .lt 19, 3) := by decide +kernel
theorem dX9_split_10 : decode cX9_split 10 = .ok (.iload_n 3, 1) := by decide +kernel
theorem dX9_split_11 : decode cX9_split 11 = .ok (.aload_n 0, 1) := by decide +kernel
theorem dX9_split_12 : decode cX9_split 12 = .ok (.getfield 10, 3) := by decide +kernel
theorem dX9_split_15 : decode cX9_split 15 = .ok (.iload_n 1, 1) := by decide +kernel
theorem dX9_split_16 : decode cX9_split 16 = .ok (.invokevirtual 138, 3) := by decide +kernel
theorem dX9_split_19 : decode cX9_split 19 = .ok (.iload_n 2, 1) := by decide +kernel
theorem dX9_split_20 : decode cX9_split 20 = .ok (.invokevirtual 210, 3) := by decide +kernel
theorem dX9_split_23 : decode cX9_split 23 = .ok (.if_icmp .lt 13, 3) := by decide +kernel
theorem dX9_split_26 : decode cX9_split 26 = .ok (.new 110, 3) := by decide +kernel
theorem dX9_split_29 : decode cX9_split 29 = .ok (.dup, 1) := by decide +kernel
theorem dX9_split_30 : decode cX9_split 30 = .ok (.ldc 212, 2) := by decide +kernel
theorem dX9_split_32 : decode cX9_split 32 = .ok (.invokespecial 114, 3) := by decide +kernel
theorem dX9_split_35 : decode cX9_split 35 = .ok (.athrow, 1) := by decide +kernel
theorem dX9_split_36 : decode cX9_split 36 = .ok (.aload_n 0, 1) := by decide +kernel
theorem dX9_split_37 : decode cX9_split 37 = .ok (.aload_n 0, 1) := by decide +kernel
theorem dX9_split_38 : decode cX9_split 38 = .ok (.getfield 30, 3) := by decide +kernel
theorem dX9_split_41 : decode cX9_split 41 = .ok (.iload_n 1, 1) := by decide +kernel
theorem dX9_split_42 : decode cX9_split 42 = .ok (.iload_n 2, 1) := by decide +kernel
theorem dX9_split_43 : decode cX9_split 43 = .ok (.iload_n 3, 1) := by decide +kernel
theorem dX9_split_44 : decode cX9_split 44 = .ok (.invokevirtual 214, 3) := by decide +kernel
theorem dX9_split_47 : decode cX9_split 47 = .ok (.invokevirtual 86, 3) := by decide +kernel
theorem dX9_split_50 : decode cX9_split 50 = .ok (.aload_n 0, 1) := by decide +kernel
theorem dX9_split_51 : decode cX9_split 51 = .ok (.getfield 37, 3) := by decide +kernel
theorem dX9_split_54 : decode cX9_split 54 = .ok (.aload_n 0, 1) := by decide +kernel
theorem dX9_split_55 : decode cX9_split 55 = .ok (.getfield 10, 3) := by decide +kernel
theorem dX9_split_58 : decode cX9_split 58 = .ok (.invokevirtual 90, 3) := by decide +kernel
theorem dX9_split_61 : decode cX9_split 61 = .ok (.aload_n 0, 1) := by decide +kernel
theorem dX9_split_62 : decode cX9_split 62 = .ok (.getfield 30, 3) := by decide +kernel
theorem dX9_split_65 : decode cX9_split 65 = .ok (.iload_n 1, 1) := by decide +kernel
theorem dX9_split_66 : decode cX9_split 66 = .ok (.iload_n 2, 1) := by decide +kernel
theorem dX9_split_67 : decode cX9_split 67 = .ok (.iload_n 3, 1) := by decide +kernel
theorem dX9_split_68 : decode cX9_split 68 = .ok (.invokevirtual 218, 3) := by decide +kernel
theorem dX9_split_71 : decode cX9_split 71 = .ok (.ireturn, 1) := by decide +kernel
theorem dX9_merge_0 : decode cX9_merge 0 = .ok (.aload_n 0, 1) := by decide +kernel
theorem dX9_merge_1 : decode cX9_merge 1 = .ok (.iload_n 1, 1) := by decide +kernel
theorem dX9_merge_2 : decode cX9_merge 2 = .ok (.iload_n 2, 1) := by decide +kernel
theorem dX9_merge_3 : decode cX9_merge 3 = .ok (.invokevirtual 196, 3) := by decide +kernel
theorem dX9_merge_6 : decode cX9_merge 6 = .ok (.aload_n 0, 1) := by decide +kernel
theorem dX9_merge_7 : decode cX9_merge 7 = .ok (.aload_n 0, 1) := by decide +kernel
theorem dX9_merge_8 : decode cX9_merge 8 = .ok (.getfield 21, 3) := by decide +kernel
theorem dX9_merge_11 : decode cX9_merge 11 = .ok (.iload_n 1, 1) := by decide +kernel
theorem dX9_merge_12 : decode cX9_merge 12 = .ok (.iload_n 2, 1) := by decide +kernel
theorem dX9_merge_13 : decode cX9_merge 13 = .ok (.invokevirtual 221, 3) := by decide +kernel
theorem dX9_merge_16 : decode cX9_merge 16 = .ok (.invokevirtual 86, 3) := by decide +kernel
theorem dX9_merge_19 : decode cX9_merge 19 = .ok (.aload_n 0, 1) := by decide +kernel
theorem dX9_merge_20 : decode cX9_merge 20 = .ok (.getfield 37, 3) := by decide +kernel
theorem dX9_merge_23 : decode cX9_merge 23 = .ok (.aload_n 0, 1) := by decide +kernel
theorem dX9_merge_24 : decode cX9_merge 24 = .ok (.getfield 10, 3) := by decide +kernel
theorem dX9_merge_27 : decode cX9_merge 27 = .ok (.invokevirtual 90, 3) := by decide +kernel
theorem dX9_merge_30 : decode cX9_merge 30 = .ok (.aload_n 0, 1) := by decide +kernel
theorem dX9_merge_31 : decode cX9_merge 31 = .ok (.getfield 30, 3) := by decide +kernel
theorem dX9_merge_34 : decode cX9_merge 34 = .ok (.iload_n 1, 1) := by decide +kernel
theorem dX9_merge_35 : decode cX9_merge 35 = .ok (.iload_n 2, 1) := by decide +kernel
theorem dX9_merge_36 : decode cX9_merge 36 = .ok (.invokevirtual 224, 3) := by decide +kernel
theorem dX9_merge_39 : decode cX9_merge 39 = .ok (.ireturn, 1) := by decide +kernel
theorem dX9_snap_0 : decode cX9_snap 0 = .ok (.aload_n 0, 1) := by decide +kernel
theorem dX9_snap_1 : decode cX9_snap 1 = .ok (.iload_n 1, 1) := by decide +kernel
theorem dX9_snap_2 : decode cX9_snap 2 = .ok (.iload_n 2, 1) := by decide +kernel
theorem dX9_snap_3 : decode cX9_snap 3 = .ok (.invokevirtual 196, 3) := by decide +kernel
theorem dX9_snap_6 : decode cX9_snap 6 = .ok (.aload_n 0, 1) := by decide +kernel
theorem dX9_snap_7 : decode cX9_snap 7 = .ok (.aload_n 0, 1) := by decide +kernel
theorem dX9_snap_8 : decode cX9_snap 8 = .ok (.getfield 30, 3) := by decide +kernel
theorem dX9_snap_11 : decode cX9_snap 11 = .ok (.iload_n 1, 1) := by decide +kernel
theorem dX9_snap_12 : decode cX9_snap 12 = .ok (.iload_n 2, 1) := by decide +kernel
theorem dX9_snap_13 : decode cX9_snap 13 = .ok (.invokevirtual 227, 3) := by decide +kernel
theorem dX9_snap_16 : decode cX9_snap 16 = .ok (.invokevirtual 86, 3) := by decide +kernel
theorem dX9_snap_19 : decode cX9_snap 19 = .ok (.aload_n 0, 1) := by decide +kernel
theorem dX9_snap_20 : decode cX9_snap 20 = .ok (.getfield 37, 3) := by decide +kernel
theorem dX9_snap_23 : decode cX9_snap 23 = .ok (.aload_n 0, 1) := by decide +kernel
theorem dX9_snap_24 : decode cX9_snap 24 = .ok (.getfield 10, 3) := by decide +kernel
theorem dX9_snap_27 : decode cX9_snap 27 = .ok (.invokevirtual 90, 3) := by decide +kernel
theorem dX9_snap_30 : decode cX9_snap 30 = .ok (.aload_n 0, 1) := by decide +kernel
theorem dX9_snap_31 : decode cX9_snap 31 = .ok (.getfield 30, 3) := by decide +kernel
theorem dX9_snap_34 : decode cX9_snap 34 = .ok (.iload_n 1, 1) := by decide +kernel
theorem dX9_snap_35 : decode cX9_snap 35 = .ok (.iload_n 2, 1) := by decide +kernel
theorem dX9_snap_36 : decode cX9_snap 36 = .ok (.invokevirtual 230, 3) := by decide +kernel
theorem dX9_snap_39 : decode cX9_snap 39 = .ok (.ireturn, 1) := by decide +kernel
theorem dX9_fit_0 : decode cX9_fit 0 = .ok (.aload_n 0, 1) := by decide +kernel
theorem dX9_fit_1 : decode cX9_fit 1 = .ok (.iload_n 1, 1) := by decide +kernel
theorem dX9_fit_2 : decode cX9_fit 2 = .ok (.iload_n 2, 1) := by decide +kernel
theorem dX9_fit_3 : decode cX9_fit 3 = .ok (.invokevirtual 196, 3) := by decide +kernel
theorem dX9_fit_6 : decode cX9_fit 6 = .ok (.aload_n 0, 1) := by decide +kernel
theorem dX9_fit_7 : decode cX9_fit 7 = .ok (.getfield 37, 3) := by decide +kernel
theorem dX9_fit_10 : decode cX9_fit 10 = .ok (.aload_n 0, 1) := by decide +kernel
theorem dX9_fit_11 : decode cX9_fit 11 = .ok (.getfield 10, 3) := by decide +kernel
theorem dX9_fit_14 : decode cX9_fit 14 = .ok (.invokevirtual 90, 3) := by decide +kernel
theorem dX9_fit_17 : decode cX9_fit 17 = .ok (.aload_n 0, 1) := by decide +kernel
theorem dX9_fit_18 : decode cX9_fit 18 = .ok (.getfield 30, 3) := by decide +kernel
theorem dX9_fit_21 : decode cX9_fit 21 = .ok (.iload_n 1, 1) := by decide +kernel
theorem dX9_fit_22 : decode cX9_fit 22 = .ok (.iload_n 2, 1) := by decide +kernel
theorem dX9_fit_23 : decode cX9_fit 23 = .ok (.invokevirtual 233, 3) := by decide +kernel
theorem dX9_fit_26 : decode cX9_fit 26 = .ok (.ireturn, 1) := by decide +kernel
theorem dX9_retime_0 : decode cX9_retime 0 = .ok (.iload_n 1, 1) := by decide +kernel
theorem dX9_retime_1 : decode cX9_retime 1 = .ok (.iconst (-1), 1) := by decide +kernel
theorem dX9_retime_2 : decode cX9_retime 2 = .ok (.if_icmp .eq 8, 3) := by decide +kernel
theorem dX9_retime_5 : decode cX9_retime 5 = .ok (.aload_n 0, 1) := by decide +kernel
theorem dX9_retime_6 : decode cX9_retime 6 = .ok (.iload_n 1, 1) := by decide +kernel
theorem dX9_retime_7 : decode cX9_retime 7 = .ok (.invokevirtual 184, 3) := by decide +kernel
theorem dX9_retime_10 : decode cX9_retime 10 = .ok (.iload_n 2, 1) := by decide +kernel
theorem dX9_retime_11 : decode cX9_retime 11 = .ok (.iload_n 3, 1) := by decide +kernel
theorem dX9_retime_12 : decode cX9_retime 12 = .ok (.iload 4, 2) := by decide +kernel
theorem dX9_retime_14 : decode cX9_retime 14 = .ok (.iload 5, 2) := by decide +kernel
theorem dX9_retime_16 : decode cX9_retime 16 = .ok (.invokestatic 236, 3) := by decide +kernel
theorem dX9_retime_19 : decode cX9_retime 19 = .ok (.ifCond .ne 13, 3) := by decide +kernel
theorem dX9_retime_22 : decode cX9_retime 22 = .ok (.new 75, 3) := by decide +kernel
theorem dX9_retime_25 : decode cX9_retime 25 = .ok (.dup, 1) := by decide +kernel
theorem dX9_retime_26 : decode cX9_retime 26 = .ok (.ldc 240, 2) := by decide +kernel
theorem dX9_retime_28 : decode cX9_retime 28 = .ok (.invokespecial 79, 3) := by decide +kernel
theorem dX9_retime_31 : decode cX9_retime 31 = .ok (.athrow, 1) := by decide +kernel
theorem dX9_retime_32 : decode cX9_retime 32 = .ok (.new 242, 3) := by decide +kernel
theorem dX9_retime_35 : decode cX9_retime 35 = .ok (.dup, 1) := by decide +kernel
theorem dX9_retime_36 : decode cX9_retime 36 = .ok (.iload_n 2, 1) := by decide +kernel
theorem dX9_retime_37 : decode cX9_retime 37 = .ok (.iload_n 3, 1) := by decide +kernel
theorem dX9_retime_38 : decode cX9_retime 38 = .ok (.iload 4, 2) := by decide +kernel
theorem dX9_retime_40 : decode cX9_retime 40 = .ok (.iload 5, 2) := by decide +kernel
theorem dX9_retime_42 : decode cX9_retime 42 = .ok (.invokespecial 244, 3) := by decide +kernel
theorem dX9_retime_45 : decode cX9_retime 45 = .ok (.astore 6, 2) := by decide +kernel
theorem dX9_retime_47 : decode cX9_retime 47 = .ok (.aload_n 0, 1) := by decide +kernel
theorem dX9_retime_48 : decode cX9_retime 48 = .ok (.aload_n 0, 1) := by decide +kernel
theorem dX9_retime_49 : decode cX9_retime 49 = .ok (.getfield 30, 3) := by decide +kernel
theorem dX9_retime_52 : decode cX9_retime 52 = .ok (.iload_n 1, 1) := by decide +kernel
theorem dX9_retime_53 : decode cX9_retime 53 = .ok (.aload 6, 2) := by decide +kernel
theorem dX9_retime_55 : decode cX9_retime 55 = .ok (.invokevirtual 247, 3) := by decide +kernel
theorem dX9_retime_58 : decode cX9_retime 58 = .ok (.invokevirtual 86, 3) := by decide +kernel
theorem dX9_retime_61 : decode cX9_retime 61 = .ok (.aload_n 0, 1) := by decide +kernel
theorem dX9_retime_62 : decode cX9_retime 62 = .ok (.getfield 37, 3) := by decide +kernel
theorem dX9_retime_65 : decode cX9_retime 65 = .ok (.aload_n 0, 1) := by decide +kernel
theorem dX9_retime_66 : decode cX9_retime 66 = .ok (.getfield 10, 3) := by decide +kernel
theorem dX9_retime_69 : decode cX9_retime 69 = .ok (.invokevirtual 90, 3) := by decide +kernel
theorem dX9_retime_72 : decode cX9_retime 72 = .ok (.aload_n 0, 1) := by decide +kernel
theorem dX9_retime_73 : decode cX9_retime 73 = .ok (.getfield 30, 3) := by decide +kernel
theorem dX9_retime_76 : decode cX9_retime 76 = .ok (.iload_n 1, 1) := by decide +kernel
theorem dX9_retime_77 : decode cX9_retime 77 = .ok (.aload 6, 2) := by decide +kernel
theorem dX9_retime_79 : decode cX9_retime 79 = .ok (.invokevirtual 251, 3) := by decide +kernel
theorem dX9_retime_82 : decode cX9_retime 82 = .ok (.ireturn, 1) := by decide +kernel
theorem dX9_caption_0 : decode cX9_caption 0 = .ok (.aload_n 0, 1) := by decide +kernel
theorem dX9_caption_1 : decode cX9_caption 1 = .ok (.iload_n 1, 1) := by decide +kernel
theorem dX9_caption_2 : decode cX9_caption 2 = .ok (.iload_n 2, 1) := by decide +kernel
theorem dX9_caption_3 : decode cX9_caption 3 = .ok (.invokevirtual 196, 3) := by decide +kernel
theorem dX9_caption_6 : decode cX9_caption 6 = .ok (.aload_n 0, 1) := by decide +kernel
theorem dX9_caption_7 : decode cX9_caption 7 = .ok (.getfield 10, 3) := by decide +kernel
theorem dX9_caption_10 : decode cX9_caption 10 = .ok (.iload_n 1, 1) := by decide +kernel
theorem dX9_caption_11 : decode cX9_caption 11 = .ok (.invokevirtual 138, 3) := by decide +kernel
theorem dX9_caption_14 : decode cX9_caption 14 = .ok (.astore 4, 2) := by decide +kernel
theorem dX9_caption_16 : decode cX9_caption 16 = .ok (.iload_n 3, 1) := by decide +kernel
theorem dX9_caption_17 : decode cX9_caption 17 = .ok (.tableswitch 162 0 11 #[63, 70, 77, 84, 91, 101, 111, 121, 128, 135, 145, 152], 63) := by decide +kernel
theorem dX9_caption_80 : decode cX9_caption 80 = .ok (.aload 4, 2) := by decide +kernel
theorem dX9_caption_82 : decode cX9_caption 82 = .ok (.iload_n 2, 1) := by decide +kernel
theorem dX9_caption_83 : decode cX9_caption 83 = .ok (.invokevirtual 254, 3) := by decide +kernel
theorem dX9_caption_86 : decode cX9_caption 86 = .ok (.ireturn, 1) := by decide +kernel
theorem dX9_caption_87 : decode cX9_caption 87 = .ok (.aload 4, 2) := by decide +kernel
theorem dX9_caption_89 : decode cX9_caption 89 = .ok (.iload_n 2, 1) := by decide +kernel
theorem dX9_caption_90 : decode cX9_caption 90 = .ok (.invokevirtual 257, 3) := by decide +kernel
theorem dX9_caption_93 : decode cX9_caption 93 = .ok (.ireturn, 1) := by decide +kernel
theorem dX9_caption_94 : decode cX9_caption 94 = .ok (.aload 4, 2) := by decide +kernel
theorem dX9_caption_96 : decode cX9_caption 96 = .ok (.iload_n 2, 1) := by decide +kernel
theorem dX9_caption_97 : decode cX9_caption 97 = .ok (.invokevirtual 260, 3) := by decide +kernel
theorem dX9_caption_100 : decode cX9_caption 100 = .ok (.ireturn, 1) := by decide +kernel
theorem dX9_caption_101 : decode cX9_caption 101 = .ok (.aload 4, 2) := by decide +kernel
theorem dX9_caption_103 : decode cX9_caption 103 = .ok (.iload_n 2, 1) := by decide +kernel
theorem dX9_caption_104 : decode cX9_caption 104 = .ok (.invokevirtual 263, 3) := by decide +kernel
theorem dX9_caption_107 : decode cX9_caption 107 = .ok (.ireturn, 1) := by decide +kernel
theorem dX9_caption_108 : decode cX9_caption 108 = .ok (.aload_n 0, 1) := by decide +kernel
theorem dX9_caption_109 : decode cX9_caption 109 = .ok (.getfield 21, 3) := by decide +kernel
theorem dX9_caption_112 : decode cX9_caption 112 = .ok (.iload_n 1, 1) := by decide +kernel
theorem dX9_caption_113 : decode cX9_caption 113 = .ok (.iload_n 2, 1) := by decide +kernel
theorem dX9_caption_114 : decode cX9_caption 114 = .ok (.invokevirtual 266, 3) := by decide +kernel
theorem dX9_caption_117 : decode cX9_caption 117 = .ok (.ireturn, 1) := by decide +kernel
theorem dX9_caption_118 : decode cX9_caption 118 = .ok (.aload_n 0, 1) := by decide +kernel
theorem dX9_caption_119 : decode cX9_caption 119 = .ok (.getfield 21, 3) := by decide +kernel
theorem dX9_caption_122 : decode cX9_caption 122 = .ok (.iload_n 1, 1) := by decide +kernel
theorem dX9_caption_123 : decode cX9_caption 123 = .ok (.iload_n 2, 1) := by decide +kernel
theorem dX9_caption_124 : decode cX9_caption 124 = .ok (.invokevirtual 269, 3) := by decide +kernel
theorem dX9_caption_127 : decode cX9_caption 127 = .ok (.ireturn, 1) := by decide +kernel
theorem dX9_caption_128 : decode cX9_caption 128 = .ok (.aload_n 0, 1) := by decide +kernel
theorem dX9_caption_129 : decode cX9_caption 129 = .ok (.getfield 21, 3) := by decide +kernel
theorem dX9_caption_132 : decode cX9_caption 132 = .ok (.iload_n 1, 1) := by decide +kernel
theorem dX9_caption_133 : decode cX9_caption 133 = .ok (.iload_n 2, 1) := by decide +kernel
theorem dX9_caption_134 : decode cX9_caption 134 = .ok (.invokevirtual 272, 3) := by decide +kernel
theorem dX9_caption_137 : decode cX9_caption 137 = .ok (.ireturn, 1) := by decide +kernel
theorem dX9_caption_138 : decode cX9_caption 138 = .ok (.aload 4, 2) := by decide +kernel
theorem dX9_caption_140 : decode cX9_caption 140 = .ok (.iload_n 2, 1) := by decide +kernel
theorem dX9_caption_141 : decode cX9_caption 141 = .ok (.invokevirtual 210, 3) := by decide +kernel
theorem dX9_caption_144 : decode cX9_caption 144 = .ok (.ireturn, 1) := by decide +kernel
theorem dX9_caption_145 : decode cX9_caption 145 = .ok (.aload 4, 2) := by decide +kernel
theorem dX9_caption_147 : decode cX9_caption 147 = .ok (.iload_n 2, 1) := by decide +kernel
theorem dX9_caption_148 : decode cX9_caption 148 = .ok (.invokevirtual 275, 3) := by decide +kernel
theorem dX9_caption_151 : decode cX9_caption 151 = .ok (.ireturn, 1) := by decide +kernel
theorem dX9_caption_152 : decode cX9_caption 152 = .ok (.aload_n 0, 1) := by decide +kernel
theorem dX9_caption_153 : decode cX9_caption 153 = .ok (.getfield 21, 3) := by decide +kernel
theorem dX9_caption_156 : decode cX9_caption 156 = .ok (.iload_n 1, 1) := by decide +kernel
theorem dX9_caption_157 : decode cX9_caption 157 = .ok (.iload_n 2, 1) := by decide +kernel
theorem dX9_caption_158 : decode cX9_caption 158 = .ok (.invokevirtual 278, 3) := by decide +kernel
theorem dX9_caption_161 : decode cX9_caption 161 = .ok (.ireturn, 1) := by decide +kernel
theorem dX9_caption_162 : decode cX9_caption 162 = .ok (.aload 4, 2) := by decide +kernel
theorem dX9_caption_164 : decode cX9_caption 164 = .ok (.iload_n 2, 1) := by decide +kernel
theorem dX9_caption_165 : decode cX9_caption 165 = .ok (.invokevirtual 281, 3) := by decide +kernel
theorem dX9_caption_168 : decode cX9_caption 168 = .ok (.ireturn, 1) := by decide +kernel
theorem dX9_caption_169 : decode cX9_caption 169 = .ok (.aload_n 0, 1) := by decide +kernel
theorem dX9_caption_170 : decode cX9_caption 170 = .ok (.getfield 21, 3) := by decide +kernel
theorem dX9_caption_173 : decode cX9_caption 173 = .ok (.iload_n 1, 1) := by decide +kernel
theorem dX9_caption_174 : decode cX9_caption 174 = .ok (.iload_n 2, 1) := by decide +kernel
theorem dX9_caption_175 : decode cX9_caption 175 = .ok (.invokevirtual 284, 3) := by decide +kernel
theorem dX9_caption_178 : decode cX9_caption 178 = .ok (.ireturn, 1) := by decide +kernel
theorem dX9_caption_179 : decode cX9_caption 179 = .ok (.new 75, 3) := by decide +kernel
theorem dX9_caption_182 : decode cX9_caption 182 = .ok (.dup, 1) := by decide +kernel
theorem dX9_caption_183 : decode cX9_caption 183 = .ok (.ldc 159, 2) := by decide +kernel
theorem dX9_caption_185 : decode cX9_caption 185 = .ok (.invokespecial 79, 3) := by decide +kernel
theorem dX9_caption_188 : decode cX9_caption 188 = .ok (.athrow, 1) := by decide +kernel
theorem dX9_letter_0 : decode cX9_letter 0 = .ok (.aload_n 0, 1) := by decide +kernel
theorem dX9_letter_1 : decode cX9_letter 1 = .ok (.iload_n 1, 1) := by decide +kernel
theorem dX9_letter_2 : decode cX9_letter 2 = .ok (.iload_n 2, 1) := by decide +kernel
theorem dX9_letter_3 : decode cX9_letter 3 = .ok (.invokevirtual 196, 3) := by decide +kernel
theorem dX9_letter_6 : decode cX9_letter 6 = .ok (.aload_n 0, 1) := by decide +kernel
theorem dX9_letter_7 : decode cX9_letter 7 = .ok (.getfield 10, 3) := by decide +kernel
theorem dX9_letter_10 : decode cX9_letter 10 = .ok (.iload_n 1, 1) := by decide +kernel
theorem dX9_letter_11 : decode cX9_letter 11 = .ok (.invokevirtual 138, 3) := by decide +kernel
theorem dX9_letter_14 : decode cX9_letter 14 = .ok (.iload_n 2, 1) := by decide +kernel
theorem dX9_letter_15 : decode cX9_letter 15 = .ok (.iload_n 3, 1) := by decide +kernel
theorem dX9_letter_16 : decode cX9_letter 16 = .ok (.invokevirtual 287, 3) := by decide +kernel
theorem dX9_letter_19 : decode cX9_letter 19 = .ok (.istore 4, 2) := by decide +kernel
theorem dX9_letter_21 : decode cX9_letter 21 = .ok (.iload 4, 2) := by decide +kernel
theorem dX9_letter_23 : decode cX9_letter 23 = .ok (.iconst (-1), 1) := by decide +kernel
theorem dX9_letter_24 : decode cX9_letter 24 = .ok (.if_icmp .ne 13, 3) := by decide +kernel
theorem dX9_letter_27 : decode cX9_letter 27 = .ok (.new 290, 3) := by decide +kernel
theorem dX9_letter_30 : decode cX9_letter 30 = .ok (.dup, 1) := by decide +kernel
theorem dX9_letter_31 : decode cX9_letter 31 = .ok (.ldc 212, 2) := by decide +kernel
theorem dX9_letter_33 : decode cX9_letter 33 = .ok (.invokespecial 292, 3) := by decide +kernel
theorem dX9_letter_36 : decode cX9_letter 36 = .ok (.athrow, 1) := by decide +kernel
theorem dX9_letter_37 : decode cX9_letter 37 = .ok (.iload 4, 2) := by decide +kernel
theorem dX9_letter_39 : decode cX9_letter 39 = .ok (.i2c, 1) := by decide +kernel
theorem dX9_letter_40 : decode cX9_letter 40 = .ok (.ireturn, 1) := by decide +kernel
theorem dX9_shown_0 : decode cX9_shown 0 = .ok (.aload_n 0, 1) := by decide +kernel
theorem dX9_shown_1 : decode cX9_shown 1 = .ok (.iload_n 1, 1) := by decide +kernel
theorem dX9_shown_2 : decode cX9_shown 2 = .ok (.invokevirtual 184, 3) := by decide +kernel
theorem dX9_shown_5 : decode cX9_shown 5 = .ok (.aload_n 0, 1) := by decide +kernel
theorem dX9_shown_6 : decode cX9_shown 6 = .ok (.getfield 10, 3) := by decide +kernel
theorem dX9_shown_9 : decode cX9_shown 9 = .ok (.iload_n 2, 1) := by decide +kernel
theorem dX9_shown_10 : decode cX9_shown 10 = .ok (.invokevirtual 164, 3) := by decide +kernel
theorem dX9_shown_13 : decode cX9_shown 13 = .ok (.ifCond .ne 13, 3) := by decide +kernel
theorem dX9_shown_16 : decode cX9_shown 16 = .ok (.new 110, 3) := by decide +kernel
theorem dX9_shown_19 : decode cX9_shown 19 = .ok (.dup, 1) := by decide +kernel
theorem dX9_shown_20 : decode cX9_shown 20 = .ok (.ldc 167, 2) := by decide +kernel
theorem dX9_shown_22 : decode cX9_shown 22 = .ok (.invokespecial 114, 3) := by decide +kernel
theorem dX9_shown_25 : decode cX9_shown 25 = .ok (.athrow, 1) := by decide +kernel
theorem dX9_shown_26 : decode cX9_shown 26 = .ok (.aload_n 0, 1) := by decide +kernel
theorem dX9_shown_27 : decode cX9_shown 27 = .ok (.getfield 10, 3) := by decide +kernel
theorem dX9_shown_30 : decode cX9_shown 30 = .ok (.iload_n 1, 1) := by decide +kernel
theorem dX9_shown_31 : decode cX9_shown 31 = .ok (.invokevirtual 138, 3) := by decide +kernel
theorem dX9_shown_34 : decode cX9_shown 34 = .ok (.iload_n 2, 1) := by decide +kernel
theorem dX9_shown_35 : decode cX9_shown 35 = .ok (.invokevirtual 293, 3) := by decide +kernel
theorem dX9_shown_38 : decode cX9_shown 38 = .ok (.istore_n 3, 1) := by decide +kernel
theorem dX9_shown_39 : decode cX9_shown 39 = .ok (.iload_n 3, 1) := by decide +kernel
theorem dX9_shown_40 : decode cX9_shown 40 = .ok (.iconst (-1), 1) := by decide +kernel
theorem dX9_shown_41 : decode cX9_shown 41 = .ok (.if_icmp .ne 14, 3) := by decide +kernel
theorem dX9_shown_44 : decode cX9_shown 44 = .ok (.new 290, 3) := by decide +kernel
theorem dX9_shown_47 : decode cX9_shown 47 = .ok (.dup, 1) := by decide +kernel
theorem dX9_shown_48 : decode cX9_shown 48 = .ok (.ldc_w 296, 3) := by decide +kernel
theorem dX9_shown_51 : decode cX9_shown 51 = .ok (.invokespecial 292, 3) := by decide +kernel
theorem dX9_shown_54 : decode cX9_shown 54 = .ok (.athrow, 1) := by decide +kernel
theorem dX9_shown_55 : decode cX9_shown 55 = .ok (.iload_n 3, 1) := by decide +kernel
theorem dX9_shown_56 : decode cX9_shown 56 = .ok (.ireturn, 1) := by decide +kernel
theorem dX9_track_0 : decode cX9_track 0 = .ok (.aload_n 0, 1) := by decide +kernel
theorem dX9_track_1 : decode cX9_track 1 = .ok (.iload_n 1, 1) := by decide +kernel
theorem dX9_track_2 : decode cX9_track 2 = .ok (.invokevirtual 184, 3) := by decide +kernel
theorem dX9_track_5 : decode cX9_track 5 = .ok (.iload_n 2, 1) := by decide +kernel
theorem dX9_track_6 : decode cX9_track 6 = .ok (.tableswitch 146 0 8 #[50, 62, 74, 84, 95, 106, 117, 128, 137], 50) := by decide +kernel
theorem dX9_track_56 : decode cX9_track 56 = .ok (.aload_n 0, 1) := by decide +kernel
theorem dX9_track_57 : decode cX9_track 57 = .ok (.getfield 10, 3) := by decide +kernel
theorem dX9_track_60 : decode cX9_track 60 = .ok (.iload_n 1, 1) := by decide +kernel
theorem dX9_track_61 : decode cX9_track 61 = .ok (.invokevirtual 138, 3) := by decide +kernel
theorem dX9_track_64 : decode cX9_track 64 = .ok (.invokevirtual 298, 3) := by decide +kernel
theorem dX9_track_67 : decode cX9_track 67 = .ok (.ireturn, 1) := by decide +kernel
theorem dX9_track_68 : decode cX9_track 68 = .ok (.aload_n 0, 1) := by decide +kernel
theorem dX9_track_69 : decode cX9_track 69 = .ok (.getfield 10, 3) := by decide +kernel
theorem dX9_track_72 : decode cX9_track 72 = .ok (.iload_n 1, 1) := by decide +kernel
theorem dX9_track_73 : decode cX9_track 73 = .ok (.invokevirtual 138, 3) := by decide +kernel
theorem dX9_track_76 : decode cX9_track 76 = .ok (.invokevirtual 301, 3) := by decide +kernel
theorem dX9_track_79 : decode cX9_track 79 = .ok (.ireturn, 1) := by decide +kernel
theorem dX9_track_80 : decode cX9_track 80 = .ok (.aload_n 0, 1) := by decide +kernel
theorem dX9_track_81 : decode cX9_track 81 = .ok (.getfield 21, 3) := by decide +kernel
theorem dX9_track_84 : decode cX9_track 84 = .ok (.iload_n 1, 1) := by decide +kernel
theorem dX9_track_85 : decode cX9_track 85 = .ok (.iconst 1, 1) := by decide +kernel
theorem dX9_track_86 : decode cX9_track 86 = .ok (.invokevirtual 149, 3) := by decide +kernel
theorem dX9_track_89 : decode cX9_track 89 = .ok (.ireturn, 1) := by decide +kernel
theorem dX9_track_90 : decode cX9_track 90 = .ok (.aload_n 0, 1) := by decide +kernel
theorem dX9_track_91 : decode cX9_track 91 = .ok (.getfield 21, 3) := by decide +kernel
theorem dX9_track_94 : decode cX9_track 94 = .ok (.iload_n 1, 1) := by decide +kernel
theorem dX9_track_95 : decode cX9_track 95 = .ok (.bipush 6, 2) := by decide +kernel
theorem dX9_track_97 : decode cX9_track 97 = .ok (.invokevirtual 149, 3) := by decide +kernel
theorem dX9_track_100 : decode cX9_track 100 = .ok (.ireturn, 1) := by decide +kernel
theorem dX9_track_101 : decode cX9_track 101 = .ok (.aload_n 0, 1) := by decide +kernel
theorem dX9_track_102 : decode cX9_track 102 = .ok (.getfield 21, 3) := by decide +kernel
theorem dX9_track_105 : decode cX9_track 105 = .ok (.iload_n 1, 1) := by decide +kernel
theorem dX9_track_106 : decode cX9_track 106 = .ok (.bipush 8, 2) := by decide +kernel
theorem dX9_track_108 : decode cX9_track 108 = .ok (.invokevirtual 149, 3) := by decide +kernel
theorem dX9_track_111 : decode cX9_track 111 = .ok (.ireturn, 1) := by decide +kernel
theorem dX9_track_112 : decode cX9_track 112 = .ok (.aload_n 0, 1) := by decide +kernel
theorem dX9_track_113 : decode cX9_track 113 = .ok (.getfield 21, 3) := by decide +kernel
theorem dX9_track_116 : decode cX9_track 116 = .ok (.iload_n 1, 1) := by decide +kernel
theorem dX9_track_117 : decode cX9_track 117 = .ok (.bipush 16, 2) := by decide +kernel
theorem dX9_track_119 : decode cX9_track 119 = .ok (.invokevirtual 149, 3) := by decide +kernel
theorem dX9_track_122 : decode cX9_track 122 = .ok (.ireturn, 1) := by decide +kernel
theorem dX9_track_123 : decode cX9_track 123 = .ok (.aload_n 0, 1) := by decide +kernel
theorem dX9_track_124 : decode cX9_track 124 = .ok (.getfield 21, 3) := by decide +kernel
theorem dX9_track_127 : decode cX9_track 127 = .ok (.iload_n 1, 1) := by decide +kernel
theorem dX9_track_128 : decode cX9_track 128 = .ok (.bipush 32, 2) := by decide +kernel
theorem dX9_track_130 : decode cX9_track 130 = .ok (.invokevirtual 149, 3) := by decide +kernel
theorem dX9_track_133 : decode cX9_track 133 = .ok (.ireturn, 1) := by decide +kernel
theorem dX9_track_134 : decode cX9_track 134 = .ok (.aload_n 0, 1) := by decide +kernel
theorem dX9_track_135 : decode cX9_track 135 = .ok (.getfield 21, 3) := by decide +kernel
theorem dX9_track_138 : decode cX9_track 138 = .ok (.iload_n 1, 1) := by decide +kernel
theorem dX9_track_139 : decode cX9_track 139 = .ok (.invokevirtual 304, 3) := by decide +kernel
theorem dX9_track_142 : decode cX9_track 142 = .ok (.ireturn, 1) := by decide +kernel
theorem dX9_track_143 : decode cX9_track 143 = .ok (.aload_n 0, 1) := by decide +kernel
theorem dX9_track_144 : decode cX9_track 144 = .ok (.getfield 21, 3) := by decide +kernel
theorem dX9_track_147 : decode cX9_track 147 = .ok (.iload_n 1, 1) := by decide +kernel
theorem dX9_track_148 : decode cX9_track 148 = .ok (.invokevirtual 307, 3) := by decide +kernel
theorem dX9_track_151 : decode cX9_track 151 = .ok (.ireturn, 1) := by decide +kernel
theorem dX9_track_152 : decode cX9_track 152 = .ok (.new 75, 3) := by decide +kernel
theorem dX9_track_155 : decode cX9_track 155 = .ok (.dup, 1) := by decide +kernel
theorem dX9_track_156 : decode cX9_track 156 = .ok (.ldc 159, 2) := by decide +kernel
theorem dX9_track_158 : decode cX9_track 158 = .ok (.invokespecial 79, 3) := by decide +kernel
theorem dX9_track_161 : decode cX9_track 161 = .ok (.athrow, 1) := by decide +kernel
theorem dX9_fastest_0 : decode cX9_fastest 0 = .ok (.aload_n 0, 1) := by decide +kernel
theorem dX9_fastest_1 : decode cX9_fastest 1 = .ok (.iload_n 1, 1) := by decide +kernel
theorem dX9_fastest_2 : decode cX9_fastest 2 = .ok (.invokevirtual 184, 3) := by decide +kernel
theorem dX9_fastest_5 : decode cX9_fastest 5 = .ok (.aload_n 0, 1) := by decide +kernel
theorem dX9_fastest_6 : decode cX9_fastest 6 = .ok (.getfield 10, 3) := by decide +kernel
theorem dX9_fastest_9 : decode cX9_fastest 9 = .ok (.iload_n 1, 1) := by decide +kernel
theorem dX9_fastest_10 : decode cX9_fastest 10 = .ok (.invokevirtual 138, 3) := by decide +kernel
theorem dX9_fastest_13 : decode cX9_fastest 13 = .ok (.invokevirtual 310, 3) := by decide +kernel
theorem dX9_fastest_16 : decode cX9_fastest 16 = .ok (.istore_n 2, 1) := by decide +kernel
theorem dX9_fastest_17 : decode cX9_fastest 17 = .ok (.iload_n 2, 1) := by decide +kernel
theorem dX9_fastest_18 : decode cX9_fastest 18 = .ok (.iconst (-1), 1) := by decide +kernel
theorem dX9_fastest_19 : decode cX9_fastest 19 = .ok (.if_icmp .ne 14, 3) := by decide +kernel
theorem dX9_fastest_22 : decode cX9_fastest 22 = .ok (.new 290, 3) := by decide +kernel
theorem dX9_fastest_25 : decode cX9_fastest 25 = .ok (.dup, 1) := by decide +kernel
theorem dX9_fastest_26 : decode cX9_fastest 26 = .ok (.ldc_w 313, 3) := by decide +kernel
theorem dX9_fastest_29 : decode cX9_fastest 29 = .ok (.invokespecial 292, 3) := by decide +kernel
theorem dX9_fastest_32 : decode cX9_fastest 32 = .ok (.athrow, 1) := by decide +kernel
theorem dX9_fastest_33 : decode cX9_fastest 33 = .ok (.iload_n 2, 1) := by decide +kernel
theorem dX9_fastest_34 : decode cX9_fastest 34 = .ok (.ireturn, 1) := by decide +kernel
theorem dX9_speed_0 : decode cX9_speed 0 = .ok (.aload_n 0, 1) := by decide +kernel
theorem dX9_speed_1 : decode cX9_speed 1 = .ok (.iload_n 1, 1) := by decide +kernel
theorem dX9_speed_2 : decode cX9_speed 2 = .ok (.invokevirtual 184, 3) := by decide +kernel
theorem dX9_speed_5 : decode cX9_speed 5 = .ok (.aload_n 0, 1) := by decide +kernel
theorem dX9_speed_6 : decode cX9_speed 6 = .ok (.getfield 10, 3) := by decide +kernel
theorem dX9_speed_9 : decode cX9_speed 9 = .ok (.iload_n 1, 1) := by decide +kernel
theorem dX9_speed_10 : decode cX9_speed 10 = .ok (.invokevirtual 138, 3) := by decide +kernel
theorem dX9_speed_13 : decode cX9_speed 13 = .ok (.invokevirtual 298, 3) := by decide +kernel
theorem dX9_speed_16 : decode cX9_speed 16 = .ok (.istore_n 2, 1) := by decide +kernel
theorem dX9_speed_17 : decode cX9_speed 17 = .ok (.iload_n 2, 1) := by decide +kernel
theorem dX9_speed_18 : decode cX9_speed 18 = .ok (.ifCond .gt 14, 3) := by decide +kernel
theorem dX9_speed_21 : decode cX9_speed 21 = .ok (.new 315, 3) := by decide +kernel
theorem dX9_speed_24 : decode cX9_speed 24 = .ok (.dup, 1) := by decide +kernel
theorem dX9_speed_25 : decode cX9_speed 25 = .ok (.ldc_w 313, 3) := by decide +kernel
theorem dX9_speed_28 : decode cX9_speed 28 = .ok (.invokespecial 317, 3) := by decide +kernel
theorem dX9_speed_31 : decode cX9_speed 31 = .ok (.athrow, 1) := by decide +kernel
theorem dX9_speed_32 : decode cX9_speed 32 = .ok (.ldc2_w 318, 3) := by decide +kernel
theorem dX9_speed_35 : decode cX9_speed 35 = .ok (.aload_n 0, 1) := by decide +kernel
theorem dX9_speed_36 : decode cX9_speed 36 = .ok (.getfield 10, 3) := by decide +kernel
theorem dX9_speed_39 : decode cX9_speed 39 = .ok (.iload_n 1, 1) := by decide +kernel
theorem dX9_speed_40 : decode cX9_speed 40 = .ok (.invokevirtual 138, 3) := by decide +kernel
theorem dX9_speed_43 : decode cX9_speed 43 = .ok (.invokevirtual 301, 3) := by decide +kernel
theorem dX9_speed_46 : decode cX9_speed 46 = .ok (.i2d, 1) := by decide +kernel
theorem dX9_speed_47 : decode cX9_speed 47 = .ok (.dmul, 1) := by decide +kernel
theorem dX9_speed_48 : decode cX9_speed 48 = .ok (.iload_n 2, 1) := by decide +kernel
theorem dX9_speed_49 : decode cX9_speed 49 = .ok (.i2d, 1) := by decide +kernel
theorem dX9_speed_50 : decode cX9_speed 50 = .ok (.ddiv, 1) := by decide +kernel
theorem dX9_speed_51 : decode cX9_speed 51 = .ok (.dreturn, 1) := by decide +kernel
theorem dX9_read_0 : decode cX9_read 0 = .ok (.aload_n 0, 1) := by decide +kernel
theorem dX9_read_1 : decode cX9_read 1 = .ok (.getfield 61, 3) := by decide +kernel
theorem dX9_read_4 : decode cX9_read 4 = .ok (.aload_n 0, 1) := by decide +kernel
theorem dX9_read_5 : decode cX9_read 5 = .ok (.getfield 51, 3) := by decide +kernel
theorem dX9_read_8 : decode cX9_read 8 = .ok (.invokevirtual 320, 3) := by decide +kernel
theorem dX9_read_11 : decode cX9_read 11 = .ok (.istore_n 1, 1) := by decide +kernel
theorem dX9_read_12 : decode cX9_read 12 = .ok (.iload_n 1, 1) := by decide +kernel
theorem dX9_read_13 : decode cX9_read 13 = .ok (.ifCond .eq 14, 3) := by decide +kernel
theorem dX9_read_16 : decode cX9_read 16 = .ok (.aload_n 0, 1) := by decide +kernel
theorem dX9_read_17 : decode cX9_read 17 = .ok (.invokevirtual 324, 3) := by decide +kernel
theorem dX9_read_20 : decode cX9_read 20 = .ok (.ifCond .eq 7, 3) := by decide +kernel
theorem dX9_read_23 : decode cX9_read 23 = .ok (.iconst 1, 1) := by decide +kernel
theorem dX9_read_24 : decode cX9_read 24 = .ok (.goto 4, 3) := by decide +kernel
theorem dX9_read_27 : decode cX9_read 27 = .ok (.iconst 0, 1) := by decide +kernel
theorem dX9_read_28 : decode cX9_read 28 = .ok (.istore_n 2, 1) := by decide +kernel
theorem dX9_read_29 : decode cX9_read 29 = .ok (.aload_n 0, 1) := by decide +kernel
theorem dX9_read_30 : decode cX9_read 30 = .ok (.getfield 51, 3) := by decide +kernel
theorem dX9_read_33 : decode cX9_read 33 = .ok (.invokevirtual 177, 3) := by decide +kernel
theorem dX9_read_36 : decode cX9_read 36 = .ok (.iload_n 1, 1) := by decide +kernel
theorem dX9_read_37 : decode cX9_read 37 = .ok (.ifCond .ne 25, 3) := by decide +kernel
theorem dX9_read_40 : decode cX9_read 40 = .ok (.aload_n 0, 1) := by decide +kernel
theorem dX9_read_41 : decode cX9_read 41 = .ok (.aload_n 0, 1) := by decide +kernel
theorem dX9_read_42 : decode cX9_read 42 = .ok (.getfield 61, 3) := by decide +kernel
theorem dX9_read_45 : decode cX9_read 45 = .ok (.getfield 328, 3) := by decide +kernel
theorem dX9_read_48 : decode cX9_read 48 = .ok (.putfield 65, 3) := by decide +kernel
theorem dX9_read_51 : decode cX9_read 51 = .ok (.new 75, 3) := by decide +kernel
theorem dX9_read_54 : decode cX9_read 54 = .ok (.dup, 1) := by decide +kernel
theorem dX9_read_55 : decode cX9_read 55 = .ok (.ldc_w 331, 3) := by decide +kernel
theorem dX9_read_58 : decode cX9_read 58 = .ok (.invokespecial 79, 3) := by decide +kernel
theorem dX9_read_61 : decode cX9_read 61 = .ok (.athrow, 1) := by decide +kernel
theorem dX9_read_62 : decode cX9_read 62 = .ok (.iload_n 2, 1) := by decide +kernel
theorem dX9_read_63 : decode cX9_read 63 = .ok (.ifCond .ne 14, 3) := by decide +kernel
theorem dX9_read_66 : decode cX9_read 66 = .ok (.new 333, 3) := by decide +kernel
theorem dX9_read_69 : decode cX9_read 69 = .ok (.dup, 1) := by decide +kernel
theorem dX9_read_70 : decode cX9_read 70 = .ok (.ldc_w 335, 3) := by decide +kernel
theorem dX9_read_73 : decode cX9_read 73 = .ok (.invokespecial 337, 3) := by decide +kernel
theorem dX9_read_76 : decode cX9_read 76 = .ok (.athrow, 1) := by decide +kernel
theorem dX9_read_77 : decode cX9_read 77 = .ok (.aload_n 0, 1) := by decide +kernel
theorem dX9_read_78 : decode cX9_read 78 = .ok (.getfield 61, 3) := by decide +kernel
theorem dX9_read_81 : decode cX9_read 81 = .ok (.getfield 338, 3) := by decide +kernel
theorem dX9_read_84 : decode cX9_read 84 = .ok (.ireturn, 1) := by decide +kernel
theorem dX9_faultPosition_0 : decode cX9_faultPosition 0 = .ok (.aload_n 0, 1) := by decide +kernel
theorem dX9_faultPosition_1 : decode cX9_faultPosition 1 = .ok (.getfield 65, 3) := by decide +kernel
theorem dX9_faultPosition_4 : decode cX9_faultPosition 4 = .ok (.iconst (-1), 1) := by decide +kernel
theorem dX9_faultPosition_5 : decode cX9_faultPosition 5 = .ok (.if_icmp .ne 14, 3) := by decide +kernel
theorem dX9_faultPosition_8 : decode cX9_faultPosition 8 = .ok (.new 290, 3) := by decide +kernel
theorem dX9_faultPosition_11 : decode cX9_faultPosition 11 = .ok (.dup, 1) := by decide +kernel
theorem dX9_faultPosition_12 : decode cX9_faultPosition 12 = .ok (.ldc_w 339, 3) := by decide +kernel
theorem dX9_faultPosition_15 : decode cX9_faultPosition 15 = .ok (.invokespecial 292, 3) := by decide +kernel
theorem dX9_faultPosition_18 : decode cX9_faultPosition 18 = .ok (.athrow, 1) := by decide +kernel
theorem dX9_faultPosition_19 : decode cX9_faultPosition 19 = .ok (.aload_n 0, 1) := by decide +kernel
theorem dX9_faultPosition_20 : decode cX9_faultPosition 20 = .ok (.getfield 65, 3) := by decide +kernel
theorem dX9_faultPosition_23 : decode cX9_faultPosition 23 = .ok (.ireturn, 1) := by decide +kernel
theorem dX9_refusal_0 : decode cX9_refusal 0 = .ok (.aload_n 0, 1) := by decide +kernel
theorem dX9_refusal_1 : decode cX9_refusal 1 = .ok (.getfield 69, 3) := by decide +kernel
theorem dX9_refusal_4 : decode cX9_refusal 4 = .ok (.ifCond .ne 14, 3) := by decide +kernel
theorem dX9_refusal_7 : decode cX9_refusal 7 = .ok (.new 290, 3) := by decide +kernel
theorem dX9_refusal_10 : decode cX9_refusal 10 = .ok (.dup, 1) := by decide +kernel
theorem dX9_refusal_11 : decode cX9_refusal 11 = .ok (.ldc_w 341, 3) := by decide +kernel
theorem dX9_refusal_14 : decode cX9_refusal 14 = .ok (.invokespecial 292, 3) := by decide +kernel
theorem dX9_refusal_17 : decode cX9_refusal 17 = .ok (.athrow, 1) := by decide +kernel
theorem dX9_refusal_18 : decode cX9_refusal 18 = .ok (.iload_n 1, 1) := by decide +kernel
theorem dX9_refusal_19 : decode cX9_refusal 19 = .ok (.ifCond .eq 10, 3) := by decide +kernel
theorem dX9_refusal_22 : decode cX9_refusal 22 = .ok (.aload_n 0, 1) := by decide +kernel
theorem dX9_refusal_23 : decode cX9_refusal 23 = .ok (.getfield 69, 3) := by decide +kernel
theorem dX9_refusal_26 : decode cX9_refusal 26 = .ok (.goto 7, 3) := by decide +kernel
theorem dX9_refusal_29 : decode cX9_refusal 29 = .ok (.aload_n 0, 1) := by decide +kernel
theorem dX9_refusal_30 : decode cX9_refusal 30 = .ok (.getfield 72, 3) := by decide +kernel
theorem dX9_refusal_33 : decode cX9_refusal 33 = .ok (.ireturn, 1) := by decide +kernel
theorem dX9_undo_0 : decode cX9_undo 0 = .ok (.aload_n 0, 1) := by decide +kernel
theorem dX9_undo_1 : decode cX9_undo 1 = .ok (.getfield 37, 3) := by decide +kernel
theorem dX9_undo_4 : decode cX9_undo 4 = .ok (.getfield 152, 3) := by decide +kernel
theorem dX9_undo_7 : decode cX9_undo 7 = .ok (.ifCond .gt 14, 3) := by decide +kernel
theorem dX9_undo_10 : decode cX9_undo 10 = .ok (.new 124, 3) := by decide +kernel
theorem dX9_undo_13 : decode cX9_undo 13 = .ok (.dup, 1) := by decide +kernel
theorem dX9_undo_14 : decode cX9_undo 14 = .ok (.ldc_w 343, 3) := by decide +kernel
theorem dX9_undo_17 : decode cX9_undo 17 = .ok (.invokespecial 128, 3) := by decide +kernel
theorem dX9_undo_20 : decode cX9_undo 20 = .ok (.athrow, 1) := by decide +kernel
theorem dX9_undo_21 : decode cX9_undo 21 = .ok (.aload_n 0, 1) := by decide +kernel
theorem dX9_undo_22 : decode cX9_undo 22 = .ok (.getfield 37, 3) := by decide +kernel
theorem dX9_undo_25 : decode cX9_undo 25 = .ok (.aload_n 0, 1) := by decide +kernel
theorem dX9_undo_26 : decode cX9_undo 26 = .ok (.getfield 10, 3) := by decide +kernel
theorem dX9_undo_29 : decode cX9_undo 29 = .ok (.invokevirtual 345, 3) := by decide +kernel
theorem dX9_undo_32 : decode cX9_undo 32 = .ok (.aload_n 0, 1) := by decide +kernel
theorem dX9_undo_33 : decode cX9_undo 33 = .ok (.getfield 37, 3) := by decide +kernel
theorem dX9_undo_36 : decode cX9_undo 36 = .ok (.getfield 152, 3) := by decide +kernel
theorem dX9_undo_39 : decode cX9_undo 39 = .ok (.ireturn, 1) := by decide +kernel
theorem dX9_saveSnapshot_0 : decode cX9_saveSnapshot 0 = .ok (.aload_n 0, 1) := by decide +kernel
theorem dX9_saveSnapshot_1 : decode cX9_saveSnapshot 1 = .ok (.getfield 41, 3) := by decide +kernel
theorem dX9_saveSnapshot_4 : decode cX9_saveSnapshot 4 = .ok (.aload_n 0, 1) := by decide +kernel
theorem dX9_saveSnapshot_5 : decode cX9_saveSnapshot 5 = .ok (.getfield 10, 3) := by decide +kernel
theorem dX9_saveSnapshot_8 : decode cX9_saveSnapshot 8 = .ok (.invokevirtual 348, 3) := by decide +kernel
theorem dX9_saveSnapshot_11 : decode cX9_saveSnapshot 11 = .ok (.aload_n 0, 1) := by decide +kernel
theorem dX9_saveSnapshot_12 : decode cX9_saveSnapshot 12 = .ok (.iconst 1, 1) := by decide +kernel
theorem dX9_saveSnapshot_13 : decode cX9_saveSnapshot 13 = .ok (.putfield 44, 3) := by decide +kernel
theorem dX9_saveSnapshot_16 : decode cX9_saveSnapshot 16 = .ok (.aload_n 0, 1) := by decide +kernel
theorem dX9_saveSnapshot_17 : decode cX9_saveSnapshot 17 = .ok (.getfield 10, 3) := by decide +kernel
theorem dX9_saveSnapshot_20 : decode cX9_saveSnapshot 20 = .ok (.invokevirtual 351, 3) := by decide +kernel
theorem dX9_saveSnapshot_23 : decode cX9_saveSnapshot 23 = .ok (.ireturn, 1) := by decide +kernel
theorem dX9_restoreSnapshot_0 : decode cX9_restoreSnapshot 0 = .ok (.aload_n 0, 1) := by decide +kernel
theorem dX9_restoreSnapshot_1 : decode cX9_restoreSnapshot 1 = .ok (.getfield 44, 3) := by decide +kernel
theorem dX9_restoreSnapshot_4 : decode cX9_restoreSnapshot 4 = .ok (.ifCond .ne 14, 3) := by decide +kernel
theorem dX9_restoreSnapshot_7 : decode cX9_restoreSnapshot 7 = .ok (.new 124, 3) := by decide +kernel
theorem dX9_restoreSnapshot_10 : decode cX9_restoreSnapshot 10 = .ok (.dup, 1) := by decide +kernel
theorem dX9_restoreSnapshot_11 : decode cX9_restoreSnapshot 11 = .ok (.ldc_w 354, 3) := by decide +kernel
theorem dX9_restoreSnapshot_14 : decode cX9_restoreSnapshot 14 = .ok (.invokespecial 128, 3) := by decide +kernel
theorem dX9_restoreSnapshot_17 : decode cX9_restoreSnapshot 17 = .ok (.athrow, 1) := by decide +kernel
theorem dX9_restoreSnapshot_18 : decode cX9_restoreSnapshot 18 = .ok (.aload_n 0, 1) := by decide +kernel
theorem dX9_restoreSnapshot_19 : decode cX9_restoreSnapshot 19 = .ok (.getfield 10, 3) := by decide +kernel
theorem dX9_restoreSnapshot_22 : decode cX9_restoreSnapshot 22 = .ok (.aload_n 0, 1) := by decide +kernel
theorem dX9_restoreSnapshot_23 : decode cX9_restoreSnapshot 23 = .ok (.getfield 41, 3) := by decide +kernel
theorem dX9_restoreSnapshot_26 : decode cX9_restoreSnapshot 26 = .ok (.invokevirtual 348, 3) := by decide +kernel
theorem dX9_restoreSnapshot_29 : decode cX9_restoreSnapshot 29 = .ok (.aload_n 0, 1) := by decide +kernel
theorem dX9_restoreSnapshot_30 : decode cX9_restoreSnapshot 30 = .ok (.getfield 37, 3) := by decide +kernel
theorem dX9_restoreSnapshot_33 : decode cX9_restoreSnapshot 33 = .ok (.invokevirtual 356, 3) := by decide +kernel
theorem dX9_restoreSnapshot_36 : decode cX9_restoreSnapshot 36 = .ok (.aload_n 0, 1) := by decide +kernel
theorem dX9_restoreSnapshot_37 : decode cX9_restoreSnapshot 37 = .ok (.getfield 10, 3) := by decide +kernel
theorem dX9_restoreSnapshot_40 : decode cX9_restoreSnapshot 40 = .ok (.invokevirtual 351, 3) := by decide +kernel
theorem dX9_restoreSnapshot_43 : decode cX9_restoreSnapshot 43 = .ok (.ireturn, 1) := by decide +kernel
theorem dX9_requireTrack_0 : decode cX9_requireTrack 0 = .ok (.iload_n 1, 1) := by decide +kernel
theorem dX9_requireTrack_1 : decode cX9_requireTrack 1 = .ok (.invokestatic 359, 3) := by decide +kernel
theorem dX9_requireTrack_4 : decode cX9_requireTrack 4 = .ok (.ifCond .ne 14, 3) := by decide +kernel
theorem dX9_requireTrack_7 : decode cX9_requireTrack 7 = .ok (.new 110, 3) := by decide +kernel
theorem dX9_requireTrack_10 : decode cX9_requireTrack 10 = .ok (.dup, 1) := by decide +kernel
theorem dX9_requireTrack_11 : decode cX9_requireTrack 11 = .ok (.ldc_w 362, 3) := by decide +kernel
theorem dX9_requireTrack_14 : decode cX9_requireTrack 14 = .ok (.invokespecial 114, 3) := by decide +kernel
theorem dX9_requireTrack_17 : decode cX9_requireTrack 17 = .ok (.athrow, 1) := by decide +kernel
theorem dX9_requireTrack_18 : decode cX9_requireTrack 18 = .ok (.return_, 1) := by decide +kernel
theorem dX9_requireCaption_0 : decode cX9_requireCaption 0 = .ok (.aload_n 0, 1) := by decide +kernel
theorem dX9_requireCaption_1 : decode cX9_requireCaption 1 = .ok (.iload_n 1, 1) := by decide +kernel
theorem dX9_requireCaption_2 : decode cX9_requireCaption 2 = .ok (.invokevirtual 184, 3) := by decide +kernel
theorem dX9_requireCaption_5 : decode cX9_requireCaption 5 = .ok (.aload_n 0, 1) := by decide +kernel
theorem dX9_requireCaption_6 : decode cX9_requireCaption 6 = .ok (.getfield 10, 3) := by decide +kernel
theorem dX9_requireCaption_9 : decode cX9_requireCaption 9 = .ok (.iload_n 1, 1) := by decide +kernel
theorem dX9_requireCaption_10 : decode cX9_requireCaption 10 = .ok (.invokevirtual 138, 3) := by decide +kernel
theorem dX9_requireCaption_13 : decode cX9_requireCaption 13 = .ok (.iload_n 2, 1) := by decide +kernel
theorem dX9_requireCaption_14 : decode cX9_requireCaption 14 = .ok (.invokevirtual 364, 3) := by decide +kernel
theorem dX9_requireCaption_17 : decode cX9_requireCaption 17 = .ok (.ifCond .ne 14, 3) := by decide +kernel
theorem dX9_requireCaption_20 : decode cX9_requireCaption 20 = .ok (.new 110, 3) := by decide +kernel
theorem dX9_requireCaption_23 : decode cX9_requireCaption 23 = .ok (.dup, 1) := by decide +kernel
theorem dX9_requireCaption_24 : decode cX9_requireCaption 24 = .ok (.ldc_w 367, 3) := by decide +kernel
theorem dX9_requireCaption_27 : decode cX9_requireCaption 27 = .ok (.invokespecial 114, 3) := by decide +kernel
theorem dX9_requireCaption_30 : decode cX9_requireCaption 30 = .ok (.athrow, 1) := by decide +kernel
theorem dX9_requireCaption_31 : decode cX9_requireCaption 31 = .ok (.return_, 1) := by decide +kernel
theorem dX9_passOrRefuse_0 : decode cX9_passOrRefuse 0 = .ok (.iload_n 1, 1) := by decide +kernel
theorem dX9_passOrRefuse_1 : decode cX9_passOrRefuse 1 = .ok (.ifCond .eq 20, 3) := by decide +kernel
theorem dX9_passOrRefuse_4 : decode cX9_passOrRefuse 4 = .ok (.aload_n 0, 1) := by decide +kernel
theorem dX9_passOrRefuse_5 : decode cX9_passOrRefuse 5 = .ok (.iload_n 1, 1) := by decide +kernel
theorem dX9_passOrRefuse_6 : decode cX9_passOrRefuse 6 = .ok (.iconst 0, 1) := by decide +kernel
theorem dX9_passOrRefuse_7 : decode cX9_passOrRefuse 7 = .ok (.invokevirtual 369, 3) := by decide +kernel
theorem dX9_passOrRefuse_10 : decode cX9_passOrRefuse 10 = .ok (.new 333, 3) := by decide +kernel
theorem dX9_passOrRefuse_13 : decode cX9_passOrRefuse 13 = .ok (.dup, 1) := by decide +kernel
theorem dX9_passOrRefuse_14 : decode cX9_passOrRefuse 14 = .ok (.ldc_w 372, 3) := by decide +kernel
theorem dX9_passOrRefuse_17 : decode cX9_passOrRefuse 17 = .ok (.invokespecial 337, 3) := by decide +kernel
theorem dX9_passOrRefuse_20 : decode cX9_passOrRefuse 20 = .ok (.athrow, 1) := by decide +kernel
theorem dX9_passOrRefuse_21 : decode cX9_passOrRefuse 21 = .ok (.return_, 1) := by decide +kernel
theorem dX9_keepRefusal_0 : decode cX9_keepRefusal 0 = .ok (.aload_n 0, 1) := by decide +kernel
theorem dX9_keepRefusal_1 : decode cX9_keepRefusal 1 = .ok (.iload_n 1, 1) := by decide +kernel
theorem dX9_keepRefusal_2 : decode cX9_keepRefusal 2 = .ok (.putfield 69, 3) := by decide +kernel
theorem dX9_keepRefusal_5 : decode cX9_keepRefusal 5 = .ok (.aload_n 0, 1) := by decide +kernel
theorem dX9_keepRefusal_6 : decode cX9_keepRefusal 6 = .ok (.iload_n 2, 1) := by decide +kernel
theorem dX9_keepRefusal_7 : decode cX9_keepRefusal 7 = .ok (.putfield 72, 3) := by decide +kernel
theorem dX9_keepRefusal_10 : decode cX9_keepRefusal 10 = .ok (.return_, 1) := by decide +kernel
theorem dX9_carryOutItems_0 : decode cX9_carryOutItems 0 = .ok (.aload_n 0, 1) := by decide +kernel
theorem dX9_carryOutItems_1 : decode cX9_carryOutItems 1 = .ok (.getfield 37, 3) := by decide +kernel
theorem dX9_carryOutItems_4 : decode cX9_carryOutItems 4 = .ok (.aload_n 0, 1) := by decide +kernel
theorem dX9_carryOutItems_5 : decode cX9_carryOutItems 5 = .ok (.getfield 10, 3) := by decide +kernel
theorem dX9_carryOutItems_8 : decode cX9_carryOutItems 8 = .ok (.invokevirtual 374, 3) := by decide +kernel
theorem dX9_carryOutItems_11 : decode cX9_carryOutItems 11 = .ok (.iconst 0, 1) := by decide +kernel
theorem dX9_carryOutItems_12 : decode cX9_carryOutItems 12 = .ok (.istore_n 1, 1) := by decide +kernel
theorem dX9_carryOutItems_13 : decode cX9_carryOutItems 13 = .ok (.iload_n 1, 1) := by decide +kernel
theorem dX9_carryOutItems_14 : decode cX9_carryOutItems 14 = .ok (.aload_n 0, 1) := by decide +kernel
theorem dX9_carryOutItems_15 : decode cX9_carryOutItems 15 = .ok (.getfield 61, 3) := by decide +kernel
theorem dX9_carryOutItems_18 : decode cX9_carryOutItems 18 = .ok (.getfield 338, 3) := by decide +kernel
theorem dX9_carryOutItems_21 : decode cX9_carryOutItems 21 = .ok (.if_icmp .ge 38, 3) := by decide +kernel
theorem dX9_carryOutItems_24 : decode cX9_carryOutItems 24 = .ok (.aload_n 0, 1) := by decide +kernel
theorem dX9_carryOutItems_25 : decode cX9_carryOutItems 25 = .ok (.iload_n 1, 1) := by decide +kernel
theorem dX9_carryOutItems_26 : decode cX9_carryOutItems 26 = .ok (.invokevirtual 377, 3) := by decide +kernel
theorem dX9_carryOutItems_29 : decode cX9_carryOutItems 29 = .ok (.istore_n 2, 1) := by decide +kernel
theorem dX9_carryOutItems_30 : decode cX9_carryOutItems 30 = .ok (.iload_n 2, 1) := by decide +kernel
theorem dX9_carryOutItems_31 : decode cX9_carryOutItems 31 = .ok (.ifCond .eq 22, 3) := by decide +kernel
theorem dX9_carryOutItems_34 : decode cX9_carryOutItems 34 = .ok (.aload_n 0, 1) := by decide +kernel
theorem dX9_carryOutItems_35 : decode cX9_carryOutItems 35 = .ok (.getfield 37, 3) := by decide +kernel
theorem dX9_carryOutItems_38 : decode cX9_carryOutItems 38 = .ok (.aload_n 0, 1) := by decide +kernel
theorem dX9_carryOutItems_39 : decode cX9_carryOutItems 39 = .ok (.getfield 10, 3) := by decide +kernel
theorem dX9_carryOutItems_42 : decode cX9_carryOutItems 42 = .ok (.invokevirtual 380, 3) := by decide +kernel
theorem dX9_carryOutItems_45 : decode cX9_carryOutItems 45 = .ok (.aload_n 0, 1) := by decide +kernel
theorem dX9_carryOutItems_46 : decode cX9_carryOutItems 46 = .ok (.iload_n 2, 1) := by decide +kernel
theorem dX9_carryOutItems_47 : decode cX9_carryOutItems 47 = .ok (.iload_n 1, 1) := by decide +kernel
theorem dX9_carryOutItems_48 : decode cX9_carryOutItems 48 = .ok (.invokevirtual 369, 3) := by decide +kernel
theorem dX9_carryOutItems_51 : decode cX9_carryOutItems 51 = .ok (.iconst 0, 1) := by decide +kernel
theorem dX9_carryOutItems_52 : decode cX9_carryOutItems 52 = .ok (.ireturn, 1) := by decide +kernel
theorem dX9_carryOutItems_53 : decode cX9_carryOutItems 53 = .ok (.iinc 1 1, 3) := by decide +kernel
theorem dX9_carryOutItems_56 : decode cX9_carryOutItems 56 = .ok (.goto (-43), 3) := by decide +kernel
theorem dX9_carryOutItems_59 : decode cX9_carryOutItems 59 = .ok (.aload_n 0, 1) := by decide +kernel
theorem dX9_carryOutItems_60 : decode cX9_carryOutItems 60 = .ok (.getfield 37, 3) := by decide +kernel
theorem dX9_carryOutItems_63 : decode cX9_carryOutItems 63 = .ok (.invokevirtual 383, 3) := by decide +kernel
theorem dX9_carryOutItems_66 : decode cX9_carryOutItems 66 = .ok (.iconst 1, 1) := by decide +kernel
theorem dX9_carryOutItems_67 : decode cX9_carryOutItems 67 = .ok (.ireturn, 1) := by decide +kernel
theorem dX9_carryOutItem_0 : decode cX9_carryOutItem 0 = .ok (.aload_n 0, 1) := by decide +kernel
theorem dX9_carryOutItem_1 : decode cX9_carryOutItem 1 = .ok (.getfield 61, 3) := by decide +kernel
theorem dX9_carryOutItem_4 : decode cX9_carryOutItem 4 = .ok (.iload_n 1, 1) := by decide +kernel
theorem dX9_carryOutItem_5 : decode cX9_carryOutItem 5 = .ok (.invokevirtual 386, 3) := by decide +kernel
theorem dX9_carryOutItem_8 : decode cX9_carryOutItem 8 = .ok (.ifCond .eq 36, 3) := by decide +kernel
theorem dX9_carryOutItem_11 : decode cX9_carryOutItem 11 = .ok (.aload_n 0, 1) := by decide +kernel
theorem dX9_carryOutItem_12 : decode cX9_carryOutItem 12 = .ok (.getfield 30, 3) := by decide +kernel
theorem dX9_carryOutItem_15 : decode cX9_carryOutItem 15 = .ok (.aload_n 0, 1) := by decide +kernel
theorem dX9_carryOutItem_16 : decode cX9_carryOutItem 16 = .ok (.getfield 61, 3) := by decide +kernel
theorem dX9_carryOutItem_19 : decode cX9_carryOutItem 19 = .ok (.iload_n 1, 1) := by decide +kernel
theorem dX9_carryOutItem_20 : decode cX9_carryOutItem 20 = .ok (.invokevirtual 389, 3) := by decide +kernel
theorem dX9_carryOutItem_23 : decode cX9_carryOutItem 23 = .ok (.aload_n 0, 1) := by decide +kernel
theorem dX9_carryOutItem_24 : decode cX9_carryOutItem 24 = .ok (.getfield 61, 3) := by decide +kernel
theorem dX9_carryOutItem_27 : decode cX9_carryOutItem 27 = .ok (.iload_n 1, 1) := by decide +kernel
theorem dX9_carryOutItem_28 : decode cX9_carryOutItem 28 = .ok (.invokevirtual 386, 3) := by decide +kernel
theorem dX9_carryOutItem_31 : decode cX9_carryOutItem 31 = .ok (.iconst 1, 1) := by decide +kernel
theorem dX9_carryOutItem_32 : decode cX9_carryOutItem 32 = .ok (.if_icmp .ne 7, 3) := by decide +kernel
theorem dX9_carryOutItem_35 : decode cX9_carryOutItem 35 = .ok (.iconst 1, 1) := by decide +kernel
theorem dX9_carryOutItem_36 : decode cX9_carryOutItem 36 = .ok (.goto 4, 3) := by decide +kernel
theorem dX9_carryOutItem_39 : decode cX9_carryOutItem 39 = .ok (.iconst 0, 1) := by decide +kernel
theorem dX9_carryOutItem_40 : decode cX9_carryOutItem 40 = .ok (.invokevirtual 390, 3) := by decide +kernel
theorem dX9_carryOutItem_43 : decode cX9_carryOutItem 43 = .ok (.ireturn, 1) := by decide +kernel
theorem dX9_carryOutItem_44 : decode cX9_carryOutItem 44 = .ok (.aload_n 0, 1) := by decide +kernel
theorem dX9_carryOutItem_45 : decode cX9_carryOutItem 45 = .ok (.getfield 55, 3) := by decide +kernel
theorem dX9_carryOutItem_48 : decode cX9_carryOutItem 48 = .ok (.invokevirtual 177, 3) := by decide +kernel
theorem dX9_carryOutItem_51 : decode cX9_carryOutItem 51 = .ok (.aload_n 0, 1) := by decide +kernel
theorem dX9_carryOutItem_52 : decode cX9_carryOutItem 52 = .ok (.getfield 55, 3) := by decide +kernel
theorem dX9_carryOutItem_55 : decode cX9_carryOutItem 55 = .ok (.aload_n 0, 1) := by decide +kernel
theorem dX9_carryOutItem_56 : decode cX9_carryOutItem 56 = .ok (.getfield 51, 3) := by decide +kernel
theorem dX9_carryOutItem_59 : decode cX9_carryOutItem 59 = .ok (.aload_n 0, 1) := by decide +kernel
theorem dX9_carryOutItem_60 : decode cX9_carryOutItem 60 = .ok (.getfield 61, 3) := by decide +kernel
theorem dX9_carryOutItem_63 : decode cX9_carryOutItem 63 = .ok (.iload_n 1, 1) := by decide +kernel
theorem dX9_carryOutItem_64 : decode cX9_carryOutItem 64 = .ok (.invokevirtual 394, 3) := by decide +kernel
theorem dX9_carryOutItem_67 : decode cX9_carryOutItem 67 = .ok (.aload_n 0, 1) := by decide +kernel
theorem dX9_carryOutItem_68 : decode cX9_carryOutItem 68 = .ok (.getfield 61, 3) := by decide +kernel
theorem dX9_carryOutItem_71 : decode cX9_carryOutItem 71 = .ok (.iload_n 1, 1) := by decide +kernel
theorem dX9_carryOutItem_72 : decode cX9_carryOutItem 72 = .ok (.invokevirtual 397, 3) := by decide +kernel
theorem dX9_carryOutItem_75 : decode cX9_carryOutItem 75 = .ok (.invokevirtual 180, 3) := by decide +kernel
theorem dX9_carryOutItem_78 : decode cX9_carryOutItem 78 = .ok (.aload_n 0, 1) := by decide +kernel
theorem dX9_carryOutItem_79 : decode cX9_carryOutItem 79 = .ok (.getfield 10, 3) := by decide +kernel
theorem dX9_carryOutItem_82 : decode cX9_carryOutItem 82 = .ok (.aload_n 0, 1) := by decide +kernel
theorem dX9_carryOutItem_83 : decode cX9_carryOutItem 83 = .ok (.getfield 61, 3) := by decide +kernel
theorem dX9_carryOutItem_86 : decode cX9_carryOutItem 86 = .ok (.iload_n 1, 1) := by decide +kernel
theorem dX9_carryOutItem_87 : decode cX9_carryOutItem 87 = .ok (.invokevirtual 400, 3) := by decide +kernel
theorem dX9_carryOutItem_90 : decode cX9_carryOutItem 90 = .ok (.aload_n 0, 1) := by decide +kernel
theorem dX9_carryOutItem_91 : decode cX9_carryOutItem 91 = .ok (.getfield 61, 3) := by decide +kernel
theorem dX9_carryOutItem_94 : decode cX9_carryOutItem 94 = .ok (.iload_n 1, 1) := by decide +kernel
theorem dX9_carryOutItem_95 : decode cX9_carryOutItem 95 = .ok (.invokevirtual 389, 3) := by decide +kernel
theorem dX9_carryOutItem_98 : decode cX9_carryOutItem 98 = .ok (.aload_n 0, 1) := by decide +kernel
theorem dX9_carryOutItem_99 : decode cX9_carryOutItem 99 = .ok (.getfield 61, 3) := by decide +kernel
theorem dX9_carryOutItem_102 : decode cX9_carryOutItem 102 = .ok (.iload_n 1, 1) := by decide +kernel
theorem dX9_carryOutItem_103 : decode cX9_carryOutItem 103 = .ok (.invokevirtual 403, 3) := by decide +kernel
theorem dX9_carryOutItem_106 : decode cX9_carryOutItem 106 = .ok (.aload_n 0, 1) := by decide +kernel
theorem dX9_carryOutItem_107 : decode cX9_carryOutItem 107 = .ok (.getfield 55, 3) := by decide +kernel
theorem dX9_carryOutItem_110 : decode cX9_carryOutItem 110 = .ok (.invokevirtual 189, 3) := by decide +kernel
theorem dX9_carryOutItem_113 : decode cX9_carryOutItem 113 = .ok (.istore_n 2, 1) := by decide +kernel
theorem dX9_carryOutItem_114 : decode cX9_carryOutItem 114 = .ok (.iload_n 2, 1) := by decide +kernel
theorem dX9_carryOutItem_115 : decode cX9_carryOutItem 115 = .ok (.ifCond .ne 52, 3) := by decide +kernel
theorem dX9_carryOutItem_118 : decode cX9_carryOutItem 118 = .ok (.aload_n 0, 1) := by decide +kernel
theorem dX9_carryOutItem_119 : decode cX9_carryOutItem 119 = .ok (.getfield 10, 3) := by decide +kernel
theorem dX9_carryOutItem_122 : decode cX9_carryOutItem 122 = .ok (.aload_n 0, 1) := by decide +kernel
theorem dX9_carryOutItem_123 : decode cX9_carryOutItem 123 = .ok (.getfield 61, 3) := by decide +kernel
theorem dX9_carryOutItem_126 : decode cX9_carryOutItem 126 = .ok (.iload_n 1, 1) := by decide +kernel
theorem dX9_carryOutItem_127 : decode cX9_carryOutItem 127 = .ok (.invokevirtual 400, 3) := by decide +kernel
theorem dX9_carryOutItem_130 : decode cX9_carryOutItem 130 = .ok (.invokevirtual 138, 3) := by decide +kernel
theorem dX9_carryOutItem_133 : decode cX9_carryOutItem 133 = .ok (.astore_n 3, 1) := by decide +kernel
theorem dX9_carryOutItem_134 : decode cX9_carryOutItem 134 = .ok (.aload_n 3, 1) := by decide +kernel
theorem dX9_carryOutItem_135 : decode cX9_carryOutItem 135 = .ok (.aload_n 0, 1) := by decide +kernel
theorem dX9_carryOutItem_136 : decode cX9_carryOutItem 136 = .ok (.getfield 61, 3) := by decide +kernel
theorem dX9_carryOutItem_139 : decode cX9_carryOutItem 139 = .ok (.iload_n 1, 1) := by decide +kernel
theorem dX9_carryOutItem_140 : decode cX9_carryOutItem 140 = .ok (.invokevirtual 404, 3) := by decide +kernel
theorem dX9_carryOutItem_143 : decode cX9_carryOutItem 143 = .ok (.aload_n 0, 1) := by decide +kernel
theorem dX9_carryOutItem_144 : decode cX9_carryOutItem 144 = .ok (.getfield 61, 3) := by decide +kernel
theorem dX9_carryOutItem_147 : decode cX9_carryOutItem 147 = .ok (.iload_n 1, 1) := by decide +kernel
theorem dX9_carryOutItem_148 : decode cX9_carryOutItem 148 = .ok (.invokevirtual 389, 3) := by decide +kernel
theorem dX9_carryOutItem_151 : decode cX9_carryOutItem 151 = .ok (.aload_n 0, 1) := by decide +kernel
theorem dX9_carryOutItem_152 : decode cX9_carryOutItem 152 = .ok (.getfield 61, 3) := by decide +kernel
theorem dX9_carryOutItem_155 : decode cX9_carryOutItem 155 = .ok (.iload_n 1, 1) := by decide +kernel
theorem dX9_carryOutItem_156 : decode cX9_carryOutItem 156 = .ok (.invokevirtual 403, 3) := by decide +kernel
theorem dX9_carryOutItem_159 : decode cX9_carryOutItem 159 = .ok (.aload_n 0, 1) := by decide +kernel
theorem dX9_carryOutItem_160 : decode cX9_carryOutItem 160 = .ok (.getfield 55, 3) := by decide +kernel
theorem dX9_carryOutItem_163 : decode cX9_carryOutItem 163 = .ok (.invokevirtual 193, 3) := by decide +kernel
theorem dX9_carryOutItem_166 : decode cX9_carryOutItem 166 = .ok (.pop, 1) := by decide +kernel
theorem dX9_carryOutItem_167 : decode cX9_carryOutItem 167 = .ok (.iload_n 2, 1) := by decide +kernel
theorem dX9_carryOutItem_168 : decode cX9_carryOutItem 168 = .ok (.ireturn, 1) := by decide +kernel
theorem dX9_isTrack_0 : decode cX9_isTrack 0 = .ok (.iload_n 0, 1) := by decide +kernel
theorem dX9_isTrack_1 : decode cX9_isTrack 1 = .ok (.ifCond .lt 12, 3) := by decide +kernel
theorem dX9_isTrack_4 : decode cX9_isTrack 4 = .ok (.iload_n 0, 1) := by decide +kernel
theorem dX9_isTrack_5 : decode cX9_isTrack 5 = .ok (.iconst 2, 1) := by decide +kernel
theorem dX9_isTrack_6 : decode cX9_isTrack 6 = .ok (.if_icmp .ge 7, 3) := by decide +kernel
theorem dX9_isTrack_9 : decode cX9_isTrack 9 = .ok (.iconst 1, 1) := by decide +kernel
theorem dX9_isTrack_10 : decode cX9_isTrack 10 = .ok (.goto 4, 3) := by decide +kernel
theorem dX9_isTrack_13 : decode cX9_isTrack 13 = .ok (.iconst 0, 1) := by decide +kernel
theorem dX9_isTrack_14 : decode cX9_isTrack 14 = .ok (.ireturn, 1) := by decide +kernel
theorem dX9_isSetting_0 : decode cX9_isSetting 0 = .ok (.iload_n 0, 1) := by decide +kernel
theorem dX9_isSetting_1 : decode cX9_isSetting 1 = .ok (.ifCond .lt 13, 3) := by decide +kernel
theorem dX9_isSetting_4 : decode cX9_isSetting 4 = .ok (.iload_n 0, 1) := by decide +kernel
theorem dX9_isSetting_5 : decode cX9_isSetting 5 = .ok (.bipush 6, 2) := by decide +kernel
theorem dX9_isSetting_7 : decode cX9_isSetting 7 = .ok (.if_icmp .ge 7, 3) := by decide +kernel
theorem dX9_isSetting_10 : decode cX9_isSetting 10 = .ok (.iconst 1, 1) := by decide +kernel
theorem dX9_isSetting_11 : decode cX9_isSetting 11 = .ok (.goto 4, 3) := by decide +kernel
theorem dX9_isSetting_14 : decode cX9_isSetting 14 = .ok (.iconst 0, 1) := by decide +kernel
theorem dX9_isSetting_15 : decode cX9_isSetting 15 = .ok (.ireturn, 1) := by decide +kernel
theorem dX9_isSettingValue_0 : decode cX9_isSettingValue 0 = .ok (.iload_n 0, 1) := by decide +kernel
theorem dX9_isSettingValue_1 : decode cX9_isSettingValue 1 = .ok (.invokestatic 156, 3) := by decide +kernel
theorem dX9_isSettingValue_4 : decode cX9_isSettingValue 4 = .ok (.ifCond .eq 25, 3) := by decide +kernel
theorem dX9_isSettingValue_7 : decode cX9_isSettingValue 7 = .ok (.iload_n 1, 1) := by decide +kernel
theorem dX9_isSettingValue_8 : decode cX9_isSettingValue 8 = .ok (.getstatic 405, 3) := by decide +kernel
theorem dX9_isSettingValue_11 : decode cX9_isSettingValue 11 = .ok (.iload_n 0, 1) := by decide +kernel
theorem dX9_isSettingValue_12 : decode cX9_isSettingValue 12 = .ok (.iaload, 1) := by decide +kernel
theorem dX9_isSettingValue_13 : decode cX9_isSettingValue 13 = .ok (.if_icmp .lt 16, 3) := by decide +kernel
theorem dX9_isSettingValue_16 : decode cX9_isSettingValue 16 = .ok (.iload_n 1, 1) := by decide +kernel
theorem dX9_isSettingValue_17 : decode cX9_isSettingValue 17 = .ok (.getstatic 409, 3) := by decide +kernel
theorem dX9_isSettingValue_20 : decode cX9_isSettingValue 20 = .ok (.iload_n 0, 1) := by decide +kernel
theorem dX9_isSettingValue_21 : decode cX9_isSettingValue 21 = .ok (.iaload, 1) := by decide +kernel
theorem dX9_isSettingValue_22 : decode cX9_isSettingValue 22 = .ok (.if_icmp .gt 7, 3) := by decide +kernel
theorem dX9_isSettingValue_25 : decode cX9_isSettingValue 25 = .ok (.iconst 1, 1) := by decide +kernel
theorem dX9_isSettingValue_26 : decode cX9_isSettingValue 26 = .ok (.goto 4, 3) := by decide +kernel
theorem dX9_isSettingValue_29 : decode cX9_isSettingValue 29 = .ok (.iconst 0, 1) := by decide +kernel
theorem dX9_isSettingValue_30 : decode cX9_isSettingValue 30 = .ok (.ireturn, 1) := by decide +kernel
theorem dX9_arePoints_0 : decode cX9_arePoints 0 = .ok (.iload_n 0, 1) := by decide +kernel
theorem dX9_arePoints_1 : decode cX9_arePoints 1 = .ok (.invokestatic 412, 3) := by decide +kernel
theorem dX9_arePoints_4 : decode cX9_arePoints 4 = .ok (.ifCond .eq 24, 3) := by decide +kernel
theorem dX9_arePoints_7 : decode cX9_arePoints 7 = .ok (.iload_n 1, 1) := by decide +kernel
theorem dX9_arePoints_8 : decode cX9_arePoints 8 = .ok (.invokestatic 412, 3) := by decide +kernel
theorem dX9_arePoints_11 : decode cX9_arePoints 11 = .ok (.ifCond .eq 17, 3) := by decide +kernel
theorem dX9_arePoints_14 : decode cX9_arePoints 14 = .ok (.iload_n 2, 1) := by decide +kernel
theorem dX9_arePoints_15 : decode cX9_arePoints 15 = .ok (.invokestatic 412, 3) := by decide +kernel
theorem dX9_arePoints_18 : decode cX9_arePoints 18 = .ok (.ifCond .eq 10, 3) := by decide +kernel
theorem dX9_arePoints_21 : decode cX9_arePoints 21 = .ok (.iload_n 3, 1) := by decide +kernel
theorem dX9_arePoints_22 : decode cX9_arePoints 22 = .ok (.invokestatic 412, 3) := by decide +kernel
theorem dX9_arePoints_25 : decode cX9_arePoints 25 = .ok (.ifCond .ne 5, 3) := by decide +kernel
theorem dX9_arePoints_28 : decode cX9_arePoints 28 = .ok (.iconst 0, 1) := by decide +kernel
theorem dX9_arePoints_29 : decode cX9_arePoints 29 = .ok (.ireturn, 1) := by decide +kernel
theorem dX9_arePoints_30 : decode cX9_arePoints 30 = .ok (.iload_n 0, 1) := by decide +kernel
theorem dX9_arePoints_31 : decode cX9_arePoints 31 = .ok (.iload_n 2, 1) := by decide +kernel
theorem dX9_arePoints_32 : decode cX9_arePoints 32 = .ok (.if_icmp .eq 35, 3) := by decide +kernel
theorem dX9_arePoints_35 : decode cX9_arePoints 35 = .ok (.iload_n 1, 1) := by decide +kernel
theorem dX9_arePoints_36 : decode cX9_arePoints 36 = .ok (.iload_n 3, 1) := by decide +kernel
theorem dX9_arePoints_37 : decode cX9_arePoints 37 = .ok (.if_icmp .eq 30, 3) := by decide +kernel
theorem dX9_arePoints_40 : decode cX9_arePoints 40 = .ok (.iload_n 0, 1) := by decide +kernel
theorem dX9_arePoints_41 : decode cX9_arePoints 41 = .ok (.iload_n 2, 1) := by decide +kernel
theorem dX9_arePoints_42 : decode cX9_arePoints 42 = .ok (.if_icmp .ge 7, 3) := by decide +kernel
theorem dX9_arePoints_45 : decode cX9_arePoints 45 = .ok (.iconst 1, 1) := by decide +kernel
theorem dX9_arePoints_46 : decode cX9_arePoints 46 = .ok (.goto 4, 3) := by decide +kernel
theorem dX9_arePoints_49 : decode cX9_arePoints 49 = .ok (.iconst 0, 1) := by decide +kernel
theorem dX9_arePoints_50 : decode cX9_arePoints 50 = .ok (.iload_n 1, 1) := by decide +kernel
theorem dX9_arePoints_51 : decode cX9_arePoints 51 = .ok (.iload_n 3, 1) := by decide +kernel
theorem dX9_arePoints_52 : decode cX9_arePoints 52 = .ok (.if_icmp .ge 7, 3) := by decide +kernel
theorem dX9_arePoints_55 : decode cX9_arePoints 55 = .ok (.iconst 1, 1) := by decide +kernel
theorem dX9_arePoints_56 : decode cX9_arePoints 56 = .ok (.goto 4, 3) := by decide +kernel
theorem dX9_arePoints_59 : decode cX9_arePoints 59 = .ok (.iconst 0, 1) := by decide +kernel
theorem dX9_arePoints_60 : decode cX9_arePoints 60 = .ok (.if_icmp .ne 7, 3) := by decide +kernel
theorem dX9_arePoints_63 : decode cX9_arePoints 63 = .ok (.iconst 1, 1) := by decide +kernel
theorem dX9_arePoints_64 : decode cX9_arePoints 64 = .ok (.goto 4, 3) := by decide +kernel
theorem dX9_arePoints_67 : decode cX9_arePoints 67 = .ok (.iconst 0, 1) := by decide +kernel
theorem dX9_arePoints_68 : decode cX9_arePoints 68 = .ok (.ireturn, 1) := by decide +kernel
theorem dX9_isPointFrame_0 : decode cX9_isPointFrame 0 = .ok (.iload_n 0, 1) := by decide +kernel
theorem dX9_isPointFrame_1 : decode cX9_isPointFrame 1 = .ok (.ifCond .lt 14, 3) := by decide +kernel
theorem dX9_isPointFrame_4 : decode cX9_isPointFrame 4 = .ok (.iload_n 0, 1) := by decide +kernel
theorem dX9_isPointFrame_5 : decode cX9_isPointFrame 5 = .ok (.sipush 9999, 3) := by decide +kernel
theorem dX9_isPointFrame_8 : decode cX9_isPointFrame 8 = .ok (.if_icmp .gt 7, 3) := by decide +kernel
theorem dX9_isPointFrame_11 : decode cX9_isPointFrame 11 = .ok (.iconst 1, 1) := by decide +kernel
theorem dX9_isPointFrame_12 : decode cX9_isPointFrame 12 = .ok (.goto 4, 3) := by decide +kernel
theorem dX9_isPointFrame_15 : decode cX9_isPointFrame 15 = .ok (.iconst 0, 1) := by decide +kernel
theorem dX9_isPointFrame_16 : decode cX9_isPointFrame 16 = .ok (.ireturn, 1) := by decide +kernel
theorem dX9_isWordSign_0 : decode cX9_isWordSign 0 = .ok (.iload_n 0, 1) := by decide +kernel
theorem dX9_isWordSign_1 : decode cX9_isWordSign 1 = .ok (.bipush 95, 2) := by decide +kernel
theorem dX9_isWordSign_3 : decode cX9_isWordSign 3 = .ok (.if_icmp .eq 21, 3) := by decide +kernel
theorem dX9_isWordSign_6 : decode cX9_isWordSign 6 = .ok (.iload_n 0, 1) := by decide +kernel
theorem dX9_isWordSign_7 : decode cX9_isWordSign 7 = .ok (.bipush 124, 2) := by decide +kernel
theorem dX9_isWordSign_9 : decode cX9_isWordSign 9 = .ok (.if_icmp .eq 15, 3) := by decide +kernel
theorem dX9_isWordSign_12 : decode cX9_isWordSign 12 = .ok (.iload_n 0, 1) := by decide +kernel
theorem dX9_isWordSign_13 : decode cX9_isWordSign 13 = .ok (.bipush 97, 2) := by decide +kernel
theorem dX9_isWordSign_15 : decode cX9_isWordSign 15 = .ok (.if_icmp .lt 13, 3) := by decide +kernel
theorem dX9_isWordSign_18 : decode cX9_isWordSign 18 = .ok (.iload_n 0, 1) := by decide +kernel
theorem dX9_isWordSign_19 : decode cX9_isWordSign 19 = .ok (.bipush 122, 2) := by decide +kernel
theorem dX9_isWordSign_21 : decode cX9_isWordSign 21 = .ok (.if_icmp .gt 7, 3) := by decide +kernel
theorem dX9_isWordSign_24 : decode cX9_isWordSign 24 = .ok (.iconst 1, 1) := by decide +kernel
theorem dX9_isWordSign_25 : decode cX9_isWordSign 25 = .ok (.goto 4, 3) := by decide +kernel
theorem dX9_isWordSign_28 : decode cX9_isWordSign 28 = .ok (.iconst 0, 1) := by decide +kernel
theorem dX9_isWordSign_29 : decode cX9_isWordSign 29 = .ok (.ireturn, 1) := by decide +kernel
theorem dX9_distance_0 : decode cX9_distance 0 = .ok (.iload_n 0, 1) := by decide +kernel
theorem dX9_distance_1 : decode cX9_distance 1 = .ok (.iload_n 1, 1) := by decide +kernel
theorem dX9_distance_2 : decode cX9_distance 2 = .ok (.isub, 1) := by decide +kernel
theorem dX9_distance_3 : decode cX9_distance 3 = .ok (.invokestatic 415, 3) := by decide +kernel
theorem dX9_distance_6 : decode cX9_distance 6 = .ok (.ireturn, 1) := by decide +kernel
theorem dX9_dividedUp_0 : decode cX9_dividedUp 0 = .ok (.iload_n 1, 1) := by decide +kernel
theorem dX9_dividedUp_1 : decode cX9_dividedUp 1 = .ok (.ifCond .le 13, 3) := by decide +kernel
theorem dX9_dividedUp_4 : decode cX9_dividedUp 4 = .ok (.iload_n 0, 1) := by decide +kernel
theorem dX9_dividedUp_5 : decode cX9_dividedUp 5 = .ok (.iload_n 1, 1) := by decide +kernel
theorem dX9_dividedUp_6 : decode cX9_dividedUp 6 = .ok (.iadd, 1) := by decide +kernel
theorem dX9_dividedUp_7 : decode cX9_dividedUp 7 = .ok (.iconst 1, 1) := by decide +kernel
theorem dX9_dividedUp_8 : decode cX9_dividedUp 8 = .ok (.isub, 1) := by decide +kernel
theorem dX9_dividedUp_9 : decode cX9_dividedUp 9 = .ok (.iload_n 1, 1) := by decide +kernel
theorem dX9_dividedUp_10 : decode cX9_dividedUp 10 = .ok (.idiv, 1) := by decide +kernel
theorem dX9_dividedUp_11 : decode cX9_dividedUp 11 = .ok (.goto 4, 3) := by decide +kernel
theorem dX9_dividedUp_14 : decode cX9_dividedUp 14 = .ok (.iconst 0, 1) := by decide +kernel
theorem dX9_dividedUp_15 : decode cX9_dividedUp 15 = .ok (.ireturn, 1) := by decide +kernel
