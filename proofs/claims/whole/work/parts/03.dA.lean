theorem dX0_init_0 : decode cX0_init 0 = .ok (.aload_n 0, 1) := by decide +kernel
theorem dX0_init_1 : decode cX0_init 1 = .ok (.invokespecial 3, 3) := by decide +kernel
theorem dX0_init_4 : decode cX0_init 4 = .ok (.aload_n 0, 1) := by decide +kernel
theorem dX0_init_5 : decode cX0_init 5 = .ok (.sipush 200, 3) := by decide +kernel
theorem dX0_init_8 : decode cX0_init 8 = .ok (.newarray .int, 2) := by decide +kernel
theorem dX0_init_10 : decode cX0_init 10 = .ok (.putfield 11, 3) := by decide +kernel
theorem dX0_init_13 : decode cX0_init 13 = .ok (.aload_n 0, 1) := by decide +kernel
theorem dX0_init_14 : decode cX0_init 14 = .ok (.iconst 1, 1) := by decide +kernel
theorem dX0_init_15 : decode cX0_init 15 = .ok (.putfield 15, 3) := by decide +kernel
theorem dX0_init_18 : decode cX0_init 18 = .ok (.aload_n 0, 1) := by decide +kernel
theorem dX0_init_19 : decode cX0_init 19 = .ok (.bipush 100, 2) := by decide +kernel
theorem dX0_init_21 : decode cX0_init 21 = .ok (.newarray .long, 2) := by decide +kernel
theorem dX0_init_23 : decode cX0_init 23 = .ok (.putfield 19, 3) := by decide +kernel
theorem dX0_init_26 : decode cX0_init 26 = .ok (.aload_n 0, 1) := by decide +kernel
theorem dX0_init_27 : decode cX0_init 27 = .ok (.bipush 100, 2) := by decide +kernel
theorem dX0_init_29 : decode cX0_init 29 = .ok (.newarray .int, 2) := by decide +kernel
theorem dX0_init_31 : decode cX0_init 31 = .ok (.putfield 23, 3) := by decide +kernel
theorem dX0_init_34 : decode cX0_init 34 = .ok (.aload_n 0, 1) := by decide +kernel
theorem dX0_init_35 : decode cX0_init 35 = .ok (.bipush 100, 2) := by decide +kernel
theorem dX0_init_37 : decode cX0_init 37 = .ok (.newarray .boolean, 2) := by decide +kernel
theorem dX0_init_39 : decode cX0_init 39 = .ok (.putfield 26, 3) := by decide +kernel
theorem dX0_init_42 : decode cX0_init 42 = .ok (.aload_n 0, 1) := by decide +kernel
theorem dX0_init_43 : decode cX0_init 43 = .ok (.aload_n 1, 1) := by decide +kernel
theorem dX0_init_44 : decode cX0_init 44 = .ok (.putfield 30, 3) := by decide +kernel
theorem dX0_init_47 : decode cX0_init 47 = .ok (.return_, 1) := by decide +kernel
theorem dX0_restart_0 : decode cX0_restart 0 = .ok (.aload_n 0, 1) := by decide +kernel
theorem dX0_restart_1 : decode cX0_restart 1 = .ok (.getfield 30, 3) := by decide +kernel
theorem dX0_restart_4 : decode cX0_restart 4 = .ok (.lconst 0, 1) := by decide +kernel
theorem dX0_restart_5 : decode cX0_restart 5 = .ok (.invokevirtual 34, 3) := by decide +kernel
theorem dX0_restart_8 : decode cX0_restart 8 = .ok (.aload_n 0, 1) := by decide +kernel
theorem dX0_restart_9 : decode cX0_restart 9 = .ok (.iconst 1, 1) := by decide +kernel
theorem dX0_restart_10 : decode cX0_restart 10 = .ok (.putfield 15, 3) := by decide +kernel
theorem dX0_restart_13 : decode cX0_restart 13 = .ok (.aload_n 0, 1) := by decide +kernel
theorem dX0_restart_14 : decode cX0_restart 14 = .ok (.iconst 0, 1) := by decide +kernel
theorem dX0_restart_15 : decode cX0_restart 15 = .ok (.putfield 40, 3) := by decide +kernel
theorem dX0_restart_18 : decode cX0_restart 18 = .ok (.aload_n 0, 1) := by decide +kernel
theorem dX0_restart_19 : decode cX0_restart 19 = .ok (.iconst 0, 1) := by decide +kernel
theorem dX0_restart_20 : decode cX0_restart 20 = .ok (.putfield 44, 3) := by decide +kernel
theorem dX0_restart_23 : decode cX0_restart 23 = .ok (.return_, 1) := by decide +kernel
theorem dX0_part_0 : decode cX0_part 0 = .ok (.aload_n 0, 1) := by decide +kernel
theorem dX0_part_1 : decode cX0_part 1 = .ok (.getfield 30, 3) := by decide +kernel
theorem dX0_part_4 : decode cX0_part 4 = .ok (.iload_n 1, 1) := by decide +kernel
theorem dX0_part_5 : decode cX0_part 5 = .ok (.iload_n 2, 1) := by decide +kernel
theorem dX0_part_6 : decode cX0_part 6 = .ok (.invokevirtual 47, 3) := by decide +kernel
theorem dX0_part_9 : decode cX0_part 9 = .ok (.ireturn, 1) := by decide +kernel
theorem dX0_allows_0 : decode cX0_allows 0 = .ok (.aload_n 0, 1) := by decide +kernel
theorem dX0_allows_1 : decode cX0_allows 1 = .ok (.getfield 30, 3) := by decide +kernel
theorem dX0_allows_4 : decode cX0_allows 4 = .ok (.iload_n 1, 1) := by decide +kernel
theorem dX0_allows_5 : decode cX0_allows 5 = .ok (.invokevirtual 51, 3) := by decide +kernel
theorem dX0_allows_8 : decode cX0_allows 8 = .ok (.ireturn, 1) := by decide +kernel
theorem dX0_isHandled_0 : decode cX0_isHandled 0 = .ok (.aload_n 0, 1) := by decide +kernel
theorem dX0_isHandled_1 : decode cX0_isHandled 1 = .ok (.getfield 40, 3) := by decide +kernel
theorem dX0_isHandled_4 : decode cX0_isHandled 4 = .ok (.ireturn, 1) := by decide +kernel
theorem dX0_handle_0 : decode cX0_handle 0 = .ok (.aload_n 0, 1) := by decide +kernel
theorem dX0_handle_1 : decode cX0_handle 1 = .ok (.invokevirtual 55, 3) := by decide +kernel
theorem dX0_handle_4 : decode cX0_handle 4 = .ok (.aload_n 0, 1) := by decide +kernel
theorem dX0_handle_5 : decode cX0_handle 5 = .ok (.getfield 30, 3) := by decide +kernel
theorem dX0_handle_8 : decode cX0_handle 8 = .ok (.iload_n 1, 1) := by decide +kernel
theorem dX0_handle_9 : decode cX0_handle 9 = .ok (.invokevirtual 58, 3) := by decide +kernel
theorem dX0_handle_12 : decode cX0_handle 12 = .ok (.aload_n 0, 1) := by decide +kernel
theorem dX0_handle_13 : decode cX0_handle 13 = .ok (.iconst 1, 1) := by decide +kernel
theorem dX0_handle_14 : decode cX0_handle 14 = .ok (.putfield 40, 3) := by decide +kernel
theorem dX0_handle_17 : decode cX0_handle 17 = .ok (.return_, 1) := by decide +kernel
theorem dX0_goOn_0 : decode cX0_goOn 0 = .ok (.aload_n 0, 1) := by decide +kernel
theorem dX0_goOn_1 : decode cX0_goOn 1 = .ok (.getfield 15, 3) := by decide +kernel
theorem dX0_goOn_4 : decode cX0_goOn 4 = .ok (.sipush 200, 3) := by decide +kernel
theorem dX0_goOn_7 : decode cX0_goOn 7 = .ok (.if_icmp .lt 6, 3) := by decide +kernel
theorem dX0_goOn_10 : decode cX0_goOn 10 = .ok (.bipush (-2), 2) := by decide +kernel
theorem dX0_goOn_12 : decode cX0_goOn 12 = .ok (.ireturn, 1) := by decide +kernel
theorem dX0_goOn_13 : decode cX0_goOn 13 = .ok (.aload_n 0, 1) := by decide +kernel
theorem dX0_goOn_14 : decode cX0_goOn 14 = .ok (.getfield 30, 3) := by decide +kernel
theorem dX0_goOn_17 : decode cX0_goOn 17 = .ok (.invokevirtual 62, 3) := by decide +kernel
theorem dX0_goOn_20 : decode cX0_goOn 20 = .ok (.istore_n 1, 1) := by decide +kernel
theorem dX0_goOn_21 : decode cX0_goOn 21 = .ok (.iload_n 1, 1) := by decide +kernel
theorem dX0_goOn_22 : decode cX0_goOn 22 = .ok (.ifCond .ne 6, 3) := by decide +kernel
theorem dX0_goOn_25 : decode cX0_goOn 25 = .ok (.bipush (-7), 2) := by decide +kernel
theorem dX0_goOn_27 : decode cX0_goOn 27 = .ok (.ireturn, 1) := by decide +kernel
theorem dX0_goOn_28 : decode cX0_goOn 28 = .ok (.aload_n 0, 1) := by decide +kernel
theorem dX0_goOn_29 : decode cX0_goOn 29 = .ok (.invokevirtual 55, 3) := by decide +kernel
theorem dX0_goOn_32 : decode cX0_goOn 32 = .ok (.aload_n 0, 1) := by decide +kernel
theorem dX0_goOn_33 : decode cX0_goOn 33 = .ok (.getfield 30, 3) := by decide +kernel
theorem dX0_goOn_36 : decode cX0_goOn 36 = .ok (.iload_n 1, 1) := by decide +kernel
theorem dX0_goOn_37 : decode cX0_goOn 37 = .ok (.invokevirtual 66, 3) := by decide +kernel
theorem dX0_goOn_40 : decode cX0_goOn 40 = .ok (.aload_n 0, 1) := by decide +kernel
theorem dX0_goOn_41 : decode cX0_goOn 41 = .ok (.getfield 11, 3) := by decide +kernel
theorem dX0_goOn_44 : decode cX0_goOn 44 = .ok (.aload_n 0, 1) := by decide +kernel
theorem dX0_goOn_45 : decode cX0_goOn 45 = .ok (.getfield 15, 3) := by decide +kernel
theorem dX0_goOn_48 : decode cX0_goOn 48 = .ok (.aload_n 0, 1) := by decide +kernel
theorem dX0_goOn_49 : decode cX0_goOn 49 = .ok (.invokevirtual 69, 3) := by decide +kernel
theorem dX0_goOn_52 : decode cX0_goOn 52 = .ok (.iload_n 1, 1) := by decide +kernel
theorem dX0_goOn_53 : decode cX0_goOn 53 = .ok (.iadd, 1) := by decide +kernel
theorem dX0_goOn_54 : decode cX0_goOn 54 = .ok (.iastore, 1) := by decide +kernel
theorem dX0_goOn_55 : decode cX0_goOn 55 = .ok (.aload_n 0, 1) := by decide +kernel
theorem dX0_goOn_56 : decode cX0_goOn 56 = .ok (.dup, 1) := by decide +kernel
theorem dX0_goOn_57 : decode cX0_goOn 57 = .ok (.getfield 15, 3) := by decide +kernel
theorem dX0_goOn_60 : decode cX0_goOn 60 = .ok (.iconst 1, 1) := by decide +kernel
theorem dX0_goOn_61 : decode cX0_goOn 61 = .ok (.iadd, 1) := by decide +kernel
theorem dX0_goOn_62 : decode cX0_goOn 62 = .ok (.putfield 15, 3) := by decide +kernel
theorem dX0_goOn_65 : decode cX0_goOn 65 = .ok (.aload_n 0, 1) := by decide +kernel
theorem dX0_goOn_66 : decode cX0_goOn 66 = .ok (.iconst 0, 1) := by decide +kernel
theorem dX0_goOn_67 : decode cX0_goOn 67 = .ok (.putfield 40, 3) := by decide +kernel
theorem dX0_goOn_70 : decode cX0_goOn 70 = .ok (.aload_n 0, 1) := by decide +kernel
theorem dX0_goOn_71 : decode cX0_goOn 71 = .ok (.invokevirtual 69, 3) := by decide +kernel
theorem dX0_goOn_74 : decode cX0_goOn 74 = .ok (.ireturn, 1) := by decide +kernel
theorem dX0_keep_0 : decode cX0_keep 0 = .ok (.aload_n 0, 1) := by decide +kernel
theorem dX0_keep_1 : decode cX0_keep 1 = .ok (.getfield 19, 3) := by decide +kernel
theorem dX0_keep_4 : decode cX0_keep 4 = .ok (.aload_n 0, 1) := by decide +kernel
theorem dX0_keep_5 : decode cX0_keep 5 = .ok (.getfield 72, 3) := by decide +kernel
theorem dX0_keep_8 : decode cX0_keep 8 = .ok (.aload_n 0, 1) := by decide +kernel
theorem dX0_keep_9 : decode cX0_keep 9 = .ok (.getfield 30, 3) := by decide +kernel
theorem dX0_keep_12 : decode cX0_keep 12 = .ok (.invokevirtual 75, 3) := by decide +kernel
theorem dX0_keep_15 : decode cX0_keep 15 = .ok (.lastore, 1) := by decide +kernel
theorem dX0_keep_16 : decode cX0_keep 16 = .ok (.aload_n 0, 1) := by decide +kernel
theorem dX0_keep_17 : decode cX0_keep 17 = .ok (.getfield 23, 3) := by decide +kernel
theorem dX0_keep_20 : decode cX0_keep 20 = .ok (.aload_n 0, 1) := by decide +kernel
theorem dX0_keep_21 : decode cX0_keep 21 = .ok (.getfield 72, 3) := by decide +kernel
theorem dX0_keep_24 : decode cX0_keep 24 = .ok (.aload_n 0, 1) := by decide +kernel
theorem dX0_keep_25 : decode cX0_keep 25 = .ok (.getfield 15, 3) := by decide +kernel
theorem dX0_keep_28 : decode cX0_keep 28 = .ok (.iastore, 1) := by decide +kernel
theorem dX0_keep_29 : decode cX0_keep 29 = .ok (.aload_n 0, 1) := by decide +kernel
theorem dX0_keep_30 : decode cX0_keep 30 = .ok (.getfield 26, 3) := by decide +kernel
theorem dX0_keep_33 : decode cX0_keep 33 = .ok (.aload_n 0, 1) := by decide +kernel
theorem dX0_keep_34 : decode cX0_keep 34 = .ok (.getfield 72, 3) := by decide +kernel
theorem dX0_keep_37 : decode cX0_keep 37 = .ok (.aload_n 0, 1) := by decide +kernel
theorem dX0_keep_38 : decode cX0_keep 38 = .ok (.getfield 40, 3) := by decide +kernel
theorem dX0_keep_41 : decode cX0_keep 41 = .ok (.bastore, 1) := by decide +kernel
theorem dX0_keep_42 : decode cX0_keep 42 = .ok (.aload_n 0, 1) := by decide +kernel
theorem dX0_keep_43 : decode cX0_keep 43 = .ok (.aload_n 0, 1) := by decide +kernel
theorem dX0_keep_44 : decode cX0_keep 44 = .ok (.getfield 72, 3) := by decide +kernel
theorem dX0_keep_47 : decode cX0_keep 47 = .ok (.iconst 1, 1) := by decide +kernel
theorem dX0_keep_48 : decode cX0_keep 48 = .ok (.iadd, 1) := by decide +kernel
theorem dX0_keep_49 : decode cX0_keep 49 = .ok (.bipush 100, 2) := by decide +kernel
theorem dX0_keep_51 : decode cX0_keep 51 = .ok (.irem, 1) := by decide +kernel
theorem dX0_keep_52 : decode cX0_keep 52 = .ok (.putfield 72, 3) := by decide +kernel
theorem dX0_keep_55 : decode cX0_keep 55 = .ok (.aload_n 0, 1) := by decide +kernel
theorem dX0_keep_56 : decode cX0_keep 56 = .ok (.aload_n 0, 1) := by decide +kernel
theorem dX0_keep_57 : decode cX0_keep 57 = .ok (.getfield 44, 3) := by decide +kernel
theorem dX0_keep_60 : decode cX0_keep 60 = .ok (.iconst 1, 1) := by decide +kernel
theorem dX0_keep_61 : decode cX0_keep 61 = .ok (.iadd, 1) := by decide +kernel
theorem dX0_keep_62 : decode cX0_keep 62 = .ok (.bipush 100, 2) := by decide +kernel
theorem dX0_keep_64 : decode cX0_keep 64 = .ok (.invokestatic 79, 3) := by decide +kernel
theorem dX0_keep_67 : decode cX0_keep 67 = .ok (.putfield 44, 3) := by decide +kernel
theorem dX0_keep_70 : decode cX0_keep 70 = .ok (.return_, 1) := by decide +kernel
theorem dX0_takeBack_0 : decode cX0_takeBack 0 = .ok (.aload_n 0, 1) := by decide +kernel
theorem dX0_takeBack_1 : decode cX0_takeBack 1 = .ok (.getfield 44, 3) := by decide +kernel
theorem dX0_takeBack_4 : decode cX0_takeBack 4 = .ok (.ifCond .ne 6, 3) := by decide +kernel
theorem dX0_takeBack_7 : decode cX0_takeBack 7 = .ok (.bipush (-5), 2) := by decide +kernel
theorem dX0_takeBack_9 : decode cX0_takeBack 9 = .ok (.ireturn, 1) := by decide +kernel
theorem dX0_takeBack_10 : decode cX0_takeBack 10 = .ok (.aload_n 0, 1) := by decide +kernel
theorem dX0_takeBack_11 : decode cX0_takeBack 11 = .ok (.aload_n 0, 1) := by decide +kernel
theorem dX0_takeBack_12 : decode cX0_takeBack 12 = .ok (.getfield 72, 3) := by decide +kernel
theorem dX0_takeBack_15 : decode cX0_takeBack 15 = .ok (.bipush 100, 2) := by decide +kernel
theorem dX0_takeBack_17 : decode cX0_takeBack 17 = .ok (.iadd, 1) := by decide +kernel
theorem dX0_takeBack_18 : decode cX0_takeBack 18 = .ok (.iconst 1, 1) := by decide +kernel
theorem dX0_takeBack_19 : decode cX0_takeBack 19 = .ok (.isub, 1) := by decide +kernel
theorem dX0_takeBack_20 : decode cX0_takeBack 20 = .ok (.bipush 100, 2) := by decide +kernel
theorem dX0_takeBack_22 : decode cX0_takeBack 22 = .ok (.irem, 1) := by decide +kernel
theorem dX0_takeBack_23 : decode cX0_takeBack 23 = .ok (.putfield 72, 3) := by decide +kernel
theorem dX0_takeBack_26 : decode cX0_takeBack 26 = .ok (.aload_n 0, 1) := by decide +kernel
theorem dX0_takeBack_27 : decode cX0_takeBack 27 = .ok (.dup, 1) := by decide +kernel
theorem dX0_takeBack_28 : decode cX0_takeBack 28 = .ok (.getfield 44, 3) := by decide +kernel
theorem dX0_takeBack_31 : decode cX0_takeBack 31 = .ok (.iconst 1, 1) := by decide +kernel
theorem dX0_takeBack_32 : decode cX0_takeBack 32 = .ok (.isub, 1) := by decide +kernel
theorem dX0_takeBack_33 : decode cX0_takeBack 33 = .ok (.putfield 44, 3) := by decide +kernel
theorem dX0_takeBack_36 : decode cX0_takeBack 36 = .ok (.aload_n 0, 1) := by decide +kernel
theorem dX0_takeBack_37 : decode cX0_takeBack 37 = .ok (.getfield 30, 3) := by decide +kernel
theorem dX0_takeBack_40 : decode cX0_takeBack 40 = .ok (.aload_n 0, 1) := by decide +kernel
theorem dX0_takeBack_41 : decode cX0_takeBack 41 = .ok (.getfield 19, 3) := by decide +kernel
theorem dX0_takeBack_44 : decode cX0_takeBack 44 = .ok (.aload_n 0, 1) := by decide +kernel
theorem dX0_takeBack_45 : decode cX0_takeBack 45 = .ok (.getfield 72, 3) := by decide +kernel
theorem dX0_takeBack_48 : decode cX0_takeBack 48 = .ok (.laload, 1) := by decide +kernel
theorem dX0_takeBack_49 : decode cX0_takeBack 49 = .ok (.invokevirtual 34, 3) := by decide +kernel
theorem dX0_takeBack_52 : decode cX0_takeBack 52 = .ok (.aload_n 0, 1) := by decide +kernel
theorem dX0_takeBack_53 : decode cX0_takeBack 53 = .ok (.aload_n 0, 1) := by decide +kernel
theorem dX0_takeBack_54 : decode cX0_takeBack 54 = .ok (.getfield 23, 3) := by decide +kernel
theorem dX0_takeBack_57 : decode cX0_takeBack 57 = .ok (.aload_n 0, 1) := by decide +kernel
theorem dX0_takeBack_58 : decode cX0_takeBack 58 = .ok (.getfield 72, 3) := by decide +kernel
theorem dX0_takeBack_61 : decode cX0_takeBack 61 = .ok (.iaload, 1) := by decide +kernel
theorem dX0_takeBack_62 : decode cX0_takeBack 62 = .ok (.putfield 15, 3) := by decide +kernel
theorem dX0_takeBack_65 : decode cX0_takeBack 65 = .ok (.aload_n 0, 1) := by decide +kernel
theorem dX0_takeBack_66 : decode cX0_takeBack 66 = .ok (.aload_n 0, 1) := by decide +kernel
theorem dX0_takeBack_67 : decode cX0_takeBack 67 = .ok (.getfield 26, 3) := by decide +kernel
theorem dX0_takeBack_70 : decode cX0_takeBack 70 = .ok (.aload_n 0, 1) := by decide +kernel
theorem dX0_takeBack_71 : decode cX0_takeBack 71 = .ok (.getfield 72, 3) := by decide +kernel
theorem dX0_takeBack_74 : decode cX0_takeBack 74 = .ok (.baload, 1) := by decide +kernel
theorem dX0_takeBack_75 : decode cX0_takeBack 75 = .ok (.putfield 40, 3) := by decide +kernel
theorem dX0_takeBack_78 : decode cX0_takeBack 78 = .ok (.aload_n 0, 1) := by decide +kernel
theorem dX0_takeBack_79 : decode cX0_takeBack 79 = .ok (.invokevirtual 69, 3) := by decide +kernel
theorem dX0_takeBack_82 : decode cX0_takeBack 82 = .ok (.ireturn, 1) := by decide +kernel
theorem dX0_now_0 : decode cX0_now 0 = .ok (.aload_n 0, 1) := by decide +kernel
theorem dX0_now_1 : decode cX0_now 1 = .ok (.getfield 11, 3) := by decide +kernel
theorem dX0_now_4 : decode cX0_now 4 = .ok (.aload_n 0, 1) := by decide +kernel
theorem dX0_now_5 : decode cX0_now 5 = .ok (.getfield 15, 3) := by decide +kernel
theorem dX0_now_8 : decode cX0_now 8 = .ok (.iconst 1, 1) := by decide +kernel
theorem dX0_now_9 : decode cX0_now 9 = .ok (.isub, 1) := by decide +kernel
theorem dX0_now_10 : decode cX0_now 10 = .ok (.iaload, 1) := by decide +kernel
theorem dX0_now_11 : decode cX0_now 11 = .ok (.ireturn, 1) := by decide +kernel
theorem dX0_momentOf_0 : decode cX0_momentOf 0 = .ok (.iload_n 1, 1) := by decide +kernel
theorem dX0_momentOf_1 : decode cX0_momentOf 1 = .ok (.ifCond .lt 20, 3) := by decide +kernel
theorem dX0_momentOf_4 : decode cX0_momentOf 4 = .ok (.iload_n 1, 1) := by decide +kernel
theorem dX0_momentOf_5 : decode cX0_momentOf 5 = .ok (.aload_n 0, 1) := by decide +kernel
theorem dX0_momentOf_6 : decode cX0_momentOf 6 = .ok (.getfield 15, 3) := by decide +kernel
theorem dX0_momentOf_9 : decode cX0_momentOf 9 = .ok (.if_icmp .ge 12, 3) := by decide +kernel
theorem dX0_momentOf_12 : decode cX0_momentOf 12 = .ok (.aload_n 0, 1) := by decide +kernel
theorem dX0_momentOf_13 : decode cX0_momentOf 13 = .ok (.getfield 11, 3) := by decide +kernel
theorem dX0_momentOf_16 : decode cX0_momentOf 16 = .ok (.iload_n 1, 1) := by decide +kernel
theorem dX0_momentOf_17 : decode cX0_momentOf 17 = .ok (.iaload, 1) := by decide +kernel
theorem dX0_momentOf_18 : decode cX0_momentOf 18 = .ok (.goto 4, 3) := by decide +kernel
theorem dX0_momentOf_21 : decode cX0_momentOf 21 = .ok (.iconst (-1), 1) := by decide +kernel
theorem dX0_momentOf_22 : decode cX0_momentOf 22 = .ok (.ireturn, 1) := by decide +kernel
theorem dX1_init_0 : decode cX1_init 0 = .ok (.aload_n 0, 1) := by decide +kernel
theorem dX1_init_1 : decode cX1_init 1 = .ok (.invokespecial 1, 3) := by decide +kernel
theorem dX1_init_4 : decode cX1_init 4 = .ok (.aload_n 0, 1) := by decide +kernel
theorem dX1_init_5 : decode cX1_init 5 = .ok (.bipush 60, 2) := by decide +kernel
theorem dX1_init_7 : decode cX1_init 7 = .ok (.newarray .int, 2) := by decide +kernel
theorem dX1_init_9 : decode cX1_init 9 = .ok (.putfield 9, 3) := by decide +kernel
theorem dX1_init_12 : decode cX1_init 12 = .ok (.return_, 1) := by decide +kernel
theorem dX1_add_0 : decode cX1_add 0 = .ok (.aload_n 0, 1) := by decide +kernel
theorem dX1_add_1 : decode cX1_add 1 = .ok (.getfield 13, 3) := by decide +kernel
theorem dX1_add_4 : decode cX1_add 4 = .ok (.bipush 60, 2) := by decide +kernel
theorem dX1_add_6 : decode cX1_add 6 = .ok (.if_icmp .ge 23, 3) := by decide +kernel
theorem dX1_add_9 : decode cX1_add 9 = .ok (.aload_n 0, 1) := by decide +kernel
theorem dX1_add_10 : decode cX1_add 10 = .ok (.getfield 9, 3) := by decide +kernel
theorem dX1_add_13 : decode cX1_add 13 = .ok (.aload_n 0, 1) := by decide +kernel
theorem dX1_add_14 : decode cX1_add 14 = .ok (.getfield 13, 3) := by decide +kernel
theorem dX1_add_17 : decode cX1_add 17 = .ok (.iload_n 1, 1) := by decide +kernel
theorem dX1_add_18 : decode cX1_add 18 = .ok (.iastore, 1) := by decide +kernel
theorem dX1_add_19 : decode cX1_add 19 = .ok (.aload_n 0, 1) := by decide +kernel
theorem dX1_add_20 : decode cX1_add 20 = .ok (.dup, 1) := by decide +kernel
theorem dX1_add_21 : decode cX1_add 21 = .ok (.getfield 13, 3) := by decide +kernel
theorem dX1_add_24 : decode cX1_add 24 = .ok (.iconst 1, 1) := by decide +kernel
theorem dX1_add_25 : decode cX1_add 25 = .ok (.iadd, 1) := by decide +kernel
theorem dX1_add_26 : decode cX1_add 26 = .ok (.putfield 13, 3) := by decide +kernel
theorem dX1_add_29 : decode cX1_add 29 = .ok (.return_, 1) := by decide +kernel
theorem dX1_change_0 : decode cX1_change 0 = .ok (.aload_n 0, 1) := by decide +kernel
theorem dX1_change_1 : decode cX1_change 1 = .ok (.getfield 9, 3) := by decide +kernel
theorem dX1_change_4 : decode cX1_change 4 = .ok (.iload_n 1, 1) := by decide +kernel
theorem dX1_change_5 : decode cX1_change 5 = .ok (.iload_n 2, 1) := by decide +kernel
theorem dX1_change_6 : decode cX1_change 6 = .ok (.iastore, 1) := by decide +kernel
theorem dX1_change_7 : decode cX1_change 7 = .ok (.return_, 1) := by decide +kernel
theorem dX1_removeAll_0 : decode cX1_removeAll 0 = .ok (.aload_n 0, 1) := by decide +kernel
theorem dX1_removeAll_1 : decode cX1_removeAll 1 = .ok (.iconst 0, 1) := by decide +kernel
theorem dX1_removeAll_2 : decode cX1_removeAll 2 = .ok (.putfield 13, 3) := by decide +kernel
theorem dX1_removeAll_5 : decode cX1_removeAll 5 = .ok (.return_, 1) := by decide +kernel
theorem dX1_isFull_0 : decode cX1_isFull 0 = .ok (.aload_n 0, 1) := by decide +kernel
theorem dX1_isFull_1 : decode cX1_isFull 1 = .ok (.getfield 13, 3) := by decide +kernel
theorem dX1_isFull_4 : decode cX1_isFull 4 = .ok (.bipush 60, 2) := by decide +kernel
theorem dX1_isFull_6 : decode cX1_isFull 6 = .ok (.if_icmp .lt 7, 3) := by decide +kernel
theorem dX1_isFull_9 : decode cX1_isFull 9 = .ok (.iconst 1, 1) := by decide +kernel
theorem dX1_isFull_10 : decode cX1_isFull 10 = .ok (.goto 4, 3) := by decide +kernel
theorem dX1_isFull_13 : decode cX1_isFull 13 = .ok (.iconst 0, 1) := by decide +kernel
theorem dX1_isFull_14 : decode cX1_isFull 14 = .ok (.ireturn, 1) := by decide +kernel
theorem dX1_has_0 : decode cX1_has 0 = .ok (.iload_n 1, 1) := by decide +kernel
theorem dX1_has_1 : decode cX1_has 1 = .ok (.ifCond .lt 15, 3) := by decide +kernel
theorem dX1_has_4 : decode cX1_has 4 = .ok (.iload_n 1, 1) := by decide +kernel
theorem dX1_has_5 : decode cX1_has 5 = .ok (.aload_n 0, 1) := by decide +kernel
theorem dX1_has_6 : decode cX1_has 6 = .ok (.getfield 13, 3) := by decide +kernel
theorem dX1_has_9 : decode cX1_has 9 = .ok (.if_icmp .ge 7, 3) := by decide +kernel
theorem dX1_has_12 : decode cX1_has 12 = .ok (.iconst 1, 1) := by decide +kernel
theorem dX1_has_13 : decode cX1_has 13 = .ok (.goto 4, 3) := by decide +kernel
theorem dX1_has_16 : decode cX1_has 16 = .ok (.iconst 0, 1) := by decide +kernel
theorem dX1_has_17 : decode cX1_has 17 = .ok (.ireturn, 1) := by decide +kernel
theorem dX1_count_0 : decode cX1_count 0 = .ok (.aload_n 0, 1) := by decide +kernel
theorem dX1_count_1 : decode cX1_count 1 = .ok (.getfield 13, 3) := by decide +kernel
theorem dX1_count_4 : decode cX1_count 4 = .ok (.ireturn, 1) := by decide +kernel
theorem dX1_goThrough_0 : decode cX1_goThrough 0 = .ok (.iconst 0, 1) := by decide +kernel
theorem dX1_goThrough_1 : decode cX1_goThrough 1 = .ok (.istore_n 2, 1) := by decide +kernel
theorem dX1_goThrough_2 : decode cX1_goThrough 2 = .ok (.aload_n 1, 1) := by decide +kernel
theorem dX1_goThrough_3 : decode cX1_goThrough 3 = .ok (.lconst 0, 1) := by decide +kernel
theorem dX1_goThrough_4 : decode cX1_goThrough 4 = .ok (.invokevirtual 17, 3) := by decide +kernel
theorem dX1_goThrough_7 : decode cX1_goThrough 7 = .ok (.iconst 0, 1) := by decide +kernel
theorem dX1_goThrough_8 : decode cX1_goThrough 8 = .ok (.istore_n 3, 1) := by decide +kernel
theorem dX1_goThrough_9 : decode cX1_goThrough 9 = .ok (.iload_n 3, 1) := by decide +kernel
theorem dX1_goThrough_10 : decode cX1_goThrough 10 = .ok (.aload_n 0, 1) := by decide +kernel
theorem dX1_goThrough_11 : decode cX1_goThrough 11 = .ok (.getfield 13, 3) := by decide +kernel
theorem dX1_goThrough_14 : decode cX1_goThrough 14 = .ok (.if_icmp .ge 64, 3) := by decide +kernel
theorem dX1_goThrough_17 : decode cX1_goThrough 17 = .ok (.aload_n 1, 1) := by decide +kernel
theorem dX1_goThrough_18 : decode cX1_goThrough 18 = .ok (.aload_n 0, 1) := by decide +kernel
theorem dX1_goThrough_19 : decode cX1_goThrough 19 = .ok (.getfield 9, 3) := by decide +kernel
theorem dX1_goThrough_22 : decode cX1_goThrough 22 = .ok (.iload_n 3, 1) := by decide +kernel
theorem dX1_goThrough_23 : decode cX1_goThrough 23 = .ok (.iaload, 1) := by decide +kernel
theorem dX1_goThrough_24 : decode cX1_goThrough 24 = .ok (.invokevirtual 23, 3) := by decide +kernel
theorem dX1_goThrough_27 : decode cX1_goThrough 27 = .ok (.ifCond .ne 8, 3) := by decide +kernel
theorem dX1_goThrough_30 : decode cX1_goThrough 30 = .ok (.bipush (-2), 2) := by decide +kernel
theorem dX1_goThrough_32 : decode cX1_goThrough 32 = .ok (.iload_n 3, 1) := by decide +kernel
theorem dX1_goThrough_33 : decode cX1_goThrough 33 = .ok (.isub, 1) := by decide +kernel
theorem dX1_goThrough_34 : decode cX1_goThrough 34 = .ok (.ireturn, 1) := by decide +kernel
theorem dX1_goThrough_35 : decode cX1_goThrough 35 = .ok (.aload_n 1, 1) := by decide +kernel
theorem dX1_goThrough_36 : decode cX1_goThrough 36 = .ok (.aload_n 0, 1) := by decide +kernel
theorem dX1_goThrough_37 : decode cX1_goThrough 37 = .ok (.getfield 9, 3) := by decide +kernel
theorem dX1_goThrough_40 : decode cX1_goThrough 40 = .ok (.iload_n 3, 1) := by decide +kernel
theorem dX1_goThrough_41 : decode cX1_goThrough 41 = .ok (.iaload, 1) := by decide +kernel
theorem dX1_goThrough_42 : decode cX1_goThrough 42 = .ok (.invokevirtual 27, 3) := by decide +kernel
theorem dX1_goThrough_45 : decode cX1_goThrough 45 = .ok (.aload_n 1, 1) := by decide +kernel
theorem dX1_goThrough_46 : decode cX1_goThrough 46 = .ok (.invokevirtual 31, 3) := by decide +kernel
theorem dX1_goThrough_49 : decode cX1_goThrough 49 = .ok (.istore 4, 2) := by decide +kernel
theorem dX1_goThrough_51 : decode cX1_goThrough 51 = .ok (.iload 4, 2) := by decide +kernel
theorem dX1_goThrough_53 : decode cX1_goThrough 53 = .ok (.ifCond .ne 8, 3) := by decide +kernel
theorem dX1_goThrough_56 : decode cX1_goThrough 56 = .ok (.bipush (-2), 2) := by decide +kernel
theorem dX1_goThrough_58 : decode cX1_goThrough 58 = .ok (.iload_n 3, 1) := by decide +kernel
theorem dX1_goThrough_59 : decode cX1_goThrough 59 = .ok (.isub, 1) := by decide +kernel
theorem dX1_goThrough_60 : decode cX1_goThrough 60 = .ok (.ireturn, 1) := by decide +kernel
theorem dX1_goThrough_61 : decode cX1_goThrough 61 = .ok (.aload_n 1, 1) := by decide +kernel
theorem dX1_goThrough_62 : decode cX1_goThrough 62 = .ok (.iload 4, 2) := by decide +kernel
theorem dX1_goThrough_64 : decode cX1_goThrough 64 = .ok (.invokevirtual 35, 3) := by decide +kernel
theorem dX1_goThrough_67 : decode cX1_goThrough 67 = .ok (.iload_n 2, 1) := by decide +kernel
theorem dX1_goThrough_68 : decode cX1_goThrough 68 = .ok (.iload 4, 2) := by decide +kernel
theorem dX1_goThrough_70 : decode cX1_goThrough 70 = .ok (.iadd, 1) := by decide +kernel
theorem dX1_goThrough_71 : decode cX1_goThrough 71 = .ok (.istore_n 2, 1) := by decide +kernel
theorem dX1_goThrough_72 : decode cX1_goThrough 72 = .ok (.iinc 3 1, 3) := by decide +kernel
theorem dX1_goThrough_75 : decode cX1_goThrough 75 = .ok (.goto (-66), 3) := by decide +kernel
theorem dX1_goThrough_78 : decode cX1_goThrough 78 = .ok (.iload_n 2, 1) := by decide +kernel
theorem dX1_goThrough_79 : decode cX1_goThrough 79 = .ok (.ireturn, 1) := by decide +kernel
theorem dX2_init_0 : decode cX2_init 0 = .ok (.aload_n 0, 1) := by decide +kernel
theorem dX2_init_1 : decode cX2_init 1 = .ok (.invokespecial 1, 3) := by decide +kernel
theorem dX2_init_4 : decode cX2_init 4 = .ok (.aload_n 0, 1) := by decide +kernel
theorem dX2_init_5 : decode cX2_init 5 = .ok (.iconst 4, 1) := by decide +kernel
theorem dX2_init_6 : decode cX2_init 6 = .ok (.newarray .int, 2) := by decide +kernel
theorem dX2_init_8 : decode cX2_init 8 = .ok (.putfield 9, 3) := by decide +kernel
theorem dX2_init_11 : decode cX2_init 11 = .ok (.aload_n 0, 1) := by decide +kernel
theorem dX2_init_12 : decode cX2_init 12 = .ok (.iconst 4, 1) := by decide +kernel
theorem dX2_init_13 : decode cX2_init 13 = .ok (.newarray .boolean, 2) := by decide +kernel
theorem dX2_init_15 : decode cX2_init 15 = .ok (.putfield 15, 3) := by decide +kernel
theorem dX2_init_18 : decode cX2_init 18 = .ok (.aload_n 0, 1) := by decide +kernel
theorem dX2_init_19 : decode cX2_init 19 = .ok (.iconst 4, 1) := by decide +kernel
theorem dX2_init_20 : decode cX2_init 20 = .ok (.newarray .int, 2) := by decide +kernel
theorem dX2_init_22 : decode cX2_init 22 = .ok (.putfield 19, 3) := by decide +kernel
theorem dX2_init_25 : decode cX2_init 25 = .ok (.aload_n 0, 1) := by decide +kernel
theorem dX2_init_26 : decode cX2_init 26 = .ok (.aload_n 1, 1) := by decide +kernel
theorem dX2_init_27 : decode cX2_init 27 = .ok (.putfield 22, 3) := by decide +kernel
theorem dX2_init_30 : decode cX2_init 30 = .ok (.return_, 1) := by decide +kernel
theorem dX2_key_0 : decode cX2_key 0 = .ok (.lconst 0, 1) := by decide +kernel
theorem dX2_key_1 : decode cX2_key 1 = .ok (.lstore_n 1, 1) := by decide +kernel
theorem dX2_key_2 : decode cX2_key 2 = .ok (.iconst 0, 1) := by decide +kernel
theorem dX2_key_3 : decode cX2_key 3 = .ok (.istore_n 3, 1) := by decide +kernel
theorem dX2_key_4 : decode cX2_key 4 = .ok (.iload_n 3, 1) := by decide +kernel
theorem dX2_key_5 : decode cX2_key 5 = .ok (.iconst 4, 1) := by decide +kernel
theorem dX2_key_6 : decode cX2_key 6 = .ok (.if_icmp .ge 49, 3) := by decide +kernel
theorem dX2_key_9 : decode cX2_key 9 = .ok (.lload_n 1, 1) := by decide +kernel
theorem dX2_key_10 : decode cX2_key 10 = .ok (.bipush 10, 2) := by decide +kernel
theorem dX2_key_12 : decode cX2_key 12 = .ok (.lshl, 1) := by decide +kernel
theorem dX2_key_13 : decode cX2_key 13 = .ok (.aload_n 0, 1) := by decide +kernel
theorem dX2_key_14 : decode cX2_key 14 = .ok (.getfield 9, 3) := by decide +kernel
theorem dX2_key_17 : decode cX2_key 17 = .ok (.iload_n 3, 1) := by decide +kernel
theorem dX2_key_18 : decode cX2_key 18 = .ok (.iaload, 1) := by decide +kernel
theorem dX2_key_19 : decode cX2_key 19 = .ok (.iconst 5, 1) := by decide +kernel
theorem dX2_key_20 : decode cX2_key 20 = .ok (.ishl, 1) := by decide +kernel
theorem dX2_key_21 : decode cX2_key 21 = .ok (.i2l, 1) := by decide +kernel
theorem dX2_key_22 : decode cX2_key 22 = .ok (.lor, 1) := by decide +kernel
theorem dX2_key_23 : decode cX2_key 23 = .ok (.aload_n 0, 1) := by decide +kernel
theorem dX2_key_24 : decode cX2_key 24 = .ok (.getfield 15, 3) := by decide +kernel
theorem dX2_key_27 : decode cX2_key 27 = .ok (.iload_n 3, 1) := by decide +kernel
theorem dX2_key_28 : decode cX2_key 28 = .ok (.baload, 1) := by decide +kernel
theorem dX2_key_29 : decode cX2_key 29 = .ok (.ifCond .eq 8, 3) := by decide +kernel
theorem dX2_key_32 : decode cX2_key 32 = .ok (.bipush 16, 2) := by decide +kernel
theorem dX2_key_34 : decode cX2_key 34 = .ok (.goto 4, 3) := by decide +kernel
theorem dX2_key_37 : decode cX2_key 37 = .ok (.iconst 0, 1) := by decide +kernel
theorem dX2_key_38 : decode cX2_key 38 = .ok (.i2l, 1) := by decide +kernel
theorem dX2_key_39 : decode cX2_key 39 = .ok (.lor, 1) := by decide +kernel
theorem dX2_key_40 : decode cX2_key 40 = .ok (.aload_n 0, 1) := by decide +kernel
theorem dX2_key_41 : decode cX2_key 41 = .ok (.getfield 19, 3) := by decide +kernel
theorem dX2_key_44 : decode cX2_key 44 = .ok (.iload_n 3, 1) := by decide +kernel
theorem dX2_key_45 : decode cX2_key 45 = .ok (.iaload, 1) := by decide +kernel
theorem dX2_key_46 : decode cX2_key 46 = .ok (.i2l, 1) := by decide +kernel
theorem dX2_key_47 : decode cX2_key 47 = .ok (.lor, 1) := by decide +kernel
theorem dX2_key_48 : decode cX2_key 48 = .ok (.lstore_n 1, 1) := by decide +kernel
theorem dX2_key_49 : decode cX2_key 49 = .ok (.iinc 3 1, 3) := by decide +kernel
theorem dX2_key_52 : decode cX2_key 52 = .ok (.goto (-48), 3) := by decide +kernel
theorem dX2_key_55 : decode cX2_key 55 = .ok (.lload_n 1, 1) := by decide +kernel
theorem dX2_key_56 : decode cX2_key 56 = .ok (.lreturn, 1) := by decide +kernel
theorem dX2_take_0 : decode cX2_take 0 = .ok (.lload_n 1, 1) := by decide +kernel
theorem dX2_take_1 : decode cX2_take 1 = .ok (.lstore_n 3, 1) := by decide +kernel
theorem dX2_take_2 : decode cX2_take 2 = .ok (.iconst 3, 1) := by decide +kernel
theorem dX2_take_3 : decode cX2_take 3 = .ok (.istore 5, 2) := by decide +kernel
theorem dX2_take_5 : decode cX2_take 5 = .ok (.iload 5, 2) := by decide +kernel
theorem dX2_take_7 : decode cX2_take 7 = .ok (.ifCond .lt 64, 3) := by decide +kernel
theorem dX2_take_10 : decode cX2_take 10 = .ok (.lload_n 3, 1) := by decide +kernel
theorem dX2_take_11 : decode cX2_take 11 = .ok (.l2i, 1) := by decide +kernel
theorem dX2_take_12 : decode cX2_take 12 = .ok (.istore 6, 2) := by decide +kernel
theorem dX2_take_14 : decode cX2_take 14 = .ok (.aload_n 0, 1) := by decide +kernel
theorem dX2_take_15 : decode cX2_take 15 = .ok (.getfield 9, 3) := by decide +kernel
theorem dX2_take_18 : decode cX2_take 18 = .ok (.iload 5, 2) := by decide +kernel
theorem dX2_take_20 : decode cX2_take 20 = .ok (.iload 6, 2) := by decide +kernel
theorem dX2_take_22 : decode cX2_take 22 = .ok (.iconst 5, 1) := by decide +kernel
theorem dX2_take_23 : decode cX2_take 23 = .ok (.ishr, 1) := by decide +kernel
theorem dX2_take_24 : decode cX2_take 24 = .ok (.bipush 31, 2) := by decide +kernel
theorem dX2_take_26 : decode cX2_take 26 = .ok (.iand, 1) := by decide +kernel
theorem dX2_take_27 : decode cX2_take 27 = .ok (.iastore, 1) := by decide +kernel
theorem dX2_take_28 : decode cX2_take 28 = .ok (.aload_n 0, 1) := by decide +kernel
theorem dX2_take_29 : decode cX2_take 29 = .ok (.getfield 15, 3) := by decide +kernel
theorem dX2_take_32 : decode cX2_take 32 = .ok (.iload 5, 2) := by decide +kernel
theorem dX2_take_34 : decode cX2_take 34 = .ok (.iload 6, 2) := by decide +kernel
theorem dX2_take_36 : decode cX2_take 36 = .ok (.bipush 16, 2) := by decide +kernel
theorem dX2_take_38 : decode cX2_take 38 = .ok (.iand, 1) := by decide +kernel
theorem dX2_take_39 : decode cX2_take 39 = .ok (.ifCond .eq 7, 3) := by decide +kernel
theorem dX2_take_42 : decode cX2_take 42 = .ok (.iconst 1, 1) := by decide +kernel
theorem dX2_take_43 : decode cX2_take 43 = .ok (.goto 4, 3) := by decide +kernel
theorem dX2_take_46 : decode cX2_take 46 = .ok (.iconst 0, 1) := by decide +kernel
theorem dX2_take_47 : decode cX2_take 47 = .ok (.bastore, 1) := by decide +kernel
theorem dX2_take_48 : decode cX2_take 48 = .ok (.aload_n 0, 1) := by decide +kernel
theorem dX2_take_49 : decode cX2_take 49 = .ok (.getfield 19, 3) := by decide +kernel
theorem dX2_take_52 : decode cX2_take 52 = .ok (.iload 5, 2) := by decide +kernel
theorem dX2_take_54 : decode cX2_take 54 = .ok (.iload 6, 2) := by decide +kernel
theorem dX2_take_56 : decode cX2_take 56 = .ok (.bipush 15, 2) := by decide +kernel
theorem dX2_take_58 : decode cX2_take 58 = .ok (.iand, 1) := by decide +kernel
theorem dX2_take_59 : decode cX2_take 59 = .ok (.iastore, 1) := by decide +kernel
theorem dX2_take_60 : decode cX2_take 60 = .ok (.lload_n 3, 1) := by decide +kernel
theorem dX2_take_61 : decode cX2_take 61 = .ok (.bipush 10, 2) := by decide +kernel
theorem dX2_take_63 : decode cX2_take 63 = .ok (.lshr, 1) := by decide +kernel
theorem dX2_take_64 : decode cX2_take 64 = .ok (.lstore_n 3, 1) := by decide +kernel
theorem dX2_take_65 : decode cX2_take 65 = .ok (.iinc 5 (-1), 3) := by decide +kernel
theorem dX2_take_68 : decode cX2_take 68 = .ok (.goto (-63), 3) := by decide +kernel
theorem dX2_take_71 : decode cX2_take 71 = .ok (.return_, 1) := by decide +kernel
theorem dX2_part_0 : decode cX2_part 0 = .ok (.iload_n 2, 1) := by decide +kernel
theorem dX2_part_1 : decode cX2_part 1 = .ok (.ifCond .ne 10, 3) := by decide +kernel
theorem dX2_part_4 : decode cX2_part 4 = .ok (.aload_n 0, 1) := by decide +kernel
theorem dX2_part_5 : decode cX2_part 5 = .ok (.getfield 9, 3) := by decide +kernel
theorem dX2_part_8 : decode cX2_part 8 = .ok (.iload_n 1, 1) := by decide +kernel
theorem dX2_part_9 : decode cX2_part 9 = .ok (.iaload, 1) := by decide +kernel
theorem dX2_part_10 : decode cX2_part 10 = .ok (.ireturn, 1) := by decide +kernel
theorem dX2_part_11 : decode cX2_part 11 = .ok (.iload_n 2, 1) := by decide +kernel
theorem dX2_part_12 : decode cX2_part 12 = .ok (.iconst 1, 1) := by decide +kernel
theorem dX2_part_13 : decode cX2_part 13 = .ok (.if_icmp .ne 18, 3) := by decide +kernel
theorem dX2_part_16 : decode cX2_part 16 = .ok (.aload_n 0, 1) := by decide +kernel
theorem dX2_part_17 : decode cX2_part 17 = .ok (.getfield 15, 3) := by decide +kernel
theorem dX2_part_20 : decode cX2_part 20 = .ok (.iload_n 1, 1) := by decide +kernel
theorem dX2_part_21 : decode cX2_part 21 = .ok (.baload, 1) := by decide +kernel
theorem dX2_part_22 : decode cX2_part 22 = .ok (.ifCond .eq 7, 3) := by decide +kernel
theorem dX2_part_25 : decode cX2_part 25 = .ok (.iconst 1, 1) := by decide +kernel
theorem dX2_part_26 : decode cX2_part 26 = .ok (.goto 4, 3) := by decide +kernel
theorem dX2_part_29 : decode cX2_part 29 = .ok (.iconst 0, 1) := by decide +kernel
theorem dX2_part_30 : decode cX2_part 30 = .ok (.ireturn, 1) := by decide +kernel
theorem dX2_part_31 : decode cX2_part 31 = .ok (.aload_n 0, 1) := by decide +kernel
theorem dX2_part_32 : decode cX2_part 32 = .ok (.getfield 19, 3) := by decide +kernel
theorem dX2_part_35 : decode cX2_part 35 = .ok (.iload_n 1, 1) := by decide +kernel
theorem dX2_part_36 : decode cX2_part 36 = .ok (.iaload, 1) := by decide +kernel
theorem dX2_part_37 : decode cX2_part 37 = .ok (.ireturn, 1) := by decide +kernel
theorem dX2_allows_0 : decode cX2_allows 0 = .ok (.iload_n 1, 1) := by decide +kernel
theorem dX2_allows_1 : decode cX2_allows 1 = .ok (.istore_n 2, 1) := by decide +kernel
theorem dX2_allows_2 : decode cX2_allows 2 = .ok (.iconst 0, 1) := by decide +kernel
theorem dX2_allows_3 : decode cX2_allows 3 = .ok (.istore_n 3, 1) := by decide +kernel
theorem dX2_allows_4 : decode cX2_allows 4 = .ok (.iload_n 3, 1) := by decide +kernel
theorem dX2_allows_5 : decode cX2_allows 5 = .ok (.iconst 4, 1) := by decide +kernel
theorem dX2_allows_6 : decode cX2_allows 6 = .ok (.if_icmp .ge 40, 3) := by decide +kernel
theorem dX2_allows_9 : decode cX2_allows 9 = .ok (.iload_n 2, 1) := by decide +kernel
theorem dX2_allows_10 : decode cX2_allows 10 = .ok (.ifCond .eq 36, 3) := by decide +kernel
theorem dX2_allows_13 : decode cX2_allows 13 = .ok (.iload_n 2, 1) := by decide +kernel
theorem dX2_allows_14 : decode cX2_allows 14 = .ok (.iconst 3, 1) := by decide +kernel
theorem dX2_allows_15 : decode cX2_allows 15 = .ok (.iand, 1) := by decide +kernel
theorem dX2_allows_16 : decode cX2_allows 16 = .ok (.istore 4, 2) := by decide +kernel
theorem dX2_allows_18 : decode cX2_allows 18 = .ok (.iload 4, 2) := by decide +kernel
theorem dX2_allows_20 : decode cX2_allows 20 = .ok (.ifCond .eq 16, 3) := by decide +kernel
theorem dX2_allows_23 : decode cX2_allows 23 = .ok (.aload_n 0, 1) := by decide +kernel
theorem dX2_allows_24 : decode cX2_allows 24 = .ok (.iload_n 3, 1) := by decide +kernel
theorem dX2_allows_25 : decode cX2_allows 25 = .ok (.iload 4, 2) := by decide +kernel
theorem dX2_allows_27 : decode cX2_allows 27 = .ok (.iload_n 1, 1) := by decide +kernel
theorem dX2_allows_28 : decode cX2_allows 28 = .ok (.invokevirtual 26, 3) := by decide +kernel
theorem dX2_allows_31 : decode cX2_allows 31 = .ok (.ifCond .ne 5, 3) := by decide +kernel
theorem dX2_allows_34 : decode cX2_allows 34 = .ok (.iconst 0, 1) := by decide +kernel
theorem dX2_allows_35 : decode cX2_allows 35 = .ok (.ireturn, 1) := by decide +kernel
theorem dX2_allows_36 : decode cX2_allows 36 = .ok (.iload_n 2, 1) := by decide +kernel
theorem dX2_allows_37 : decode cX2_allows 37 = .ok (.iconst 2, 1) := by decide +kernel
theorem dX2_allows_38 : decode cX2_allows 38 = .ok (.ishr, 1) := by decide +kernel
theorem dX2_allows_39 : decode cX2_allows 39 = .ok (.istore_n 2, 1) := by decide +kernel
theorem dX2_allows_40 : decode cX2_allows 40 = .ok (.iinc 3 1, 3) := by decide +kernel
theorem dX2_allows_43 : decode cX2_allows 43 = .ok (.goto (-39), 3) := by decide +kernel
theorem dX2_allows_46 : decode cX2_allows 46 = .ok (.iconst 1, 1) := by decide +kernel
theorem dX2_allows_47 : decode cX2_allows 47 = .ok (.ireturn, 1) := by decide +kernel
theorem dX2_allowsDigit_0 : decode cX2_allowsDigit 0 = .ok (.aload_n 0, 1) := by decide +kernel
theorem dX2_allowsDigit_1 : decode cX2_allowsDigit 1 = .ok (.getfield 22, 3) := by decide +kernel
theorem dX2_allowsDigit_4 : decode cX2_allowsDigit 4 = .ok (.iload_n 1, 1) := by decide +kernel
theorem dX2_allowsDigit_5 : decode cX2_allowsDigit 5 = .ok (.invokevirtual 30, 3) := by decide +kernel
theorem dX2_allowsDigit_8 : decode cX2_allowsDigit 8 = .ok (.ifCond .ne 5, 3) := by decide +kernel
theorem dX2_allowsDigit_11 : decode cX2_allowsDigit 11 = .ok (.iconst 0, 1) := by decide +kernel
theorem dX2_allowsDigit_12 : decode cX2_allowsDigit 12 = .ok (.ireturn, 1) := by decide +kernel
theorem dX2_allowsDigit_13 : decode cX2_allowsDigit 13 = .ok (.iload_n 2, 1) := by decide +kernel
theorem dX2_allowsDigit_14 : decode cX2_allowsDigit 14 = .ok (.iconst 3, 1) := by decide +kernel
theorem dX2_allowsDigit_15 : decode cX2_allowsDigit 15 = .ok (.if_icmp .ne 10, 3) := by decide +kernel
theorem dX2_allowsDigit_18 : decode cX2_allowsDigit 18 = .ok (.aload_n 0, 1) := by decide +kernel
theorem dX2_allowsDigit_19 : decode cX2_allowsDigit 19 = .ok (.getfield 15, 3) := by decide +kernel
theorem dX2_allowsDigit_22 : decode cX2_allowsDigit 22 = .ok (.iload_n 1, 1) := by decide +kernel
theorem dX2_allowsDigit_23 : decode cX2_allowsDigit 23 = .ok (.baload, 1) := by decide +kernel
theorem dX2_allowsDigit_24 : decode cX2_allowsDigit 24 = .ok (.ireturn, 1) := by decide +kernel
theorem dX2_allowsDigit_25 : decode cX2_allowsDigit 25 = .ok (.aload_n 0, 1) := by decide +kernel
theorem dX2_allowsDigit_26 : decode cX2_allowsDigit 26 = .ok (.getfield 15, 3) := by decide +kernel
theorem dX2_allowsDigit_29 : decode cX2_allowsDigit 29 = .ok (.iload_n 1, 1) := by decide +kernel
theorem dX2_allowsDigit_30 : decode cX2_allowsDigit 30 = .ok (.baload, 1) := by decide +kernel
theorem dX2_allowsDigit_31 : decode cX2_allowsDigit 31 = .ok (.ifCond .eq 5, 3) := by decide +kernel
theorem dX2_allowsDigit_34 : decode cX2_allowsDigit 34 = .ok (.iconst 0, 1) := by decide +kernel
theorem dX2_allowsDigit_35 : decode cX2_allowsDigit 35 = .ok (.ireturn, 1) := by decide +kernel
theorem dX2_allowsDigit_36 : decode cX2_allowsDigit 36 = .ok (.aload_n 0, 1) := by decide +kernel
theorem dX2_allowsDigit_37 : decode cX2_allowsDigit 37 = .ok (.getfield 22, 3) := by decide +kernel
theorem dX2_allowsDigit_40 : decode cX2_allowsDigit 40 = .ok (.iload_n 1, 1) := by decide +kernel
theorem dX2_allowsDigit_41 : decode cX2_allowsDigit 41 = .ok (.invokevirtual 36, 3) := by decide +kernel
theorem dX2_allowsDigit_44 : decode cX2_allowsDigit 44 = .ok (.istore 4, 2) := by decide +kernel
theorem dX2_allowsDigit_46 : decode cX2_allowsDigit 46 = .ok (.iload_n 2, 1) := by decide +kernel
theorem dX2_allowsDigit_47 : decode cX2_allowsDigit 47 = .ok (.iconst 2, 1) := by decide +kernel
theorem dX2_allowsDigit_48 : decode cX2_allowsDigit 48 = .ok (.if_icmp .ne 21, 3) := by decide +kernel
theorem dX2_allowsDigit_51 : decode cX2_allowsDigit 51 = .ok (.iload 4, 2) := by decide +kernel
theorem dX2_allowsDigit_53 : decode cX2_allowsDigit 53 = .ok (.iconst 2, 1) := by decide +kernel
theorem dX2_allowsDigit_54 : decode cX2_allowsDigit 54 = .ok (.if_icmp .eq 9, 3) := by decide +kernel
theorem dX2_allowsDigit_57 : decode cX2_allowsDigit 57 = .ok (.iload 4, 2) := by decide +kernel
theorem dX2_allowsDigit_59 : decode cX2_allowsDigit 59 = .ok (.iconst 4, 1) := by decide +kernel
theorem dX2_allowsDigit_60 : decode cX2_allowsDigit 60 = .ok (.if_icmp .ne 7, 3) := by decide +kernel
theorem dX2_allowsDigit_63 : decode cX2_allowsDigit 63 = .ok (.iconst 1, 1) := by decide +kernel
theorem dX2_allowsDigit_64 : decode cX2_allowsDigit 64 = .ok (.goto 4, 3) := by decide +kernel
theorem dX2_allowsDigit_67 : decode cX2_allowsDigit 67 = .ok (.iconst 0, 1) := by decide +kernel
theorem dX2_allowsDigit_68 : decode cX2_allowsDigit 68 = .ok (.ireturn, 1) := by decide +kernel
theorem dX2_allowsDigit_69 : decode cX2_allowsDigit 69 = .ok (.iload 4, 2) := by decide +kernel
theorem dX2_allowsDigit_71 : decode cX2_allowsDigit 71 = .ok (.iconst 3, 1) := by decide +kernel
theorem dX2_allowsDigit_72 : decode cX2_allowsDigit 72 = .ok (.if_icmp .ne 17, 3) := by decide +kernel
theorem dX2_allowsDigit_75 : decode cX2_allowsDigit 75 = .ok (.aload_n 0, 1) := by decide +kernel
theorem dX2_allowsDigit_76 : decode cX2_allowsDigit 76 = .ok (.iload_n 1, 1) := by decide +kernel
theorem dX2_allowsDigit_77 : decode cX2_allowsDigit 77 = .ok (.invokevirtual 40, 3) := by decide +kernel
theorem dX2_allowsDigit_80 : decode cX2_allowsDigit 80 = .ok (.ifCond .ne 7, 3) := by decide +kernel
theorem dX2_allowsDigit_83 : decode cX2_allowsDigit 83 = .ok (.iconst 1, 1) := by decide +kernel
theorem dX2_allowsDigit_84 : decode cX2_allowsDigit 84 = .ok (.goto 4, 3) := by decide +kernel
theorem dX2_allowsDigit_87 : decode cX2_allowsDigit 87 = .ok (.iconst 0, 1) := by decide +kernel
theorem dX2_allowsDigit_88 : decode cX2_allowsDigit 88 = .ok (.ireturn, 1) := by decide +kernel
theorem dX2_allowsDigit_89 : decode cX2_allowsDigit 89 = .ok (.iload 4, 2) := by decide +kernel
theorem dX2_allowsDigit_91 : decode cX2_allowsDigit 91 = .ok (.iconst 1, 1) := by decide +kernel
theorem dX2_allowsDigit_92 : decode cX2_allowsDigit 92 = .ok (.if_icmp .ne 19, 3) := by decide +kernel
theorem dX2_allowsDigit_95 : decode cX2_allowsDigit 95 = .ok (.iload_n 3, 1) := by decide +kernel
theorem dX2_allowsDigit_96 : decode cX2_allowsDigit 96 = .ok (.aload_n 0, 1) := by decide +kernel
theorem dX2_allowsDigit_97 : decode cX2_allowsDigit 97 = .ok (.getfield 22, 3) := by decide +kernel
theorem dX2_allowsDigit_100 : decode cX2_allowsDigit 100 = .ok (.iload_n 1, 1) := by decide +kernel
theorem dX2_allowsDigit_101 : decode cX2_allowsDigit 101 = .ok (.invokevirtual 43, 3) := by decide +kernel
theorem dX2_allowsDigit_104 : decode cX2_allowsDigit 104 = .ok (.invokestatic 46, 3) := by decide +kernel
theorem dX2_allowsDigit_107 : decode cX2_allowsDigit 107 = .ok (.iconst 1, 1) := by decide +kernel
theorem dX2_allowsDigit_108 : decode cX2_allowsDigit 108 = .ok (.if_icmp .ne 7, 3) := by decide +kernel
theorem dX2_allowsDigit_111 : decode cX2_allowsDigit 111 = .ok (.iconst 1, 1) := by decide +kernel
theorem dX2_allowsDigit_112 : decode cX2_allowsDigit 112 = .ok (.goto 4, 3) := by decide +kernel
theorem dX2_allowsDigit_115 : decode cX2_allowsDigit 115 = .ok (.iconst 0, 1) := by decide +kernel
theorem dX2_allowsDigit_116 : decode cX2_allowsDigit 116 = .ok (.ireturn, 1) := by decide +kernel
theorem dX2_falls_0 : decode cX2_falls 0 = .ok (.aload_n 0, 1) := by decide +kernel
theorem dX2_falls_1 : decode cX2_falls 1 = .ok (.getfield 15, 3) := by decide +kernel
theorem dX2_falls_4 : decode cX2_falls 4 = .ok (.iload_n 1, 1) := by decide +kernel
theorem dX2_falls_5 : decode cX2_falls 5 = .ok (.baload, 1) := by decide +kernel
theorem dX2_falls_6 : decode cX2_falls 6 = .ok (.ifCond .ne 25, 3) := by decide +kernel
theorem dX2_falls_9 : decode cX2_falls 9 = .ok (.aload_n 0, 1) := by decide +kernel
theorem dX2_falls_10 : decode cX2_falls 10 = .ok (.getfield 19, 3) := by decide +kernel
theorem dX2_falls_13 : decode cX2_falls 13 = .ok (.iload_n 1, 1) := by decide +kernel
theorem dX2_falls_14 : decode cX2_falls 14 = .ok (.iaload, 1) := by decide +kernel
theorem dX2_falls_15 : decode cX2_falls 15 = .ok (.ifCond .ne 16, 3) := by decide +kernel
theorem dX2_falls_18 : decode cX2_falls 18 = .ok (.aload_n 0, 1) := by decide +kernel
theorem dX2_falls_19 : decode cX2_falls 19 = .ok (.getfield 9, 3) := by decide +kernel
theorem dX2_falls_22 : decode cX2_falls 22 = .ok (.iload_n 1, 1) := by decide +kernel
theorem dX2_falls_23 : decode cX2_falls 23 = .ok (.iaload, 1) := by decide +kernel
theorem dX2_falls_24 : decode cX2_falls 24 = .ok (.ifCond .le 7, 3) := by decide +kernel
theorem dX2_falls_27 : decode cX2_falls 27 = .ok (.iconst 1, 1) := by decide +kernel
theorem dX2_falls_28 : decode cX2_falls 28 = .ok (.goto 4, 3) := by decide +kernel
theorem dX2_falls_31 : decode cX2_falls 31 = .ok (.iconst 0, 1) := by decide +kernel
theorem dX2_falls_32 : decode cX2_falls 32 = .ok (.ireturn, 1) := by decide +kernel
theorem dX2_handle_0 : decode cX2_handle 0 = .ok (.iconst 0, 1) := by decide +kernel
theorem dX2_handle_1 : decode cX2_handle 1 = .ok (.istore_n 2, 1) := by decide +kernel
theorem dX2_handle_2 : decode cX2_handle 2 = .ok (.iload_n 2, 1) := by decide +kernel
theorem dX2_handle_3 : decode cX2_handle 3 = .ok (.aload_n 0, 1) := by decide +kernel
theorem dX2_handle_4 : decode cX2_handle 4 = .ok (.getfield 22, 3) := by decide +kernel
theorem dX2_handle_7 : decode cX2_handle 7 = .ok (.invokevirtual 50, 3) := by decide +kernel
theorem dX2_handle_10 : decode cX2_handle 10 = .ok (.if_icmp .ge 68, 3) := by decide +kernel
theorem dX2_handle_13 : decode cX2_handle 13 = .ok (.iload_n 1, 1) := by decide +kernel
theorem dX2_handle_14 : decode cX2_handle 14 = .ok (.iload_n 2, 1) := by decide +kernel
theorem dX2_handle_15 : decode cX2_handle 15 = .ok (.invokestatic 46, 3) := by decide +kernel
theorem dX2_handle_18 : decode cX2_handle 18 = .ok (.tableswitch 54 1 3 #[26, 34, 44], 26) := by decide +kernel
theorem dX2_handle_44 : decode cX2_handle 44 = .ok (.aload_n 0, 1) := by decide +kernel
theorem dX2_handle_45 : decode cX2_handle 45 = .ok (.iload_n 2, 1) := by decide +kernel
theorem dX2_handle_46 : decode cX2_handle 46 = .ok (.invokevirtual 54, 3) := by decide +kernel
theorem dX2_handle_49 : decode cX2_handle 49 = .ok (.goto 23, 3) := by decide +kernel
theorem dX2_handle_52 : decode cX2_handle 52 = .ok (.aload_n 0, 1) := by decide +kernel
theorem dX2_handle_53 : decode cX2_handle 53 = .ok (.getfield 15, 3) := by decide +kernel
theorem dX2_handle_56 : decode cX2_handle 56 = .ok (.iload_n 2, 1) := by decide +kernel
theorem dX2_handle_57 : decode cX2_handle 57 = .ok (.iconst 1, 1) := by decide +kernel
theorem dX2_handle_58 : decode cX2_handle 58 = .ok (.bastore, 1) := by decide +kernel
theorem dX2_handle_59 : decode cX2_handle 59 = .ok (.goto 13, 3) := by decide +kernel
theorem dX2_handle_62 : decode cX2_handle 62 = .ok (.aload_n 0, 1) := by decide +kernel
theorem dX2_handle_63 : decode cX2_handle 63 = .ok (.getfield 15, 3) := by decide +kernel
theorem dX2_handle_66 : decode cX2_handle 66 = .ok (.iload_n 2, 1) := by decide +kernel
theorem dX2_handle_67 : decode cX2_handle 67 = .ok (.iconst 0, 1) := by decide +kernel
theorem dX2_handle_68 : decode cX2_handle 68 = .ok (.bastore, 1) := by decide +kernel
theorem dX2_handle_69 : decode cX2_handle 69 = .ok (.goto 3, 3) := by decide +kernel
theorem dX2_handle_72 : decode cX2_handle 72 = .ok (.iinc 2 1, 3) := by decide +kernel
theorem dX2_handle_75 : decode cX2_handle 75 = .ok (.goto (-73), 3) := by decide +kernel
theorem dX2_handle_78 : decode cX2_handle 78 = .ok (.return_, 1) := by decide +kernel
theorem dX2_turn_0 : decode cX2_turn 0 = .ok (.aload_n 0, 1) := by decide +kernel
theorem dX2_turn_1 : decode cX2_turn 1 = .ok (.getfield 9, 3) := by decide +kernel
theorem dX2_turn_4 : decode cX2_turn 4 = .ok (.iload_n 1, 1) := by decide +kernel
theorem dX2_turn_5 : decode cX2_turn 5 = .ok (.aload_n 0, 1) := by decide +kernel
theorem dX2_turn_6 : decode cX2_turn 6 = .ok (.getfield 22, 3) := by decide +kernel
theorem dX2_turn_9 : decode cX2_turn 9 = .ok (.iload_n 1, 1) := by decide +kernel
theorem dX2_turn_10 : decode cX2_turn 10 = .ok (.invokevirtual 58, 3) := by decide +kernel
theorem dX2_turn_13 : decode cX2_turn 13 = .ok (.aload_n 0, 1) := by decide +kernel
theorem dX2_turn_14 : decode cX2_turn 14 = .ok (.getfield 9, 3) := by decide +kernel
theorem dX2_turn_17 : decode cX2_turn 17 = .ok (.iload_n 1, 1) := by decide +kernel
theorem dX2_turn_18 : decode cX2_turn 18 = .ok (.iaload, 1) := by decide +kernel
theorem dX2_turn_19 : decode cX2_turn 19 = .ok (.isub, 1) := by decide +kernel
theorem dX2_turn_20 : decode cX2_turn 20 = .ok (.iastore, 1) := by decide +kernel
theorem dX2_turn_21 : decode cX2_turn 21 = .ok (.aload_n 0, 1) := by decide +kernel
theorem dX2_turn_22 : decode cX2_turn 22 = .ok (.getfield 22, 3) := by decide +kernel
theorem dX2_turn_25 : decode cX2_turn 25 = .ok (.iload_n 1, 1) := by decide +kernel
theorem dX2_turn_26 : decode cX2_turn 26 = .ok (.invokevirtual 36, 3) := by decide +kernel
theorem dX2_turn_29 : decode cX2_turn 29 = .ok (.iconst 4, 1) := by decide +kernel
theorem dX2_turn_30 : decode cX2_turn 30 = .ok (.if_icmp .ne 17, 3) := by decide +kernel
theorem dX2_turn_33 : decode cX2_turn 33 = .ok (.aload_n 0, 1) := by decide +kernel
theorem dX2_turn_34 : decode cX2_turn 34 = .ok (.getfield 19, 3) := by decide +kernel
theorem dX2_turn_37 : decode cX2_turn 37 = .ok (.iload_n 1, 1) := by decide +kernel
theorem dX2_turn_38 : decode cX2_turn 38 = .ok (.aload_n 0, 1) := by decide +kernel
theorem dX2_turn_39 : decode cX2_turn 39 = .ok (.getfield 22, 3) := by decide +kernel
theorem dX2_turn_42 : decode cX2_turn 42 = .ok (.iload_n 1, 1) := by decide +kernel
theorem dX2_turn_43 : decode cX2_turn 43 = .ok (.invokevirtual 43, 3) := by decide +kernel
theorem dX2_turn_46 : decode cX2_turn 46 = .ok (.iastore, 1) := by decide +kernel
theorem dX2_turn_47 : decode cX2_turn 47 = .ok (.return_, 1) := by decide +kernel
theorem dX2_untilEvent_0 : decode cX2_untilEvent 0 = .ok (.iconst 0, 1) := by decide +kernel
theorem dX2_untilEvent_1 : decode cX2_untilEvent 1 = .ok (.istore_n 1, 1) := by decide +kernel
theorem dX2_untilEvent_2 : decode cX2_untilEvent 2 = .ok (.iconst 0, 1) := by decide +kernel
theorem dX2_untilEvent_3 : decode cX2_untilEvent 3 = .ok (.istore_n 2, 1) := by decide +kernel
theorem dX2_untilEvent_4 : decode cX2_untilEvent 4 = .ok (.iload_n 2, 1) := by decide +kernel
theorem dX2_untilEvent_5 : decode cX2_untilEvent 5 = .ok (.aload_n 0, 1) := by decide +kernel
theorem dX2_untilEvent_6 : decode cX2_untilEvent 6 = .ok (.getfield 22, 3) := by decide +kernel
theorem dX2_untilEvent_9 : decode cX2_untilEvent 9 = .ok (.invokevirtual 50, 3) := by decide +kernel
theorem dX2_untilEvent_12 : decode cX2_untilEvent 12 = .ok (.if_icmp .ge 55, 3) := by decide +kernel
theorem dX2_untilEvent_15 : decode cX2_untilEvent 15 = .ok (.aload_n 0, 1) := by decide +kernel
theorem dX2_untilEvent_16 : decode cX2_untilEvent 16 = .ok (.getfield 15, 3) := by decide +kernel
theorem dX2_untilEvent_19 : decode cX2_untilEvent 19 = .ok (.iload_n 2, 1) := by decide +kernel
theorem dX2_untilEvent_20 : decode cX2_untilEvent 20 = .ok (.baload, 1) := by decide +kernel
theorem dX2_untilEvent_21 : decode cX2_untilEvent 21 = .ok (.ifCond .ne 40, 3) := by decide +kernel
theorem dX2_untilEvent_24 : decode cX2_untilEvent 24 = .ok (.aload_n 0, 1) := by decide +kernel
theorem dX2_untilEvent_25 : decode cX2_untilEvent 25 = .ok (.getfield 9, 3) := by decide +kernel
theorem dX2_untilEvent_28 : decode cX2_untilEvent 28 = .ok (.iload_n 2, 1) := by decide +kernel
theorem dX2_untilEvent_29 : decode cX2_untilEvent 29 = .ok (.iaload, 1) := by decide +kernel
theorem dX2_untilEvent_30 : decode cX2_untilEvent 30 = .ok (.ifCond .le 31, 3) := by decide +kernel
theorem dX2_untilEvent_33 : decode cX2_untilEvent 33 = .ok (.aload_n 0, 1) := by decide +kernel
theorem dX2_untilEvent_34 : decode cX2_untilEvent 34 = .ok (.getfield 19, 3) := by decide +kernel
theorem dX2_untilEvent_37 : decode cX2_untilEvent 37 = .ok (.iload_n 2, 1) := by decide +kernel
theorem dX2_untilEvent_38 : decode cX2_untilEvent 38 = .ok (.iaload, 1) := by decide +kernel
theorem dX2_untilEvent_39 : decode cX2_untilEvent 39 = .ok (.aload_n 0, 1) := by decide +kernel
theorem dX2_untilEvent_40 : decode cX2_untilEvent 40 = .ok (.getfield 9, 3) := by decide +kernel
theorem dX2_untilEvent_43 : decode cX2_untilEvent 43 = .ok (.iload_n 2, 1) := by decide +kernel
theorem dX2_untilEvent_44 : decode cX2_untilEvent 44 = .ok (.iaload, 1) := by decide +kernel
theorem dX2_untilEvent_45 : decode cX2_untilEvent 45 = .ok (.iadd, 1) := by decide +kernel
theorem dX2_untilEvent_46 : decode cX2_untilEvent 46 = .ok (.istore_n 3, 1) := by decide +kernel
theorem dX2_untilEvent_47 : decode cX2_untilEvent 47 = .ok (.iload_n 1, 1) := by decide +kernel
theorem dX2_untilEvent_48 : decode cX2_untilEvent 48 = .ok (.ifCond .ne 7, 3) := by decide +kernel
theorem dX2_untilEvent_51 : decode cX2_untilEvent 51 = .ok (.iload_n 3, 1) := by decide +kernel
theorem dX2_untilEvent_52 : decode cX2_untilEvent 52 = .ok (.goto 8, 3) := by decide +kernel
theorem dX2_untilEvent_55 : decode cX2_untilEvent 55 = .ok (.iload_n 1, 1) := by decide +kernel
theorem dX2_untilEvent_56 : decode cX2_untilEvent 56 = .ok (.iload_n 3, 1) := by decide +kernel
theorem dX2_untilEvent_57 : decode cX2_untilEvent 57 = .ok (.invokestatic 61, 3) := by decide +kernel
theorem dX2_untilEvent_60 : decode cX2_untilEvent 60 = .ok (.istore_n 1, 1) := by decide +kernel
theorem dX2_untilEvent_61 : decode cX2_untilEvent 61 = .ok (.iinc 2 1, 3) := by decide +kernel
theorem dX2_untilEvent_64 : decode cX2_untilEvent 64 = .ok (.goto (-60), 3) := by decide +kernel
theorem dX2_untilEvent_67 : decode cX2_untilEvent 67 = .ok (.iload_n 1, 1) := by decide +kernel
theorem dX2_untilEvent_68 : decode cX2_untilEvent 68 = .ok (.ireturn, 1) := by decide +kernel
theorem dX2_letPass_0 : decode cX2_letPass 0 = .ok (.iconst 0, 1) := by decide +kernel
theorem dX2_letPass_1 : decode cX2_letPass 1 = .ok (.istore_n 2, 1) := by decide +kernel
theorem dX2_letPass_2 : decode cX2_letPass 2 = .ok (.iload_n 2, 1) := by decide +kernel
theorem dX2_letPass_3 : decode cX2_letPass 3 = .ok (.aload_n 0, 1) := by decide +kernel
theorem dX2_letPass_4 : decode cX2_letPass 4 = .ok (.getfield 22, 3) := by decide +kernel
theorem dX2_letPass_7 : decode cX2_letPass 7 = .ok (.invokevirtual 50, 3) := by decide +kernel
theorem dX2_letPass_10 : decode cX2_letPass 10 = .ok (.if_icmp .ge 59, 3) := by decide +kernel
theorem dX2_letPass_13 : decode cX2_letPass 13 = .ok (.aload_n 0, 1) := by decide +kernel
theorem dX2_letPass_14 : decode cX2_letPass 14 = .ok (.getfield 15, 3) := by decide +kernel
theorem dX2_letPass_17 : decode cX2_letPass 17 = .ok (.iload_n 2, 1) := by decide +kernel
theorem dX2_letPass_18 : decode cX2_letPass 18 = .ok (.baload, 1) := by decide +kernel
theorem dX2_letPass_19 : decode cX2_letPass 19 = .ok (.ifCond .ne 44, 3) := by decide +kernel
theorem dX2_letPass_22 : decode cX2_letPass 22 = .ok (.aload_n 0, 1) := by decide +kernel
theorem dX2_letPass_23 : decode cX2_letPass 23 = .ok (.getfield 19, 3) := by decide +kernel
theorem dX2_letPass_26 : decode cX2_letPass 26 = .ok (.iload_n 2, 1) := by decide +kernel
theorem dX2_letPass_27 : decode cX2_letPass 27 = .ok (.iaload, 1) := by decide +kernel
theorem dX2_letPass_28 : decode cX2_letPass 28 = .ok (.iload_n 1, 1) := by decide +kernel
theorem dX2_letPass_29 : decode cX2_letPass 29 = .ok (.invokestatic 61, 3) := by decide +kernel
theorem dX2_letPass_32 : decode cX2_letPass 32 = .ok (.istore_n 3, 1) := by decide +kernel
theorem dX2_letPass_33 : decode cX2_letPass 33 = .ok (.aload_n 0, 1) := by decide +kernel
theorem dX2_letPass_34 : decode cX2_letPass 34 = .ok (.getfield 19, 3) := by decide +kernel
theorem dX2_letPass_37 : decode cX2_letPass 37 = .ok (.iload_n 2, 1) := by decide +kernel
theorem dX2_letPass_38 : decode cX2_letPass 38 = .ok (.dup2, 1) := by decide +kernel
theorem dX2_letPass_39 : decode cX2_letPass 39 = .ok (.iaload, 1) := by decide +kernel
theorem dX2_letPass_40 : decode cX2_letPass 40 = .ok (.iload_n 3, 1) := by decide +kernel
theorem dX2_letPass_41 : decode cX2_letPass 41 = .ok (.isub, 1) := by decide +kernel
theorem dX2_letPass_42 : decode cX2_letPass 42 = .ok (.iastore, 1) := by decide +kernel
theorem dX2_letPass_43 : decode cX2_letPass 43 = .ok (.aload_n 0, 1) := by decide +kernel
theorem dX2_letPass_44 : decode cX2_letPass 44 = .ok (.getfield 9, 3) := by decide +kernel
theorem dX2_letPass_47 : decode cX2_letPass 47 = .ok (.iload_n 2, 1) := by decide +kernel
theorem dX2_letPass_48 : decode cX2_letPass 48 = .ok (.iconst 0, 1) := by decide +kernel
theorem dX2_letPass_49 : decode cX2_letPass 49 = .ok (.aload_n 0, 1) := by decide +kernel
theorem dX2_letPass_50 : decode cX2_letPass 50 = .ok (.getfield 9, 3) := by decide +kernel
theorem dX2_letPass_53 : decode cX2_letPass 53 = .ok (.iload_n 2, 1) := by decide +kernel
theorem dX2_letPass_54 : decode cX2_letPass 54 = .ok (.iaload, 1) := by decide +kernel
theorem dX2_letPass_55 : decode cX2_letPass 55 = .ok (.iload_n 1, 1) := by decide +kernel
theorem dX2_letPass_56 : decode cX2_letPass 56 = .ok (.iload_n 3, 1) := by decide +kernel
theorem dX2_letPass_57 : decode cX2_letPass 57 = .ok (.isub, 1) := by decide +kernel
theorem dX2_letPass_58 : decode cX2_letPass 58 = .ok (.isub, 1) := by decide +kernel
theorem dX2_letPass_59 : decode cX2_letPass 59 = .ok (.invokestatic 66, 3) := by decide +kernel
theorem dX2_letPass_62 : decode cX2_letPass 62 = .ok (.iastore, 1) := by decide +kernel
theorem dX2_letPass_63 : decode cX2_letPass 63 = .ok (.iinc 2 1, 3) := by decide +kernel
theorem dX2_letPass_66 : decode cX2_letPass 66 = .ok (.goto (-64), 3) := by decide +kernel
theorem dX2_letPass_69 : decode cX2_letPass 69 = .ok (.return_, 1) := by decide +kernel
theorem dX3_init_0 : decode cX3_init 0 = .ok (.aload_n 0, 1) := by decide +kernel
theorem dX3_init_1 : decode cX3_init 1 = .ok (.invokespecial 1, 3) := by decide +kernel
theorem dX3_init_4 : decode cX3_init 4 = .ok (.aload_n 0, 1) := by decide +kernel
theorem dX3_init_5 : decode cX3_init 5 = .ok (.iconst 4, 1) := by decide +kernel
theorem dX3_init_6 : decode cX3_init 6 = .ok (.newarray .int, 2) := by decide +kernel
theorem dX3_init_8 : decode cX3_init 8 = .ok (.putfield 9, 3) := by decide +kernel
theorem dX3_init_11 : decode cX3_init 11 = .ok (.aload_n 0, 1) := by decide +kernel
theorem dX3_init_12 : decode cX3_init 12 = .ok (.iconst 4, 1) := by decide +kernel
theorem dX3_init_13 : decode cX3_init 13 = .ok (.newarray .int, 2) := by decide +kernel
theorem dX3_init_15 : decode cX3_init 15 = .ok (.putfield 13, 3) := by decide +kernel
theorem dX3_init_18 : decode cX3_init 18 = .ok (.aload_n 0, 1) := by decide +kernel
theorem dX3_init_19 : decode cX3_init 19 = .ok (.iconst 4, 1) := by decide +kernel
theorem dX3_init_20 : decode cX3_init 20 = .ok (.newarray .int, 2) := by decide +kernel
theorem dX3_init_22 : decode cX3_init 22 = .ok (.putfield 16, 3) := by decide +kernel
theorem dX3_init_25 : decode cX3_init 25 = .ok (.return_, 1) := by decide +kernel
theorem dX3_canHold_0 : decode cX3_canHold 0 = .ok (.iload_n 0, 1) := by decide +kernel
theorem dX3_canHold_1 : decode cX3_canHold 1 = .ok (.iconst 1, 1) := by decide +kernel
theorem dX3_canHold_2 : decode cX3_canHold 2 = .ok (.if_icmp .lt 13, 3) := by decide +kernel
theorem dX3_canHold_5 : decode cX3_canHold 5 = .ok (.iload_n 0, 1) := by decide +kernel
theorem dX3_canHold_6 : decode cX3_canHold 6 = .ok (.bipush 30, 2) := by decide +kernel
theorem dX3_canHold_8 : decode cX3_canHold 8 = .ok (.if_icmp .gt 7, 3) := by decide +kernel
theorem dX3_canHold_11 : decode cX3_canHold 11 = .ok (.iconst 1, 1) := by decide +kernel
theorem dX3_canHold_12 : decode cX3_canHold 12 = .ok (.goto 4, 3) := by decide +kernel
theorem dX3_canHold_15 : decode cX3_canHold 15 = .ok (.iconst 0, 1) := by decide +kernel
theorem dX3_canHold_16 : decode cX3_canHold 16 = .ok (.ireturn, 1) := by decide +kernel
theorem dX3_suits_0 : decode cX3_suits 0 = .ok (.iload_n 1, 1) := by decide +kernel
theorem dX3_suits_1 : decode cX3_suits 1 = .ok (.iconst 1, 1) := by decide +kernel
theorem dX3_suits_2 : decode cX3_suits 2 = .ok (.if_icmp .ne 9, 3) := by decide +kernel
theorem dX3_suits_5 : decode cX3_suits 5 = .ok (.aload_n 0, 1) := by decide +kernel
theorem dX3_suits_6 : decode cX3_suits 6 = .ok (.iload_n 2, 1) := by decide +kernel
theorem dX3_suits_7 : decode cX3_suits 7 = .ok (.invokevirtual 19, 3) := by decide +kernel
theorem dX3_suits_10 : decode cX3_suits 10 = .ok (.ireturn, 1) := by decide +kernel
theorem dX3_suits_11 : decode cX3_suits 11 = .ok (.iload_n 1, 1) := by decide +kernel
theorem dX3_suits_12 : decode cX3_suits 12 = .ok (.iconst 4, 1) := by decide +kernel
theorem dX3_suits_13 : decode cX3_suits 13 = .ok (.if_icmp .ne 14, 3) := by decide +kernel
theorem dX3_suits_16 : decode cX3_suits 16 = .ok (.iload_n 2, 1) := by decide +kernel
theorem dX3_suits_17 : decode cX3_suits 17 = .ok (.iconst 1, 1) := by decide +kernel
theorem dX3_suits_18 : decode cX3_suits 18 = .ok (.if_icmp .lt 13, 3) := by decide +kernel
theorem dX3_suits_21 : decode cX3_suits 21 = .ok (.iload_n 2, 1) := by decide +kernel
theorem dX3_suits_22 : decode cX3_suits 22 = .ok (.bipush 9, 2) := by decide +kernel
theorem dX3_suits_24 : decode cX3_suits 24 = .ok (.if_icmp .gt 7, 3) := by decide +kernel
theorem dX3_suits_27 : decode cX3_suits 27 = .ok (.iconst 1, 1) := by decide +kernel
theorem dX3_suits_28 : decode cX3_suits 28 = .ok (.goto 4, 3) := by decide +kernel
theorem dX3_suits_31 : decode cX3_suits 31 = .ok (.iconst 0, 1) := by decide +kernel
theorem dX3_suits_32 : decode cX3_suits 32 = .ok (.ireturn, 1) := by decide +kernel
theorem dX3_add_0 : decode cX3_add 0 = .ok (.aload_n 0, 1) := by decide +kernel
theorem dX3_add_1 : decode cX3_add 1 = .ok (.getfield 23, 3) := by decide +kernel
theorem dX3_add_4 : decode cX3_add 4 = .ok (.istore 4, 2) := by decide +kernel
theorem dX3_add_6 : decode cX3_add 6 = .ok (.aload_n 0, 1) := by decide +kernel
theorem dX3_add_7 : decode cX3_add 7 = .ok (.getfield 9, 3) := by decide +kernel
theorem dX3_add_10 : decode cX3_add 10 = .ok (.iload 4, 2) := by decide +kernel
theorem dX3_add_12 : decode cX3_add 12 = .ok (.iload_n 1, 1) := by decide +kernel
theorem dX3_add_13 : decode cX3_add 13 = .ok (.iastore, 1) := by decide +kernel
theorem dX3_add_14 : decode cX3_add 14 = .ok (.aload_n 0, 1) := by decide +kernel
theorem dX3_add_15 : decode cX3_add 15 = .ok (.getfield 13, 3) := by decide +kernel
theorem dX3_add_18 : decode cX3_add 18 = .ok (.iload 4, 2) := by decide +kernel
theorem dX3_add_20 : decode cX3_add 20 = .ok (.iload_n 2, 1) := by decide +kernel
theorem dX3_add_21 : decode cX3_add 21 = .ok (.iastore, 1) := by decide +kernel
theorem dX3_add_22 : decode cX3_add 22 = .ok (.aload_n 0, 1) := by decide +kernel
theorem dX3_add_23 : decode cX3_add 23 = .ok (.getfield 16, 3) := by decide +kernel
theorem dX3_add_26 : decode cX3_add 26 = .ok (.iload 4, 2) := by decide +kernel
theorem dX3_add_28 : decode cX3_add 28 = .ok (.iload_n 1, 1) := by decide +kernel
theorem dX3_add_29 : decode cX3_add 29 = .ok (.iconst 1, 1) := by decide +kernel
theorem dX3_add_30 : decode cX3_add 30 = .ok (.if_icmp .eq 8, 3) := by decide +kernel
theorem dX3_add_33 : decode cX3_add 33 = .ok (.iload_n 1, 1) := by decide +kernel
theorem dX3_add_34 : decode cX3_add 34 = .ok (.iconst 4, 1) := by decide +kernel
theorem dX3_add_35 : decode cX3_add 35 = .ok (.if_icmp .ne 7, 3) := by decide +kernel
theorem dX3_add_38 : decode cX3_add 38 = .ok (.iload_n 3, 1) := by decide +kernel
theorem dX3_add_39 : decode cX3_add 39 = .ok (.goto 4, 3) := by decide +kernel
theorem dX3_add_42 : decode cX3_add 42 = .ok (.iconst (-1), 1) := by decide +kernel
theorem dX3_add_43 : decode cX3_add 43 = .ok (.iastore, 1) := by decide +kernel
theorem dX3_add_44 : decode cX3_add 44 = .ok (.aload_n 0, 1) := by decide +kernel
theorem dX3_add_45 : decode cX3_add 45 = .ok (.dup, 1) := by decide +kernel
theorem dX3_add_46 : decode cX3_add 46 = .ok (.getfield 23, 3) := by decide +kernel
theorem dX3_add_49 : decode cX3_add 49 = .ok (.iconst 1, 1) := by decide +kernel
theorem dX3_add_50 : decode cX3_add 50 = .ok (.iadd, 1) := by decide +kernel
theorem dX3_add_51 : decode cX3_add 51 = .ok (.putfield 23, 3) := by decide +kernel
theorem dX3_add_54 : decode cX3_add 54 = .ok (.iload 4, 2) := by decide +kernel
theorem dX3_add_56 : decode cX3_add 56 = .ok (.ireturn, 1) := by decide +kernel
theorem dX3_refill_0 : decode cX3_refill 0 = .ok (.aload_n 0, 1) := by decide +kernel
theorem dX3_refill_1 : decode cX3_refill 1 = .ok (.getfield 13, 3) := by decide +kernel
theorem dX3_refill_4 : decode cX3_refill 4 = .ok (.iload_n 1, 1) := by decide +kernel
theorem dX3_refill_5 : decode cX3_refill 5 = .ok (.iload_n 2, 1) := by decide +kernel
theorem dX3_refill_6 : decode cX3_refill 6 = .ok (.iastore, 1) := by decide +kernel
theorem dX3_refill_7 : decode cX3_refill 7 = .ok (.return_, 1) := by decide +kernel
theorem dX3_removeAll_0 : decode cX3_removeAll 0 = .ok (.aload_n 0, 1) := by decide +kernel
theorem dX3_removeAll_1 : decode cX3_removeAll 1 = .ok (.iconst 0, 1) := by decide +kernel
theorem dX3_removeAll_2 : decode cX3_removeAll 2 = .ok (.putfield 23, 3) := by decide +kernel
theorem dX3_removeAll_5 : decode cX3_removeAll 5 = .ok (.return_, 1) := by decide +kernel
theorem dX3_isFull_0 : decode cX3_isFull 0 = .ok (.aload_n 0, 1) := by decide +kernel
theorem dX3_isFull_1 : decode cX3_isFull 1 = .ok (.getfield 23, 3) := by decide +kernel
theorem dX3_isFull_4 : decode cX3_isFull 4 = .ok (.iconst 4, 1) := by decide +kernel
theorem dX3_isFull_5 : decode cX3_isFull 5 = .ok (.if_icmp .lt 7, 3) := by decide +kernel
theorem dX3_isFull_8 : decode cX3_isFull 8 = .ok (.iconst 1, 1) := by decide +kernel
theorem dX3_isFull_9 : decode cX3_isFull 9 = .ok (.goto 4, 3) := by decide +kernel
theorem dX3_isFull_12 : decode cX3_isFull 12 = .ok (.iconst 0, 1) := by decide +kernel
theorem dX3_isFull_13 : decode cX3_isFull 13 = .ok (.ireturn, 1) := by decide +kernel
theorem dX3_has_0 : decode cX3_has 0 = .ok (.iload_n 1, 1) := by decide +kernel
theorem dX3_has_1 : decode cX3_has 1 = .ok (.ifCond .lt 15, 3) := by decide +kernel
theorem dX3_has_4 : decode cX3_has 4 = .ok (.iload_n 1, 1) := by decide +kernel
theorem dX3_has_5 : decode cX3_has 5 = .ok (.aload_n 0, 1) := by decide +kernel
theorem dX3_has_6 : decode cX3_has 6 = .ok (.getfield 23, 3) := by decide +kernel
theorem dX3_has_9 : decode cX3_has 9 = .ok (.if_icmp .ge 7, 3) := by decide +kernel
theorem dX3_has_12 : decode cX3_has 12 = .ok (.iconst 1, 1) := by decide +kernel
theorem dX3_has_13 : decode cX3_has 13 = .ok (.goto 4, 3) := by decide +kernel
theorem dX3_has_16 : decode cX3_has 16 = .ok (.iconst 0, 1) := by decide +kernel
theorem dX3_has_17 : decode cX3_has 17 = .ok (.ireturn, 1) := by decide +kernel
theorem dX3_count_0 : decode cX3_count 0 = .ok (.aload_n 0, 1) := by decide +kernel
theorem dX3_count_1 : decode cX3_count 1 = .ok (.getfield 23, 3) := by decide +kernel
theorem dX3_count_4 : decode cX3_count 4 = .ok (.ireturn, 1) := by decide +kernel
theorem dX3_kind_0 : decode cX3_kind 0 = .ok (.aload_n 0, 1) := by decide +kernel
theorem dX3_kind_1 : decode cX3_kind 1 = .ok (.getfield 9, 3) := by decide +kernel
theorem dX3_kind_4 : decode cX3_kind 4 = .ok (.iload_n 1, 1) := by decide +kernel
theorem dX3_kind_5 : decode cX3_kind 5 = .ok (.iaload, 1) := by decide +kernel
theorem dX3_kind_6 : decode cX3_kind 6 = .ok (.ireturn, 1) := by decide +kernel
theorem dX3_grains_0 : decode cX3_grains 0 = .ok (.aload_n 0, 1) := by decide +kernel
theorem dX3_grains_1 : decode cX3_grains 1 = .ok (.getfield 13, 3) := by decide +kernel
theorem dX3_grains_4 : decode cX3_grains 4 = .ok (.iload_n 1, 1) := by decide +kernel
theorem dX3_grains_5 : decode cX3_grains 5 = .ok (.iaload, 1) := by decide +kernel
theorem dX3_grains_6 : decode cX3_grains 6 = .ok (.ireturn, 1) := by decide +kernel
theorem dX3_with_0 : decode cX3_with 0 = .ok (.aload_n 0, 1) := by decide +kernel
theorem dX3_with_1 : decode cX3_with 1 = .ok (.getfield 16, 3) := by decide +kernel
theorem dX3_with_4 : decode cX3_with 4 = .ok (.iload_n 1, 1) := by decide +kernel
theorem dX3_with_5 : decode cX3_with 5 = .ok (.iaload, 1) := by decide +kernel
theorem dX3_with_6 : decode cX3_with 6 = .ok (.ireturn, 1) := by decide +kernel
theorem dX4_isNone_0 : decode cX4_isNone 0 = .ok (.iload_n 0, 1) := by decide +kernel
theorem dX4_isNone_1 : decode cX4_isNone 1 = .ok (.ifCond .lt 10, 3) := by decide +kernel
theorem dX4_isNone_4 : decode cX4_isNone 4 = .ok (.iload_n 0, 1) := by decide +kernel
theorem dX4_isNone_5 : decode cX4_isNone 5 = .ok (.sipush 255, 3) := by decide +kernel
theorem dX4_isNone_8 : decode cX4_isNone 8 = .ok (.if_icmp .le 7, 3) := by decide +kernel
theorem dX4_isNone_11 : decode cX4_isNone 11 = .ok (.iconst 1, 1) := by decide +kernel
theorem dX4_isNone_12 : decode cX4_isNone 12 = .ok (.goto 4, 3) := by decide +kernel
theorem dX4_isNone_15 : decode cX4_isNone 15 = .ok (.iconst 0, 1) := by decide +kernel
theorem dX4_isNone_16 : decode cX4_isNone 16 = .ok (.ireturn, 1) := by decide +kernel
theorem dX4_digit_0 : decode cX4_digit 0 = .ok (.iload_n 0, 1) := by decide +kernel
theorem dX4_digit_1 : decode cX4_digit 1 = .ok (.iconst 2, 1) := by decide +kernel
theorem dX4_digit_2 : decode cX4_digit 2 = .ok (.iload_n 1, 1) := by decide +kernel
theorem dX4_digit_3 : decode cX4_digit 3 = .ok (.imul, 1) := by decide +kernel
theorem dX4_digit_4 : decode cX4_digit 4 = .ok (.ishr, 1) := by decide +kernel
theorem dX4_digit_5 : decode cX4_digit 5 = .ok (.iconst 3, 1) := by decide +kernel
theorem dX4_digit_6 : decode cX4_digit 6 = .ok (.iand, 1) := by decide +kernel
theorem dX4_digit_7 : decode cX4_digit 7 = .ok (.ireturn, 1) := by decide +kernel
theorem dX4_countOf_0 : decode cX4_countOf 0 = .ok (.iload_n 0, 1) := by decide +kernel
theorem dX4_countOf_1 : decode cX4_countOf 1 = .ok (.iload_n 0, 1) := by decide +kernel
theorem dX4_countOf_2 : decode cX4_countOf 2 = .ok (.iconst 1, 1) := by decide +kernel
theorem dX4_countOf_3 : decode cX4_countOf 3 = .ok (.ishr, 1) := by decide +kernel
theorem dX4_countOf_4 : decode cX4_countOf 4 = .ok (.ior, 1) := by decide +kernel
theorem dX4_countOf_5 : decode cX4_countOf 5 = .ok (.bipush 85, 2) := by decide +kernel
theorem dX4_countOf_7 : decode cX4_countOf 7 = .ok (.iand, 1) := by decide +kernel
theorem dX4_countOf_8 : decode cX4_countOf 8 = .ok (.invokestatic 9, 3) := by decide +kernel
theorem dX4_countOf_11 : decode cX4_countOf 11 = .ok (.ireturn, 1) := by decide +kernel
theorem dX5_init_0 : decode cX5_init 0 = .ok (.aload_n 0, 1) := by decide +kernel
theorem dX5_init_1 : decode cX5_init 1 = .ok (.invokespecial 3, 3) := by decide +kernel
theorem dX5_init_4 : decode cX5_init 4 = .ok (.aload_n 0, 1) := by decide +kernel
theorem dX5_init_5 : decode cX5_init 5 = .ok (.sipush 600, 3) := by decide +kernel
theorem dX5_init_8 : decode cX5_init 8 = .ok (.newarray .long, 2) := by decide +kernel
theorem dX5_init_10 : decode cX5_init 10 = .ok (.putfield 11, 3) := by decide +kernel
theorem dX5_init_13 : decode cX5_init 13 = .ok (.aload_n 0, 1) := by decide +kernel
theorem dX5_init_14 : decode cX5_init 14 = .ok (.ldc 17, 2) := by decide +kernel
theorem dX5_init_16 : decode cX5_init 16 = .ok (.newarray .short, 2) := by decide +kernel
theorem dX5_init_18 : decode cX5_init 18 = .ok (.putfield 18, 3) := by decide +kernel
theorem dX5_init_21 : decode cX5_init 21 = .ok (.aload_n 0, 1) := by decide +kernel
theorem dX5_init_22 : decode cX5_init 22 = .ok (.bipush 60, 2) := by decide +kernel
theorem dX5_init_24 : decode cX5_init 24 = .ok (.newarray .int, 2) := by decide +kernel
theorem dX5_init_26 : decode cX5_init 26 = .ok (.putfield 22, 3) := by decide +kernel
theorem dX5_init_29 : decode cX5_init 29 = .ok (.aload_n 0, 1) := by decide +kernel
theorem dX5_init_30 : decode cX5_init 30 = .ok (.aload_n 1, 1) := by decide +kernel
theorem dX5_init_31 : decode cX5_init 31 = .ok (.putfield 26, 3) := by decide +kernel
theorem dX5_init_34 : decode cX5_init 34 = .ok (.return_, 1) := by decide +kernel
theorem dX5_forget_0 : decode cX5_forget 0 = .ok (.aload_n 0, 1) := by decide +kernel
theorem dX5_forget_1 : decode cX5_forget 1 = .ok (.iconst 0, 1) := by decide +kernel
theorem dX5_forget_2 : decode cX5_forget 2 = .ok (.putfield 30, 3) := by decide +kernel
theorem dX5_forget_5 : decode cX5_forget 5 = .ok (.aload_n 0, 1) := by decide +kernel
theorem dX5_forget_6 : decode cX5_forget 6 = .ok (.iconst 0, 1) := by decide +kernel
theorem dX5_forget_7 : decode cX5_forget 7 = .ok (.putfield 34, 3) := by decide +kernel
theorem dX5_forget_10 : decode cX5_forget 10 = .ok (.aload_n 0, 1) := by decide +kernel
theorem dX5_forget_11 : decode cX5_forget 11 = .ok (.iconst 0, 1) := by decide +kernel
theorem dX5_forget_12 : decode cX5_forget 12 = .ok (.putfield 38, 3) := by decide +kernel
theorem dX5_forget_15 : decode cX5_forget 15 = .ok (.return_, 1) := by decide +kernel
theorem dX5_isPure_0 : decode cX5_isPure 0 = .ok (.aload_n 0, 1) := by decide +kernel
theorem dX5_isPure_1 : decode cX5_isPure 1 = .ok (.invokevirtual 41, 3) := by decide +kernel
theorem dX5_isPure_4 : decode cX5_isPure 4 = .ok (.aload_n 0, 1) := by decide +kernel
theorem dX5_isPure_5 : decode cX5_isPure 5 = .ok (.iconst 0, 1) := by decide +kernel
theorem dX5_isPure_6 : decode cX5_isPure 6 = .ok (.iload_n 1, 1) := by decide +kernel
theorem dX5_isPure_7 : decode cX5_isPure 7 = .ok (.invokevirtual 44, 3) := by decide +kernel
theorem dX5_isPure_10 : decode cX5_isPure 10 = .ok (.ireturn, 1) := by decide +kernel
theorem dX5_pureUpTo_0 : decode cX5_pureUpTo 0 = .ok (.aload_n 0, 1) := by decide +kernel
theorem dX5_pureUpTo_1 : decode cX5_pureUpTo 1 = .ok (.invokevirtual 41, 3) := by decide +kernel
theorem dX5_pureUpTo_4 : decode cX5_pureUpTo 4 = .ok (.lconst 1, 1) := by decide +kernel
theorem dX5_pureUpTo_5 : decode cX5_pureUpTo 5 = .ok (.iload_n 1, 1) := by decide +kernel
theorem dX5_pureUpTo_6 : decode cX5_pureUpTo 6 = .ok (.iconst 1, 1) := by decide +kernel
theorem dX5_pureUpTo_7 : decode cX5_pureUpTo 7 = .ok (.iadd, 1) := by decide +kernel
theorem dX5_pureUpTo_8 : decode cX5_pureUpTo 8 = .ok (.lshl, 1) := by decide +kernel
theorem dX5_pureUpTo_9 : decode cX5_pureUpTo 9 = .ok (.lconst 1, 1) := by decide +kernel
theorem dX5_pureUpTo_10 : decode cX5_pureUpTo 10 = .ok (.lsub, 1) := by decide +kernel
theorem dX5_pureUpTo_11 : decode cX5_pureUpTo 11 = .ok (.lstore_n 2, 1) := by decide +kernel
theorem dX5_pureUpTo_12 : decode cX5_pureUpTo 12 = .ok (.aload_n 0, 1) := by decide +kernel
theorem dX5_pureUpTo_13 : decode cX5_pureUpTo 13 = .ok (.getfield 11, 3) := by decide +kernel
theorem dX5_pureUpTo_16 : decode cX5_pureUpTo 16 = .ok (.iconst 0, 1) := by decide +kernel
theorem dX5_pureUpTo_17 : decode cX5_pureUpTo 17 = .ok (.laload, 1) := by decide +kernel
theorem dX5_pureUpTo_18 : decode cX5_pureUpTo 18 = .ok (.lload_n 2, 1) := by decide +kernel
theorem dX5_pureUpTo_19 : decode cX5_pureUpTo 19 = .ok (.land, 1) := by decide +kernel
theorem dX5_pureUpTo_20 : decode cX5_pureUpTo 20 = .ok (.invokestatic 48, 3) := by decide +kernel
theorem dX5_pureUpTo_23 : decode cX5_pureUpTo 23 = .ok (.iconst 1, 1) := by decide +kernel
theorem dX5_pureUpTo_24 : decode cX5_pureUpTo 24 = .ok (.isub, 1) := by decide +kernel
theorem dX5_pureUpTo_25 : decode cX5_pureUpTo 25 = .ok (.ireturn, 1) := by decide +kernel
theorem dX5_soonestEnd_0 : decode cX5_soonestEnd 0 = .ok (.aload_n 0, 1) := by decide +kernel
theorem dX5_soonestEnd_1 : decode cX5_soonestEnd 1 = .ok (.invokevirtual 41, 3) := by decide +kernel
theorem dX5_soonestEnd_4 : decode cX5_soonestEnd 4 = .ok (.bipush (-7), 2) := by decide +kernel
theorem dX5_soonestEnd_6 : decode cX5_soonestEnd 6 = .ok (.istore_n 2, 1) := by decide +kernel
theorem dX5_soonestEnd_7 : decode cX5_soonestEnd 7 = .ok (.iconst 0, 1) := by decide +kernel
theorem dX5_soonestEnd_8 : decode cX5_soonestEnd 8 = .ok (.istore_n 3, 1) := by decide +kernel
theorem dX5_soonestEnd_9 : decode cX5_soonestEnd 9 = .ok (.iload_n 3, 1) := by decide +kernel
theorem dX5_soonestEnd_10 : decode cX5_soonestEnd 10 = .ok (.aload_n 0, 1) := by decide +kernel
theorem dX5_soonestEnd_11 : decode cX5_soonestEnd 11 = .ok (.getfield 26, 3) := by decide +kernel
theorem dX5_soonestEnd_14 : decode cX5_soonestEnd 14 = .ok (.invokevirtual 54, 3) := by decide +kernel
theorem dX5_soonestEnd_17 : decode cX5_soonestEnd 17 = .ok (.if_icmp .ge 45, 3) := by decide +kernel
theorem dX5_soonestEnd_20 : decode cX5_soonestEnd 20 = .ok (.aload_n 0, 1) := by decide +kernel
theorem dX5_soonestEnd_21 : decode cX5_soonestEnd 21 = .ok (.getfield 26, 3) := by decide +kernel
theorem dX5_soonestEnd_24 : decode cX5_soonestEnd 24 = .ok (.iload_n 3, 1) := by decide +kernel
theorem dX5_soonestEnd_25 : decode cX5_soonestEnd 25 = .ok (.invokevirtual 58, 3) := by decide +kernel
theorem dX5_soonestEnd_28 : decode cX5_soonestEnd 28 = .ok (.iload_n 1, 1) := by decide +kernel
theorem dX5_soonestEnd_29 : decode cX5_soonestEnd 29 = .ok (.iadd, 1) := by decide +kernel
theorem dX5_soonestEnd_30 : decode cX5_soonestEnd 30 = .ok (.istore 4, 2) := by decide +kernel
theorem dX5_soonestEnd_32 : decode cX5_soonestEnd 32 = .ok (.aload_n 0, 1) := by decide +kernel
theorem dX5_soonestEnd_33 : decode cX5_soonestEnd 33 = .ok (.iload_n 3, 1) := by decide +kernel
theorem dX5_soonestEnd_34 : decode cX5_soonestEnd 34 = .ok (.iload_n 1, 1) := by decide +kernel
theorem dX5_soonestEnd_35 : decode cX5_soonestEnd 35 = .ok (.invokevirtual 44, 3) := by decide +kernel
theorem dX5_soonestEnd_38 : decode cX5_soonestEnd 38 = .ok (.ifCond .eq 18, 3) := by decide +kernel
theorem dX5_soonestEnd_41 : decode cX5_soonestEnd 41 = .ok (.iload_n 2, 1) := by decide +kernel
theorem dX5_soonestEnd_42 : decode cX5_soonestEnd 42 = .ok (.bipush (-7), 2) := by decide +kernel
theorem dX5_soonestEnd_44 : decode cX5_soonestEnd 44 = .ok (.if_icmp .eq 9, 3) := by decide +kernel
theorem dX5_soonestEnd_47 : decode cX5_soonestEnd 47 = .ok (.iload 4, 2) := by decide +kernel
theorem dX5_soonestEnd_49 : decode cX5_soonestEnd 49 = .ok (.iload_n 2, 1) := by decide +kernel
theorem dX5_soonestEnd_50 : decode cX5_soonestEnd 50 = .ok (.if_icmp .ge 6, 3) := by decide +kernel
theorem dX5_soonestEnd_53 : decode cX5_soonestEnd 53 = .ok (.iload 4, 2) := by decide +kernel
theorem dX5_soonestEnd_55 : decode cX5_soonestEnd 55 = .ok (.istore_n 2, 1) := by decide +kernel
theorem dX5_soonestEnd_56 : decode cX5_soonestEnd 56 = .ok (.iinc 3 1, 3) := by decide +kernel
theorem dX5_soonestEnd_59 : decode cX5_soonestEnd 59 = .ok (.goto (-50), 3) := by decide +kernel
theorem dX5_soonestEnd_62 : decode cX5_soonestEnd 62 = .ok (.iload_n 2, 1) := by decide +kernel
theorem dX5_soonestEnd_63 : decode cX5_soonestEnd 63 = .ok (.ireturn, 1) := by decide +kernel
theorem dX5_leastSum_0 : decode cX5_leastSum 0 = .ok (.aload_n 0, 1) := by decide +kernel
theorem dX5_leastSum_1 : decode cX5_leastSum 1 = .ok (.iload_n 1, 1) := by decide +kernel
theorem dX5_leastSum_2 : decode cX5_leastSum 2 = .ok (.invokevirtual 62, 3) := by decide +kernel
theorem dX5_leastSum_5 : decode cX5_leastSum 5 = .ok (.aload_n 0, 1) := by decide +kernel
theorem dX5_leastSum_6 : decode cX5_leastSum 6 = .ok (.getfield 18, 3) := by decide +kernel
theorem dX5_leastSum_9 : decode cX5_leastSum 9 = .ok (.iload_n 1, 1) := by decide +kernel
theorem dX5_leastSum_10 : decode cX5_leastSum 10 = .ok (.sipush 600, 3) := by decide +kernel
theorem dX5_leastSum_13 : decode cX5_leastSum 13 = .ok (.imul, 1) := by decide +kernel
theorem dX5_leastSum_14 : decode cX5_leastSum 14 = .ok (.iconst 0, 1) := by decide +kernel
theorem dX5_leastSum_15 : decode cX5_leastSum 15 = .ok (.iadd, 1) := by decide +kernel
theorem dX5_leastSum_16 : decode cX5_leastSum 16 = .ok (.saload, 1) := by decide +kernel
theorem dX5_leastSum_17 : decode cX5_leastSum 17 = .ok (.ireturn, 1) := by decide +kernel
theorem dX5_makePlan_0 : decode cX5_makePlan 0 = .ok (.aload_n 0, 1) := by decide +kernel
theorem dX5_makePlan_1 : decode cX5_makePlan 1 = .ok (.getfield 38, 3) := by decide +kernel
theorem dX5_makePlan_4 : decode cX5_makePlan 4 = .ok (.iload_n 1, 1) := by decide +kernel
theorem dX5_makePlan_5 : decode cX5_makePlan 5 = .ok (.if_icmp .ne 4, 3) := by decide +kernel
theorem dX5_makePlan_8 : decode cX5_makePlan 8 = .ok (.return_, 1) := by decide +kernel
theorem dX5_makePlan_9 : decode cX5_makePlan 9 = .ok (.aload_n 0, 1) := by decide +kernel
theorem dX5_makePlan_10 : decode cX5_makePlan 10 = .ok (.iload_n 1, 1) := by decide +kernel
theorem dX5_makePlan_11 : decode cX5_makePlan 11 = .ok (.invokevirtual 62, 3) := by decide +kernel
theorem dX5_makePlan_14 : decode cX5_makePlan 14 = .ok (.aload_n 0, 1) := by decide +kernel
theorem dX5_makePlan_15 : decode cX5_makePlan 15 = .ok (.iload_n 1, 1) := by decide +kernel
theorem dX5_makePlan_16 : decode cX5_makePlan 16 = .ok (.putfield 38, 3) := by decide +kernel
theorem dX5_makePlan_19 : decode cX5_makePlan 19 = .ok (.aload_n 0, 1) := by decide +kernel
theorem dX5_makePlan_20 : decode cX5_makePlan 20 = .ok (.iconst 0, 1) := by decide +kernel
theorem dX5_makePlan_21 : decode cX5_makePlan 21 = .ok (.putfield 66, 3) := by decide +kernel
theorem dX5_makePlan_24 : decode cX5_makePlan 24 = .ok (.iconst 0, 1) := by decide +kernel
theorem dX5_makePlan_25 : decode cX5_makePlan 25 = .ok (.istore_n 2, 1) := by decide +kernel
theorem dX5_makePlan_26 : decode cX5_makePlan 26 = .ok (.iload_n 1, 1) := by decide +kernel
theorem dX5_makePlan_27 : decode cX5_makePlan 27 = .ok (.istore_n 3, 1) := by decide +kernel
theorem dX5_makePlan_28 : decode cX5_makePlan 28 = .ok (.iload_n 3, 1) := by decide +kernel
theorem dX5_makePlan_29 : decode cX5_makePlan 29 = .ok (.ifCond .le 61, 3) := by decide +kernel
theorem dX5_makePlan_32 : decode cX5_makePlan 32 = .ok (.aload_n 0, 1) := by decide +kernel
theorem dX5_makePlan_33 : decode cX5_makePlan 33 = .ok (.getfield 66, 3) := by decide +kernel
theorem dX5_makePlan_36 : decode cX5_makePlan 36 = .ok (.bipush 60, 2) := by decide +kernel
theorem dX5_makePlan_38 : decode cX5_makePlan 38 = .ok (.if_icmp .ge 52, 3) := by decide +kernel
theorem dX5_makePlan_41 : decode cX5_makePlan 41 = .ok (.aload_n 0, 1) := by decide +kernel
theorem dX5_makePlan_42 : decode cX5_makePlan 42 = .ok (.iload_n 2, 1) := by decide +kernel
theorem dX5_makePlan_43 : decode cX5_makePlan 43 = .ok (.iload_n 3, 1) := by decide +kernel
theorem dX5_makePlan_44 : decode cX5_makePlan 44 = .ok (.invokevirtual 69, 3) := by decide +kernel
theorem dX5_makePlan_47 : decode cX5_makePlan 47 = .ok (.istore 4, 2) := by decide +kernel
theorem dX5_makePlan_49 : decode cX5_makePlan 49 = .ok (.aload_n 0, 1) := by decide +kernel
theorem dX5_makePlan_50 : decode cX5_makePlan 50 = .ok (.getfield 22, 3) := by decide +kernel
theorem dX5_makePlan_53 : decode cX5_makePlan 53 = .ok (.aload_n 0, 1) := by decide +kernel
theorem dX5_makePlan_54 : decode cX5_makePlan 54 = .ok (.getfield 66, 3) := by decide +kernel
theorem dX5_makePlan_57 : decode cX5_makePlan 57 = .ok (.iload 4, 2) := by decide +kernel
theorem dX5_makePlan_59 : decode cX5_makePlan 59 = .ok (.invokestatic 73, 3) := by decide +kernel
theorem dX5_makePlan_62 : decode cX5_makePlan 62 = .ok (.iastore, 1) := by decide +kernel
theorem dX5_makePlan_63 : decode cX5_makePlan 63 = .ok (.aload_n 0, 1) := by decide +kernel
theorem dX5_makePlan_64 : decode cX5_makePlan 64 = .ok (.dup, 1) := by decide +kernel
theorem dX5_makePlan_65 : decode cX5_makePlan 65 = .ok (.getfield 66, 3) := by decide +kernel
theorem dX5_makePlan_68 : decode cX5_makePlan 68 = .ok (.iconst 1, 1) := by decide +kernel
theorem dX5_makePlan_69 : decode cX5_makePlan 69 = .ok (.iadd, 1) := by decide +kernel
theorem dX5_makePlan_70 : decode cX5_makePlan 70 = .ok (.putfield 66, 3) := by decide +kernel
theorem dX5_makePlan_73 : decode cX5_makePlan 73 = .ok (.iload 4, 2) := by decide +kernel
theorem dX5_makePlan_75 : decode cX5_makePlan 75 = .ok (.invokestatic 76, 3) := by decide +kernel
theorem dX5_makePlan_78 : decode cX5_makePlan 78 = .ok (.istore_n 2, 1) := by decide +kernel
theorem dX5_makePlan_79 : decode cX5_makePlan 79 = .ok (.iload_n 3, 1) := by decide +kernel
theorem dX5_makePlan_80 : decode cX5_makePlan 80 = .ok (.iload 4, 2) := by decide +kernel
theorem dX5_makePlan_82 : decode cX5_makePlan 82 = .ok (.invokestatic 79, 3) := by decide +kernel
theorem dX5_makePlan_85 : decode cX5_makePlan 85 = .ok (.isub, 1) := by decide +kernel
theorem dX5_makePlan_86 : decode cX5_makePlan 86 = .ok (.istore_n 3, 1) := by decide +kernel
theorem dX5_makePlan_87 : decode cX5_makePlan 87 = .ok (.goto (-59), 3) := by decide +kernel
theorem dX5_makePlan_90 : decode cX5_makePlan 90 = .ok (.return_, 1) := by decide +kernel
theorem dX5_planLength_0 : decode cX5_planLength 0 = .ok (.aload_n 0, 1) := by decide +kernel
theorem dX5_planLength_1 : decode cX5_planLength 1 = .ok (.getfield 66, 3) := by decide +kernel
theorem dX5_planLength_4 : decode cX5_planLength 4 = .ok (.ireturn, 1) := by decide +kernel
theorem dX5_handlingAt_0 : decode cX5_handlingAt 0 = .ok (.aload_n 0, 1) := by decide +kernel
theorem dX5_handlingAt_1 : decode cX5_handlingAt 1 = .ok (.getfield 22, 3) := by decide +kernel
theorem dX5_handlingAt_4 : decode cX5_handlingAt 4 = .ok (.iload_n 1, 1) := by decide +kernel
theorem dX5_handlingAt_5 : decode cX5_handlingAt 5 = .ok (.iaload, 1) := by decide +kernel
theorem dX5_handlingAt_6 : decode cX5_handlingAt 6 = .ok (.ireturn, 1) := by decide +kernel
theorem dX5_goesOn_0 : decode cX5_goesOn 0 = .ok (.aload_n 0, 1) := by decide +kernel
theorem dX5_goesOn_1 : decode cX5_goesOn 1 = .ok (.getfield 11, 3) := by decide +kernel
theorem dX5_goesOn_4 : decode cX5_goesOn 4 = .ok (.iload_n 1, 1) := by decide +kernel
theorem dX5_goesOn_5 : decode cX5_goesOn 5 = .ok (.laload, 1) := by decide +kernel
theorem dX5_goesOn_6 : decode cX5_goesOn 6 = .ok (.iload_n 2, 1) := by decide +kernel
theorem dX5_goesOn_7 : decode cX5_goesOn 7 = .ok (.lshr, 1) := by decide +kernel
theorem dX5_goesOn_8 : decode cX5_goesOn 8 = .ok (.lconst 1, 1) := by decide +kernel
theorem dX5_goesOn_9 : decode cX5_goesOn 9 = .ok (.land, 1) := by decide +kernel
theorem dX5_goesOn_10 : decode cX5_goesOn 10 = .ok (.lconst 0, 1) := by decide +kernel
theorem dX5_goesOn_11 : decode cX5_goesOn 11 = .ok (.lcmp, 1) := by decide +kernel
theorem dX5_goesOn_12 : decode cX5_goesOn 12 = .ok (.ifCond .eq 7, 3) := by decide +kernel
theorem dX5_goesOn_15 : decode cX5_goesOn 15 = .ok (.iconst 1, 1) := by decide +kernel
theorem dX5_goesOn_16 : decode cX5_goesOn 16 = .ok (.goto 4, 3) := by decide +kernel
theorem dX5_goesOn_19 : decode cX5_goesOn 19 = .ok (.iconst 0, 1) := by decide +kernel
theorem dX5_goesOn_20 : decode cX5_goesOn 20 = .ok (.ireturn, 1) := by decide +kernel
theorem dX5_findSpans_0 : decode cX5_findSpans 0 = .ok (.aload_n 0, 1) := by decide +kernel
theorem dX5_findSpans_1 : decode cX5_findSpans 1 = .ok (.getfield 30, 3) := by decide +kernel
theorem dX5_findSpans_4 : decode cX5_findSpans 4 = .ok (.ifCond .eq 4, 3) := by decide +kernel
theorem dX5_findSpans_7 : decode cX5_findSpans 7 = .ok (.return_, 1) := by decide +kernel
theorem dX5_findSpans_8 : decode cX5_findSpans 8 = .ok (.aload_n 0, 1) := by decide +kernel
theorem dX5_findSpans_9 : decode cX5_findSpans 9 = .ok (.iconst 1, 1) := by decide +kernel
theorem dX5_findSpans_10 : decode cX5_findSpans 10 = .ok (.putfield 30, 3) := by decide +kernel
theorem dX5_findSpans_13 : decode cX5_findSpans 13 = .ok (.aload_n 0, 1) := by decide +kernel
theorem dX5_findSpans_14 : decode cX5_findSpans 14 = .ok (.getfield 11, 3) := by decide +kernel
theorem dX5_findSpans_17 : decode cX5_findSpans 17 = .ok (.lconst 1, 1) := by decide +kernel
theorem dX5_findSpans_18 : decode cX5_findSpans 18 = .ok (.invokestatic 82, 3) := by decide +kernel
theorem dX5_findSpans_21 : decode cX5_findSpans 21 = .ok (.iconst 1, 1) := by decide +kernel
theorem dX5_findSpans_22 : decode cX5_findSpans 22 = .ok (.istore_n 1, 1) := by decide +kernel
theorem dX5_findSpans_23 : decode cX5_findSpans 23 = .ok (.iconst 0, 1) := by decide +kernel
theorem dX5_findSpans_24 : decode cX5_findSpans 24 = .ok (.istore_n 2, 1) := by decide +kernel
theorem dX5_findSpans_25 : decode cX5_findSpans 25 = .ok (.iload_n 2, 1) := by decide +kernel
theorem dX5_findSpans_26 : decode cX5_findSpans 26 = .ok (.bipush 60, 2) := by decide +kernel
theorem dX5_findSpans_28 : decode cX5_findSpans 28 = .ok (.if_icmp .ge 70, 3) := by decide +kernel
theorem dX5_findSpans_31 : decode cX5_findSpans 31 = .ok (.iload_n 1, 1) := by decide +kernel
theorem dX5_findSpans_32 : decode cX5_findSpans 32 = .ok (.ifCond .eq 66, 3) := by decide +kernel
theorem dX5_findSpans_35 : decode cX5_findSpans 35 = .ok (.iconst 0, 1) := by decide +kernel
theorem dX5_findSpans_36 : decode cX5_findSpans 36 = .ok (.istore_n 1, 1) := by decide +kernel
theorem dX5_findSpans_37 : decode cX5_findSpans 37 = .ok (.aload_n 0, 1) := by decide +kernel
theorem dX5_findSpans_38 : decode cX5_findSpans 38 = .ok (.getfield 26, 3) := by decide +kernel
theorem dX5_findSpans_41 : decode cX5_findSpans 41 = .ok (.invokevirtual 54, 3) := by decide +kernel
theorem dX5_findSpans_44 : decode cX5_findSpans 44 = .ok (.iconst 1, 1) := by decide +kernel
theorem dX5_findSpans_45 : decode cX5_findSpans 45 = .ok (.isub, 1) := by decide +kernel
theorem dX5_findSpans_46 : decode cX5_findSpans 46 = .ok (.istore_n 3, 1) := by decide +kernel
theorem dX5_findSpans_47 : decode cX5_findSpans 47 = .ok (.iload_n 3, 1) := by decide +kernel
theorem dX5_findSpans_48 : decode cX5_findSpans 48 = .ok (.ifCond .lt 44, 3) := by decide +kernel
theorem dX5_findSpans_51 : decode cX5_findSpans 51 = .ok (.aload_n 0, 1) := by decide +kernel
theorem dX5_findSpans_52 : decode cX5_findSpans 52 = .ok (.iload_n 3, 1) := by decide +kernel
theorem dX5_findSpans_53 : decode cX5_findSpans 53 = .ok (.invokevirtual 88, 3) := by decide +kernel
theorem dX5_findSpans_56 : decode cX5_findSpans 56 = .ok (.lstore 4, 2) := by decide +kernel
theorem dX5_findSpans_58 : decode cX5_findSpans 58 = .ok (.iload_n 1, 1) := by decide +kernel
theorem dX5_findSpans_59 : decode cX5_findSpans 59 = .ok (.lload 4, 2) := by decide +kernel
theorem dX5_findSpans_61 : decode cX5_findSpans 61 = .ok (.aload_n 0, 1) := by decide +kernel
theorem dX5_findSpans_62 : decode cX5_findSpans 62 = .ok (.getfield 11, 3) := by decide +kernel
theorem dX5_findSpans_65 : decode cX5_findSpans 65 = .ok (.iload_n 3, 1) := by decide +kernel
theorem dX5_findSpans_66 : decode cX5_findSpans 66 = .ok (.laload, 1) := by decide +kernel
theorem dX5_findSpans_67 : decode cX5_findSpans 67 = .ok (.lcmp, 1) := by decide +kernel
theorem dX5_findSpans_68 : decode cX5_findSpans 68 = .ok (.ifCond .eq 7, 3) := by decide +kernel
theorem dX5_findSpans_71 : decode cX5_findSpans 71 = .ok (.iconst 1, 1) := by decide +kernel
theorem dX5_findSpans_72 : decode cX5_findSpans 72 = .ok (.goto 4, 3) := by decide +kernel
theorem dX5_findSpans_75 : decode cX5_findSpans 75 = .ok (.iconst 0, 1) := by decide +kernel
theorem dX5_findSpans_76 : decode cX5_findSpans 76 = .ok (.ior, 1) := by decide +kernel
theorem dX5_findSpans_77 : decode cX5_findSpans 77 = .ok (.istore_n 1, 1) := by decide +kernel
theorem dX5_findSpans_78 : decode cX5_findSpans 78 = .ok (.aload_n 0, 1) := by decide +kernel
theorem dX5_findSpans_79 : decode cX5_findSpans 79 = .ok (.getfield 11, 3) := by decide +kernel
theorem dX5_findSpans_82 : decode cX5_findSpans 82 = .ok (.iload_n 3, 1) := by decide +kernel
theorem dX5_findSpans_83 : decode cX5_findSpans 83 = .ok (.lload 4, 2) := by decide +kernel
theorem dX5_findSpans_85 : decode cX5_findSpans 85 = .ok (.lastore, 1) := by decide +kernel
theorem dX5_findSpans_86 : decode cX5_findSpans 86 = .ok (.iinc 3 (-1), 3) := by decide +kernel
theorem dX5_findSpans_89 : decode cX5_findSpans 89 = .ok (.goto (-42), 3) := by decide +kernel
theorem dX5_findSpans_92 : decode cX5_findSpans 92 = .ok (.iinc 2 1, 3) := by decide +kernel
theorem dX5_findSpans_95 : decode cX5_findSpans 95 = .ok (.goto (-70), 3) := by decide +kernel
theorem dX5_findSpans_98 : decode cX5_findSpans 98 = .ok (.return_, 1) := by decide +kernel
theorem dX5_spansByWays_0 : decode cX5_spansByWays 0 = .ok (.lconst 1, 1) := by decide +kernel
theorem dX5_spansByWays_1 : decode cX5_spansByWays 1 = .ok (.lstore_n 2, 1) := by decide +kernel
theorem dX5_spansByWays_2 : decode cX5_spansByWays 2 = .ok (.aload_n 0, 1) := by decide +kernel
theorem dX5_spansByWays_3 : decode cX5_spansByWays 3 = .ok (.getfield 26, 3) := by decide +kernel
theorem dX5_spansByWays_6 : decode cX5_spansByWays 6 = .ok (.iload_n 1, 1) := by decide +kernel
theorem dX5_spansByWays_7 : decode cX5_spansByWays 7 = .ok (.invokevirtual 92, 3) := by decide +kernel
theorem dX5_spansByWays_10 : decode cX5_spansByWays 10 = .ok (.istore 4, 2) := by decide +kernel
theorem dX5_spansByWays_12 : decode cX5_spansByWays 12 = .ok (.iload 4, 2) := by decide +kernel
theorem dX5_spansByWays_14 : decode cX5_spansByWays 14 = .ok (.aload_n 0, 1) := by decide +kernel
theorem dX5_spansByWays_15 : decode cX5_spansByWays 15 = .ok (.getfield 26, 3) := by decide +kernel
theorem dX5_spansByWays_18 : decode cX5_spansByWays 18 = .ok (.iload_n 1, 1) := by decide +kernel
theorem dX5_spansByWays_19 : decode cX5_spansByWays 19 = .ok (.invokevirtual 95, 3) := by decide +kernel
theorem dX5_spansByWays_22 : decode cX5_spansByWays 22 = .ok (.if_icmp .ge 39, 3) := by decide +kernel
theorem dX5_spansByWays_25 : decode cX5_spansByWays 25 = .ok (.aload_n 0, 1) := by decide +kernel
theorem dX5_spansByWays_26 : decode cX5_spansByWays 26 = .ok (.getfield 26, 3) := by decide +kernel
theorem dX5_spansByWays_29 : decode cX5_spansByWays 29 = .ok (.iload 4, 2) := by decide +kernel
theorem dX5_spansByWays_31 : decode cX5_spansByWays 31 = .ok (.invokevirtual 98, 3) := by decide +kernel
theorem dX5_spansByWays_34 : decode cX5_spansByWays 34 = .ok (.istore 5, 2) := by decide +kernel
theorem dX5_spansByWays_36 : decode cX5_spansByWays 36 = .ok (.lload_n 2, 1) := by decide +kernel
theorem dX5_spansByWays_37 : decode cX5_spansByWays 37 = .ok (.aload_n 0, 1) := by decide +kernel
theorem dX5_spansByWays_38 : decode cX5_spansByWays 38 = .ok (.getfield 11, 3) := by decide +kernel
theorem dX5_spansByWays_41 : decode cX5_spansByWays 41 = .ok (.iload 5, 2) := by decide +kernel
theorem dX5_spansByWays_43 : decode cX5_spansByWays 43 = .ok (.invokestatic 76, 3) := by decide +kernel
theorem dX5_spansByWays_46 : decode cX5_spansByWays 46 = .ok (.laload, 1) := by decide +kernel
theorem dX5_spansByWays_47 : decode cX5_spansByWays 47 = .ok (.iload 5, 2) := by decide +kernel
theorem dX5_spansByWays_49 : decode cX5_spansByWays 49 = .ok (.invokestatic 79, 3) := by decide +kernel
theorem dX5_spansByWays_52 : decode cX5_spansByWays 52 = .ok (.lshl, 1) := by decide +kernel
theorem dX5_spansByWays_53 : decode cX5_spansByWays 53 = .ok (.lor, 1) := by decide +kernel
theorem dX5_spansByWays_54 : decode cX5_spansByWays 54 = .ok (.lstore_n 2, 1) := by decide +kernel
theorem dX5_spansByWays_55 : decode cX5_spansByWays 55 = .ok (.iinc 4 1, 3) := by decide +kernel
theorem dX5_spansByWays_58 : decode cX5_spansByWays 58 = .ok (.goto (-46), 3) := by decide +kernel
theorem dX5_spansByWays_61 : decode cX5_spansByWays 61 = .ok (.lload_n 2, 1) := by decide +kernel
theorem dX5_spansByWays_62 : decode cX5_spansByWays 62 = .ok (.ldc2_w 101, 3) := by decide +kernel
theorem dX5_spansByWays_65 : decode cX5_spansByWays 65 = .ok (.land, 1) := by decide +kernel
theorem dX5_spansByWays_66 : decode cX5_spansByWays 66 = .ok (.lreturn, 1) := by decide +kernel
theorem dX5_findSums_0 : decode cX5_findSums 0 = .ok (.aload_n 0, 1) := by decide +kernel
theorem dX5_findSums_1 : decode cX5_findSums 1 = .ok (.getfield 34, 3) := by decide +kernel
theorem dX5_findSums_4 : decode cX5_findSums 4 = .ok (.istore_n 2, 1) := by decide +kernel
theorem dX5_findSums_5 : decode cX5_findSums 5 = .ok (.iload_n 2, 1) := by decide +kernel
theorem dX5_findSums_6 : decode cX5_findSums 6 = .ok (.iload_n 1, 1) := by decide +kernel
theorem dX5_findSums_7 : decode cX5_findSums 7 = .ok (.if_icmp .gt 47, 3) := by decide +kernel
theorem dX5_findSums_10 : decode cX5_findSums 10 = .ok (.iconst 0, 1) := by decide +kernel
theorem dX5_findSums_11 : decode cX5_findSums 11 = .ok (.istore_n 3, 1) := by decide +kernel
theorem dX5_findSums_12 : decode cX5_findSums 12 = .ok (.iload_n 3, 1) := by decide +kernel
theorem dX5_findSums_13 : decode cX5_findSums 13 = .ok (.aload_n 0, 1) := by decide +kernel
theorem dX5_findSums_14 : decode cX5_findSums 14 = .ok (.getfield 26, 3) := by decide +kernel
theorem dX5_findSums_17 : decode cX5_findSums 17 = .ok (.invokevirtual 54, 3) := by decide +kernel
theorem dX5_findSums_20 : decode cX5_findSums 20 = .ok (.if_icmp .ge 28, 3) := by decide +kernel
theorem dX5_findSums_23 : decode cX5_findSums 23 = .ok (.aload_n 0, 1) := by decide +kernel
theorem dX5_findSums_24 : decode cX5_findSums 24 = .ok (.getfield 18, 3) := by decide +kernel
theorem dX5_findSums_27 : decode cX5_findSums 27 = .ok (.iload_n 2, 1) := by decide +kernel
theorem dX5_findSums_28 : decode cX5_findSums 28 = .ok (.sipush 600, 3) := by decide +kernel
theorem dX5_findSums_31 : decode cX5_findSums 31 = .ok (.imul, 1) := by decide +kernel
theorem dX5_findSums_32 : decode cX5_findSums 32 = .ok (.iload_n 3, 1) := by decide +kernel
theorem dX5_findSums_33 : decode cX5_findSums 33 = .ok (.iadd, 1) := by decide +kernel
theorem dX5_findSums_34 : decode cX5_findSums 34 = .ok (.aload_n 0, 1) := by decide +kernel
theorem dX5_findSums_35 : decode cX5_findSums 35 = .ok (.iload_n 3, 1) := by decide +kernel
theorem dX5_findSums_36 : decode cX5_findSums 36 = .ok (.iload_n 2, 1) := by decide +kernel
theorem dX5_findSums_37 : decode cX5_findSums 37 = .ok (.invokevirtual 103, 3) := by decide +kernel
theorem dX5_findSums_40 : decode cX5_findSums 40 = .ok (.i2s, 1) := by decide +kernel
theorem dX5_findSums_41 : decode cX5_findSums 41 = .ok (.sastore, 1) := by decide +kernel
theorem dX5_findSums_42 : decode cX5_findSums 42 = .ok (.iinc 3 1, 3) := by decide +kernel
theorem dX5_findSums_45 : decode cX5_findSums 45 = .ok (.goto (-33), 3) := by decide +kernel
theorem dX5_findSums_48 : decode cX5_findSums 48 = .ok (.iinc 2 1, 3) := by decide +kernel
theorem dX5_findSums_51 : decode cX5_findSums 51 = .ok (.goto (-46), 3) := by decide +kernel
theorem dX5_findSums_54 : decode cX5_findSums 54 = .ok (.aload_n 0, 1) := by decide +kernel
theorem dX5_findSums_55 : decode cX5_findSums 55 = .ok (.aload_n 0, 1) := by decide +kernel
theorem dX5_findSums_56 : decode cX5_findSums 56 = .ok (.getfield 34, 3) := by decide +kernel
theorem dX5_findSums_59 : decode cX5_findSums 59 = .ok (.iload_n 1, 1) := by decide +kernel
theorem dX5_findSums_60 : decode cX5_findSums 60 = .ok (.iconst 1, 1) := by decide +kernel
theorem dX5_findSums_61 : decode cX5_findSums 61 = .ok (.iadd, 1) := by decide +kernel
theorem dX5_findSums_62 : decode cX5_findSums 62 = .ok (.invokestatic 106, 3) := by decide +kernel
theorem dX5_findSums_65 : decode cX5_findSums 65 = .ok (.putfield 34, 3) := by decide +kernel
theorem dX5_findSums_68 : decode cX5_findSums 68 = .ok (.return_, 1) := by decide +kernel
theorem dX5_sumFrom_0 : decode cX5_sumFrom 0 = .ok (.iload_n 2, 1) := by decide +kernel
theorem dX5_sumFrom_1 : decode cX5_sumFrom 1 = .ok (.ifCond .ne 5, 3) := by decide +kernel
theorem dX5_sumFrom_4 : decode cX5_sumFrom 4 = .ok (.iconst 0, 1) := by decide +kernel
theorem dX5_sumFrom_5 : decode cX5_sumFrom 5 = .ok (.ireturn, 1) := by decide +kernel
theorem dX5_sumFrom_6 : decode cX5_sumFrom 6 = .ok (.aload_n 0, 1) := by decide +kernel
theorem dX5_sumFrom_7 : decode cX5_sumFrom 7 = .ok (.iload_n 1, 1) := by decide +kernel
theorem dX5_sumFrom_8 : decode cX5_sumFrom 8 = .ok (.iload_n 2, 1) := by decide +kernel
theorem dX5_sumFrom_9 : decode cX5_sumFrom 9 = .ok (.invokevirtual 44, 3) := by decide +kernel
theorem dX5_sumFrom_12 : decode cX5_sumFrom 12 = .ok (.ifCond .eq 18, 3) := by decide +kernel
theorem dX5_sumFrom_15 : decode cX5_sumFrom 15 = .ok (.aload_n 0, 1) := by decide +kernel
theorem dX5_sumFrom_16 : decode cX5_sumFrom 16 = .ok (.getfield 26, 3) := by decide +kernel
theorem dX5_sumFrom_19 : decode cX5_sumFrom 19 = .ok (.iload_n 1, 1) := by decide +kernel
theorem dX5_sumFrom_20 : decode cX5_sumFrom 20 = .ok (.invokevirtual 58, 3) := by decide +kernel
theorem dX5_sumFrom_23 : decode cX5_sumFrom 23 = .ok (.iload_n 2, 1) := by decide +kernel
theorem dX5_sumFrom_24 : decode cX5_sumFrom 24 = .ok (.iadd, 1) := by decide +kernel
theorem dX5_sumFrom_25 : decode cX5_sumFrom 25 = .ok (.bipush 60, 2) := by decide +kernel
theorem dX5_sumFrom_27 : decode cX5_sumFrom 27 = .ok (.if_icmp .le 7, 3) := by decide +kernel
theorem dX5_sumFrom_30 : decode cX5_sumFrom 30 = .ok (.sipush 10000, 3) := by decide +kernel
theorem dX5_sumFrom_33 : decode cX5_sumFrom 33 = .ok (.ireturn, 1) := by decide +kernel
theorem dX5_sumFrom_34 : decode cX5_sumFrom 34 = .ok (.aload_n 0, 1) := by decide +kernel
theorem dX5_sumFrom_35 : decode cX5_sumFrom 35 = .ok (.aload_n 0, 1) := by decide +kernel
theorem dX5_sumFrom_36 : decode cX5_sumFrom 36 = .ok (.iload_n 1, 1) := by decide +kernel
theorem dX5_sumFrom_37 : decode cX5_sumFrom 37 = .ok (.iload_n 2, 1) := by decide +kernel
theorem dX5_sumFrom_38 : decode cX5_sumFrom 38 = .ok (.invokevirtual 69, 3) := by decide +kernel
theorem dX5_sumFrom_41 : decode cX5_sumFrom 41 = .ok (.iload_n 2, 1) := by decide +kernel
theorem dX5_sumFrom_42 : decode cX5_sumFrom 42 = .ok (.invokevirtual 111, 3) := by decide +kernel
theorem dX5_sumFrom_45 : decode cX5_sumFrom 45 = .ok (.ireturn, 1) := by decide +kernel
theorem dX5_sumBy_0 : decode cX5_sumBy 0 = .ok (.iload_n 2, 1) := by decide +kernel
theorem dX5_sumBy_1 : decode cX5_sumBy 1 = .ok (.iload_n 1, 1) := by decide +kernel
theorem dX5_sumBy_2 : decode cX5_sumBy 2 = .ok (.invokestatic 79, 3) := by decide +kernel
theorem dX5_sumBy_5 : decode cX5_sumBy 5 = .ok (.isub, 1) := by decide +kernel
theorem dX5_sumBy_6 : decode cX5_sumBy 6 = .ok (.istore_n 3, 1) := by decide +kernel
theorem dX5_sumBy_7 : decode cX5_sumBy 7 = .ok (.iload_n 3, 1) := by decide +kernel
theorem dX5_sumBy_8 : decode cX5_sumBy 8 = .ok (.ifCond .ge 9, 3) := by decide +kernel
theorem dX5_sumBy_11 : decode cX5_sumBy 11 = .ok (.sipush 10000, 3) := by decide +kernel
theorem dX5_sumBy_14 : decode cX5_sumBy 14 = .ok (.goto 23, 3) := by decide +kernel
theorem dX5_sumBy_17 : decode cX5_sumBy 17 = .ok (.iload_n 1, 1) := by decide +kernel
theorem dX5_sumBy_18 : decode cX5_sumBy 18 = .ok (.invokestatic 114, 3) := by decide +kernel
theorem dX5_sumBy_21 : decode cX5_sumBy 21 = .ok (.aload_n 0, 1) := by decide +kernel
theorem dX5_sumBy_22 : decode cX5_sumBy 22 = .ok (.getfield 18, 3) := by decide +kernel
theorem dX5_sumBy_25 : decode cX5_sumBy 25 = .ok (.iload_n 3, 1) := by decide +kernel
theorem dX5_sumBy_26 : decode cX5_sumBy 26 = .ok (.sipush 600, 3) := by decide +kernel
theorem dX5_sumBy_29 : decode cX5_sumBy 29 = .ok (.imul, 1) := by decide +kernel
theorem dX5_sumBy_30 : decode cX5_sumBy 30 = .ok (.iload_n 1, 1) := by decide +kernel
theorem dX5_sumBy_31 : decode cX5_sumBy 31 = .ok (.invokestatic 76, 3) := by decide +kernel
theorem dX5_sumBy_34 : decode cX5_sumBy 34 = .ok (.iadd, 1) := by decide +kernel
theorem dX5_sumBy_35 : decode cX5_sumBy 35 = .ok (.saload, 1) := by decide +kernel
theorem dX5_sumBy_36 : decode cX5_sumBy 36 = .ok (.iadd, 1) := by decide +kernel
theorem dX5_sumBy_37 : decode cX5_sumBy 37 = .ok (.ireturn, 1) := by decide +kernel
theorem dX5_bestWay_0 : decode cX5_bestWay 0 = .ok (.iconst 0, 1) := by decide +kernel
theorem dX5_bestWay_1 : decode cX5_bestWay 1 = .ok (.istore_n 3, 1) := by decide +kernel
theorem dX5_bestWay_2 : decode cX5_bestWay 2 = .ok (.sipush 10000, 3) := by decide +kernel
theorem dX5_bestWay_5 : decode cX5_bestWay 5 = .ok (.istore 4, 2) := by decide +kernel
theorem dX5_bestWay_7 : decode cX5_bestWay 7 = .ok (.aload_n 0, 1) := by decide +kernel
theorem dX5_bestWay_8 : decode cX5_bestWay 8 = .ok (.getfield 26, 3) := by decide +kernel
theorem dX5_bestWay_11 : decode cX5_bestWay 11 = .ok (.iload_n 1, 1) := by decide +kernel
theorem dX5_bestWay_12 : decode cX5_bestWay 12 = .ok (.invokevirtual 95, 3) := by decide +kernel
theorem dX5_bestWay_15 : decode cX5_bestWay 15 = .ok (.istore 5, 2) := by decide +kernel
theorem dX5_bestWay_17 : decode cX5_bestWay 17 = .ok (.aload_n 0, 1) := by decide +kernel
theorem dX5_bestWay_18 : decode cX5_bestWay 18 = .ok (.getfield 26, 3) := by decide +kernel
theorem dX5_bestWay_21 : decode cX5_bestWay 21 = .ok (.iload_n 1, 1) := by decide +kernel
theorem dX5_bestWay_22 : decode cX5_bestWay 22 = .ok (.invokevirtual 92, 3) := by decide +kernel
theorem dX5_bestWay_25 : decode cX5_bestWay 25 = .ok (.istore 6, 2) := by decide +kernel
theorem dX5_bestWay_27 : decode cX5_bestWay 27 = .ok (.iload 6, 2) := by decide +kernel
theorem dX5_bestWay_29 : decode cX5_bestWay 29 = .ok (.iload 5, 2) := by decide +kernel
theorem dX5_bestWay_31 : decode cX5_bestWay 31 = .ok (.if_icmp .ge 43, 3) := by decide +kernel
theorem dX5_bestWay_34 : decode cX5_bestWay 34 = .ok (.aload_n 0, 1) := by decide +kernel
theorem dX5_bestWay_35 : decode cX5_bestWay 35 = .ok (.getfield 26, 3) := by decide +kernel
theorem dX5_bestWay_38 : decode cX5_bestWay 38 = .ok (.iload 6, 2) := by decide +kernel
theorem dX5_bestWay_40 : decode cX5_bestWay 40 = .ok (.invokevirtual 98, 3) := by decide +kernel
theorem dX5_bestWay_43 : decode cX5_bestWay 43 = .ok (.istore 7, 2) := by decide +kernel
theorem dX5_bestWay_45 : decode cX5_bestWay 45 = .ok (.aload_n 0, 1) := by decide +kernel
theorem dX5_bestWay_46 : decode cX5_bestWay 46 = .ok (.iload 7, 2) := by decide +kernel
theorem dX5_bestWay_48 : decode cX5_bestWay 48 = .ok (.iload_n 2, 1) := by decide +kernel
theorem dX5_bestWay_49 : decode cX5_bestWay 49 = .ok (.invokevirtual 111, 3) := by decide +kernel
theorem dX5_bestWay_52 : decode cX5_bestWay 52 = .ok (.istore 8, 2) := by decide +kernel
theorem dX5_bestWay_54 : decode cX5_bestWay 54 = .ok (.iload 8, 2) := by decide +kernel
theorem dX5_bestWay_56 : decode cX5_bestWay 56 = .ok (.iload 4, 2) := by decide +kernel
theorem dX5_bestWay_58 : decode cX5_bestWay 58 = .ok (.if_icmp .ge 10, 3) := by decide +kernel
theorem dX5_bestWay_61 : decode cX5_bestWay 61 = .ok (.iload 8, 2) := by decide +kernel
theorem dX5_bestWay_63 : decode cX5_bestWay 63 = .ok (.istore 4, 2) := by decide +kernel
theorem dX5_bestWay_65 : decode cX5_bestWay 65 = .ok (.iload 7, 2) := by decide +kernel
theorem dX5_bestWay_67 : decode cX5_bestWay 67 = .ok (.istore_n 3, 1) := by decide +kernel
theorem dX5_bestWay_68 : decode cX5_bestWay 68 = .ok (.iinc 6 1, 3) := by decide +kernel
theorem dX5_bestWay_71 : decode cX5_bestWay 71 = .ok (.goto (-44), 3) := by decide +kernel
theorem dX5_bestWay_74 : decode cX5_bestWay 74 = .ok (.iload_n 3, 1) := by decide +kernel
theorem dX5_bestWay_75 : decode cX5_bestWay 75 = .ok (.ireturn, 1) := by decide +kernel
