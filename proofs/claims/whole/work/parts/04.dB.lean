theorem dX6_init_0 : decode cX6_init 0 = .ok (.aload_n 0, 1) := by decide +kernel
theorem dX6_init_1 : decode cX6_init 1 = .ok (.invokespecial 3, 3) := by decide +kernel
theorem dX6_init_4 : decode cX6_init 4 = .ok (.aload_n 0, 1) := by decide +kernel
theorem dX6_init_5 : decode cX6_init 5 = .ok (.sipush 600, 3) := by decide +kernel
theorem dX6_init_8 : decode cX6_init 8 = .ok (.newarray .long, 2) := by decide +kernel
theorem dX6_init_10 : decode cX6_init 10 = .ok (.putfield 9, 3) := by decide +kernel
theorem dX6_init_13 : decode cX6_init 13 = .ok (.aload_n 0, 1) := by decide +kernel
theorem dX6_init_14 : decode cX6_init 14 = .ok (.sipush 600, 3) := by decide +kernel
theorem dX6_init_17 : decode cX6_init 17 = .ok (.newarray .int, 2) := by decide +kernel
theorem dX6_init_19 : decode cX6_init 19 = .ok (.putfield 13, 3) := by decide +kernel
theorem dX6_init_22 : decode cX6_init 22 = .ok (.aload_n 0, 1) := by decide +kernel
theorem dX6_init_23 : decode cX6_init 23 = .ok (.sipush 600, 3) := by decide +kernel
theorem dX6_init_26 : decode cX6_init 26 = .ok (.newarray .int, 2) := by decide +kernel
theorem dX6_init_28 : decode cX6_init 28 = .ok (.putfield 17, 3) := by decide +kernel
theorem dX6_init_31 : decode cX6_init 31 = .ok (.aload_n 0, 1) := by decide +kernel
theorem dX6_init_32 : decode cX6_init 32 = .ok (.sipush 600, 3) := by decide +kernel
theorem dX6_init_35 : decode cX6_init 35 = .ok (.newarray .boolean, 2) := by decide +kernel
theorem dX6_init_37 : decode cX6_init 37 = .ok (.putfield 20, 3) := by decide +kernel
theorem dX6_init_40 : decode cX6_init 40 = .ok (.aload_n 0, 1) := by decide +kernel
theorem dX6_init_41 : decode cX6_init 41 = .ok (.sipush 600, 3) := by decide +kernel
theorem dX6_init_44 : decode cX6_init 44 = .ok (.newarray .int, 2) := by decide +kernel
theorem dX6_init_46 : decode cX6_init 46 = .ok (.putfield 24, 3) := by decide +kernel
theorem dX6_init_49 : decode cX6_init 49 = .ok (.aload_n 0, 1) := by decide +kernel
theorem dX6_init_50 : decode cX6_init 50 = .ok (.sipush 600, 3) := by decide +kernel
theorem dX6_init_53 : decode cX6_init 53 = .ok (.newarray .int, 2) := by decide +kernel
theorem dX6_init_55 : decode cX6_init 55 = .ok (.putfield 27, 3) := by decide +kernel
theorem dX6_init_58 : decode cX6_init 58 = .ok (.aload_n 0, 1) := by decide +kernel
theorem dX6_init_59 : decode cX6_init 59 = .ok (.ldc 30, 2) := by decide +kernel
theorem dX6_init_61 : decode cX6_init 61 = .ok (.newarray .int, 2) := by decide +kernel
theorem dX6_init_63 : decode cX6_init 63 = .ok (.putfield 31, 3) := by decide +kernel
theorem dX6_init_66 : decode cX6_init 66 = .ok (.aload_n 0, 1) := by decide +kernel
theorem dX6_init_67 : decode cX6_init 67 = .ok (.aload_n 1, 1) := by decide +kernel
theorem dX6_init_68 : decode cX6_init 68 = .ok (.putfield 34, 3) := by decide +kernel
theorem dX6_init_71 : decode cX6_init 71 = .ok (.aload_n 0, 1) := by decide +kernel
theorem dX6_init_72 : decode cX6_init 72 = .ok (.aload_n 2, 1) := by decide +kernel
theorem dX6_init_73 : decode cX6_init 73 = .ok (.putfield 38, 3) := by decide +kernel
theorem dX6_init_76 : decode cX6_init 76 = .ok (.return_, 1) := by decide +kernel
theorem dX6_forget_0 : decode cX6_forget 0 = .ok (.aload_n 0, 1) := by decide +kernel
theorem dX6_forget_1 : decode cX6_forget 1 = .ok (.iconst 0, 1) := by decide +kernel
theorem dX6_forget_2 : decode cX6_forget 2 = .ok (.putfield 42, 3) := by decide +kernel
theorem dX6_forget_5 : decode cX6_forget 5 = .ok (.return_, 1) := by decide +kernel
theorem dX6_isSpent_0 : decode cX6_isSpent 0 = .ok (.aload_n 0, 1) := by decide +kernel
theorem dX6_isSpent_1 : decode cX6_isSpent 1 = .ok (.getfield 42, 3) := by decide +kernel
theorem dX6_isSpent_4 : decode cX6_isSpent 4 = .ok (.ifCond .ne 68, 3) := by decide +kernel
theorem dX6_isSpent_7 : decode cX6_isSpent 7 = .ok (.aload_n 0, 1) := by decide +kernel
theorem dX6_isSpent_8 : decode cX6_isSpent 8 = .ok (.iconst 1, 1) := by decide +kernel
theorem dX6_isSpent_9 : decode cX6_isSpent 9 = .ok (.putfield 42, 3) := by decide +kernel
theorem dX6_isSpent_12 : decode cX6_isSpent 12 = .ok (.aload_n 0, 1) := by decide +kernel
theorem dX6_isSpent_13 : decode cX6_isSpent 13 = .ok (.iconst 0, 1) := by decide +kernel
theorem dX6_isSpent_14 : decode cX6_isSpent 14 = .ok (.putfield 46, 3) := by decide +kernel
theorem dX6_isSpent_17 : decode cX6_isSpent 17 = .ok (.aload_n 0, 1) := by decide +kernel
theorem dX6_isSpent_18 : decode cX6_isSpent 18 = .ok (.iconst 0, 1) := by decide +kernel
theorem dX6_isSpent_19 : decode cX6_isSpent 19 = .ok (.putfield 49, 3) := by decide +kernel
theorem dX6_isSpent_22 : decode cX6_isSpent 22 = .ok (.aload_n 0, 1) := by decide +kernel
theorem dX6_isSpent_23 : decode cX6_isSpent 23 = .ok (.iconst 0, 1) := by decide +kernel
theorem dX6_isSpent_24 : decode cX6_isSpent 24 = .ok (.putfield 53, 3) := by decide +kernel
theorem dX6_isSpent_27 : decode cX6_isSpent 27 = .ok (.aload_n 0, 1) := by decide +kernel
theorem dX6_isSpent_28 : decode cX6_isSpent 28 = .ok (.lconst 0, 1) := by decide +kernel
theorem dX6_isSpent_29 : decode cX6_isSpent 29 = .ok (.iconst 0, 1) := by decide +kernel
theorem dX6_isSpent_30 : decode cX6_isSpent 30 = .ok (.invokevirtual 56, 3) := by decide +kernel
theorem dX6_isSpent_33 : decode cX6_isSpent 33 = .ok (.pop, 1) := by decide +kernel
theorem dX6_isSpent_34 : decode cX6_isSpent 34 = .ok (.iconst 0, 1) := by decide +kernel
theorem dX6_isSpent_35 : decode cX6_isSpent 35 = .ok (.istore_n 1, 1) := by decide +kernel
theorem dX6_isSpent_36 : decode cX6_isSpent 36 = .ok (.iconst 0, 1) := by decide +kernel
theorem dX6_isSpent_37 : decode cX6_isSpent 37 = .ok (.istore_n 2, 1) := by decide +kernel
theorem dX6_isSpent_38 : decode cX6_isSpent 38 = .ok (.iload_n 2, 1) := by decide +kernel
theorem dX6_isSpent_39 : decode cX6_isSpent 39 = .ok (.sipush 600, 3) := by decide +kernel
theorem dX6_isSpent_42 : decode cX6_isSpent 42 = .ok (.if_icmp .ge 30, 3) := by decide +kernel
theorem dX6_isSpent_45 : decode cX6_isSpent 45 = .ok (.iload_n 1, 1) := by decide +kernel
theorem dX6_isSpent_46 : decode cX6_isSpent 46 = .ok (.ifCond .lt 26, 3) := by decide +kernel
theorem dX6_isSpent_49 : decode cX6_isSpent 49 = .ok (.aload_n 0, 1) := by decide +kernel
theorem dX6_isSpent_50 : decode cX6_isSpent 50 = .ok (.getfield 46, 3) := by decide +kernel
theorem dX6_isSpent_53 : decode cX6_isSpent 53 = .ok (.ifCond .ne 19, 3) := by decide +kernel
theorem dX6_isSpent_56 : decode cX6_isSpent 56 = .ok (.aload_n 0, 1) := by decide +kernel
theorem dX6_isSpent_57 : decode cX6_isSpent 57 = .ok (.iload_n 1, 1) := by decide +kernel
theorem dX6_isSpent_58 : decode cX6_isSpent 58 = .ok (.invokevirtual 60, 3) := by decide +kernel
theorem dX6_isSpent_61 : decode cX6_isSpent 61 = .ok (.aload_n 0, 1) := by decide +kernel
theorem dX6_isSpent_62 : decode cX6_isSpent 62 = .ok (.invokevirtual 64, 3) := by decide +kernel
theorem dX6_isSpent_65 : decode cX6_isSpent 65 = .ok (.istore_n 1, 1) := by decide +kernel
theorem dX6_isSpent_66 : decode cX6_isSpent 66 = .ok (.iinc 2 1, 3) := by decide +kernel
theorem dX6_isSpent_69 : decode cX6_isSpent 69 = .ok (.goto (-31), 3) := by decide +kernel
theorem dX6_isSpent_72 : decode cX6_isSpent 72 = .ok (.aload_n 0, 1) := by decide +kernel
theorem dX6_isSpent_73 : decode cX6_isSpent 73 = .ok (.getfield 46, 3) := by decide +kernel
theorem dX6_isSpent_76 : decode cX6_isSpent 76 = .ok (.ireturn, 1) := by decide +kernel
theorem dX6_soonestLeft_0 : decode cX6_soonestLeft 0 = .ok (.iconst (-1), 1) := by decide +kernel
theorem dX6_soonestLeft_1 : decode cX6_soonestLeft 1 = .ok (.istore_n 1, 1) := by decide +kernel
theorem dX6_soonestLeft_2 : decode cX6_soonestLeft 2 = .ok (.iconst 0, 1) := by decide +kernel
theorem dX6_soonestLeft_3 : decode cX6_soonestLeft 3 = .ok (.istore_n 2, 1) := by decide +kernel
theorem dX6_soonestLeft_4 : decode cX6_soonestLeft 4 = .ok (.iload_n 2, 1) := by decide +kernel
theorem dX6_soonestLeft_5 : decode cX6_soonestLeft 5 = .ok (.aload_n 0, 1) := by decide +kernel
theorem dX6_soonestLeft_6 : decode cX6_soonestLeft 6 = .ok (.getfield 49, 3) := by decide +kernel
theorem dX6_soonestLeft_9 : decode cX6_soonestLeft 9 = .ok (.if_icmp .ge 39, 3) := by decide +kernel
theorem dX6_soonestLeft_12 : decode cX6_soonestLeft 12 = .ok (.aload_n 0, 1) := by decide +kernel
theorem dX6_soonestLeft_13 : decode cX6_soonestLeft 13 = .ok (.getfield 20, 3) := by decide +kernel
theorem dX6_soonestLeft_16 : decode cX6_soonestLeft 16 = .ok (.iload_n 2, 1) := by decide +kernel
theorem dX6_soonestLeft_17 : decode cX6_soonestLeft 17 = .ok (.baload, 1) := by decide +kernel
theorem dX6_soonestLeft_18 : decode cX6_soonestLeft 18 = .ok (.ifCond .ne 24, 3) := by decide +kernel
theorem dX6_soonestLeft_21 : decode cX6_soonestLeft 21 = .ok (.iload_n 1, 1) := by decide +kernel
theorem dX6_soonestLeft_22 : decode cX6_soonestLeft 22 = .ok (.ifCond .lt 18, 3) := by decide +kernel
theorem dX6_soonestLeft_25 : decode cX6_soonestLeft 25 = .ok (.aload_n 0, 1) := by decide +kernel
theorem dX6_soonestLeft_26 : decode cX6_soonestLeft 26 = .ok (.getfield 17, 3) := by decide +kernel
theorem dX6_soonestLeft_29 : decode cX6_soonestLeft 29 = .ok (.iload_n 2, 1) := by decide +kernel
theorem dX6_soonestLeft_30 : decode cX6_soonestLeft 30 = .ok (.iaload, 1) := by decide +kernel
theorem dX6_soonestLeft_31 : decode cX6_soonestLeft 31 = .ok (.aload_n 0, 1) := by decide +kernel
theorem dX6_soonestLeft_32 : decode cX6_soonestLeft 32 = .ok (.getfield 17, 3) := by decide +kernel
theorem dX6_soonestLeft_35 : decode cX6_soonestLeft 35 = .ok (.iload_n 1, 1) := by decide +kernel
theorem dX6_soonestLeft_36 : decode cX6_soonestLeft 36 = .ok (.iaload, 1) := by decide +kernel
theorem dX6_soonestLeft_37 : decode cX6_soonestLeft 37 = .ok (.if_icmp .ge 5, 3) := by decide +kernel
theorem dX6_soonestLeft_40 : decode cX6_soonestLeft 40 = .ok (.iload_n 2, 1) := by decide +kernel
theorem dX6_soonestLeft_41 : decode cX6_soonestLeft 41 = .ok (.istore_n 1, 1) := by decide +kernel
theorem dX6_soonestLeft_42 : decode cX6_soonestLeft 42 = .ok (.iinc 2 1, 3) := by decide +kernel
theorem dX6_soonestLeft_45 : decode cX6_soonestLeft 45 = .ok (.goto (-41), 3) := by decide +kernel
theorem dX6_soonestLeft_48 : decode cX6_soonestLeft 48 = .ok (.iload_n 1, 1) := by decide +kernel
theorem dX6_soonestLeft_49 : decode cX6_soonestLeft 49 = .ok (.ireturn, 1) := by decide +kernel
theorem dX6_goFrom_0 : decode cX6_goFrom 0 = .ok (.aload_n 0, 1) := by decide +kernel
theorem dX6_goFrom_1 : decode cX6_goFrom 1 = .ok (.getfield 20, 3) := by decide +kernel
theorem dX6_goFrom_4 : decode cX6_goFrom 4 = .ok (.iload_n 1, 1) := by decide +kernel
theorem dX6_goFrom_5 : decode cX6_goFrom 5 = .ok (.iconst 1, 1) := by decide +kernel
theorem dX6_goFrom_6 : decode cX6_goFrom 6 = .ok (.bastore, 1) := by decide +kernel
theorem dX6_goFrom_7 : decode cX6_goFrom 7 = .ok (.aload_n 0, 1) := by decide +kernel
theorem dX6_goFrom_8 : decode cX6_goFrom 8 = .ok (.getfield 24, 3) := by decide +kernel
theorem dX6_goFrom_11 : decode cX6_goFrom 11 = .ok (.iload_n 1, 1) := by decide +kernel
theorem dX6_goFrom_12 : decode cX6_goFrom 12 = .ok (.aload_n 0, 1) := by decide +kernel
theorem dX6_goFrom_13 : decode cX6_goFrom 13 = .ok (.getfield 53, 3) := by decide +kernel
theorem dX6_goFrom_16 : decode cX6_goFrom 16 = .ok (.iastore, 1) := by decide +kernel
theorem dX6_goFrom_17 : decode cX6_goFrom 17 = .ok (.iconst 1, 1) := by decide +kernel
theorem dX6_goFrom_18 : decode cX6_goFrom 18 = .ok (.iconst 2, 1) := by decide +kernel
theorem dX6_goFrom_19 : decode cX6_goFrom 19 = .ok (.aload_n 0, 1) := by decide +kernel
theorem dX6_goFrom_20 : decode cX6_goFrom 20 = .ok (.getfield 34, 3) := by decide +kernel
theorem dX6_goFrom_23 : decode cX6_goFrom 23 = .ok (.invokevirtual 68, 3) := by decide +kernel
theorem dX6_goFrom_26 : decode cX6_goFrom 26 = .ok (.imul, 1) := by decide +kernel
theorem dX6_goFrom_27 : decode cX6_goFrom 27 = .ok (.ishl, 1) := by decide +kernel
theorem dX6_goFrom_28 : decode cX6_goFrom 28 = .ok (.istore_n 2, 1) := by decide +kernel
theorem dX6_goFrom_29 : decode cX6_goFrom 29 = .ok (.aload_n 0, 1) := by decide +kernel
theorem dX6_goFrom_30 : decode cX6_goFrom 30 = .ok (.getfield 38, 3) := by decide +kernel
theorem dX6_goFrom_33 : decode cX6_goFrom 33 = .ok (.aload_n 0, 1) := by decide +kernel
theorem dX6_goFrom_34 : decode cX6_goFrom 34 = .ok (.getfield 9, 3) := by decide +kernel
theorem dX6_goFrom_37 : decode cX6_goFrom 37 = .ok (.iload_n 1, 1) := by decide +kernel
theorem dX6_goFrom_38 : decode cX6_goFrom 38 = .ok (.laload, 1) := by decide +kernel
theorem dX6_goFrom_39 : decode cX6_goFrom 39 = .ok (.invokevirtual 72, 3) := by decide +kernel
theorem dX6_goFrom_42 : decode cX6_goFrom 42 = .ok (.iconst 0, 1) := by decide +kernel
theorem dX6_goFrom_43 : decode cX6_goFrom 43 = .ok (.istore_n 3, 1) := by decide +kernel
theorem dX6_goFrom_44 : decode cX6_goFrom 44 = .ok (.iload_n 3, 1) := by decide +kernel
theorem dX6_goFrom_45 : decode cX6_goFrom 45 = .ok (.iload_n 2, 1) := by decide +kernel
theorem dX6_goFrom_46 : decode cX6_goFrom 46 = .ok (.if_icmp .ge 46, 3) := by decide +kernel
theorem dX6_goFrom_49 : decode cX6_goFrom 49 = .ok (.aload_n 0, 1) := by decide +kernel
theorem dX6_goFrom_50 : decode cX6_goFrom 50 = .ok (.getfield 46, 3) := by decide +kernel
theorem dX6_goFrom_53 : decode cX6_goFrom 53 = .ok (.ifCond .ne 39, 3) := by decide +kernel
theorem dX6_goFrom_56 : decode cX6_goFrom 56 = .ok (.aload_n 0, 1) := by decide +kernel
theorem dX6_goFrom_57 : decode cX6_goFrom 57 = .ok (.getfield 38, 3) := by decide +kernel
theorem dX6_goFrom_60 : decode cX6_goFrom 60 = .ok (.iload_n 3, 1) := by decide +kernel
theorem dX6_goFrom_61 : decode cX6_goFrom 61 = .ok (.invokevirtual 78, 3) := by decide +kernel
theorem dX6_goFrom_64 : decode cX6_goFrom 64 = .ok (.ifCond .eq 22, 3) := by decide +kernel
theorem dX6_goFrom_67 : decode cX6_goFrom 67 = .ok (.aload_n 0, 1) := by decide +kernel
theorem dX6_goFrom_68 : decode cX6_goFrom 68 = .ok (.iload_n 1, 1) := by decide +kernel
theorem dX6_goFrom_69 : decode cX6_goFrom 69 = .ok (.iload_n 3, 1) := by decide +kernel
theorem dX6_goFrom_70 : decode cX6_goFrom 70 = .ok (.invokevirtual 82, 3) := by decide +kernel
theorem dX6_goFrom_73 : decode cX6_goFrom 73 = .ok (.aload_n 0, 1) := by decide +kernel
theorem dX6_goFrom_74 : decode cX6_goFrom 74 = .ok (.getfield 38, 3) := by decide +kernel
theorem dX6_goFrom_77 : decode cX6_goFrom 77 = .ok (.aload_n 0, 1) := by decide +kernel
theorem dX6_goFrom_78 : decode cX6_goFrom 78 = .ok (.getfield 9, 3) := by decide +kernel
theorem dX6_goFrom_81 : decode cX6_goFrom 81 = .ok (.iload_n 1, 1) := by decide +kernel
theorem dX6_goFrom_82 : decode cX6_goFrom 82 = .ok (.laload, 1) := by decide +kernel
theorem dX6_goFrom_83 : decode cX6_goFrom 83 = .ok (.invokevirtual 72, 3) := by decide +kernel
theorem dX6_goFrom_86 : decode cX6_goFrom 86 = .ok (.iinc 3 1, 3) := by decide +kernel
theorem dX6_goFrom_89 : decode cX6_goFrom 89 = .ok (.goto (-45), 3) := by decide +kernel
theorem dX6_goFrom_92 : decode cX6_goFrom 92 = .ok (.aload_n 0, 1) := by decide +kernel
theorem dX6_goFrom_93 : decode cX6_goFrom 93 = .ok (.getfield 27, 3) := by decide +kernel
theorem dX6_goFrom_96 : decode cX6_goFrom 96 = .ok (.iload_n 1, 1) := by decide +kernel
theorem dX6_goFrom_97 : decode cX6_goFrom 97 = .ok (.aload_n 0, 1) := by decide +kernel
theorem dX6_goFrom_98 : decode cX6_goFrom 98 = .ok (.getfield 53, 3) := by decide +kernel
theorem dX6_goFrom_101 : decode cX6_goFrom 101 = .ok (.iastore, 1) := by decide +kernel
theorem dX6_goFrom_102 : decode cX6_goFrom 102 = .ok (.return_, 1) := by decide +kernel
theorem dX6_goBy_0 : decode cX6_goBy 0 = .ok (.aload_n 0, 1) := by decide +kernel
theorem dX6_goBy_1 : decode cX6_goBy 1 = .ok (.getfield 38, 3) := by decide +kernel
theorem dX6_goBy_4 : decode cX6_goBy 4 = .ok (.iload_n 2, 1) := by decide +kernel
theorem dX6_goBy_5 : decode cX6_goBy 5 = .ok (.invokevirtual 86, 3) := by decide +kernel
theorem dX6_goBy_8 : decode cX6_goBy 8 = .ok (.aload_n 0, 1) := by decide +kernel
theorem dX6_goBy_9 : decode cX6_goBy 9 = .ok (.getfield 38, 3) := by decide +kernel
theorem dX6_goBy_12 : decode cX6_goBy 12 = .ok (.invokevirtual 89, 3) := by decide +kernel
theorem dX6_goBy_15 : decode cX6_goBy 15 = .ok (.istore_n 3, 1) := by decide +kernel
theorem dX6_goBy_16 : decode cX6_goBy 16 = .ok (.iload_n 3, 1) := by decide +kernel
theorem dX6_goBy_17 : decode cX6_goBy 17 = .ok (.ifCond .ne 4, 3) := by decide +kernel
theorem dX6_goBy_20 : decode cX6_goBy 20 = .ok (.return_, 1) := by decide +kernel
theorem dX6_goBy_21 : decode cX6_goBy 21 = .ok (.aload_n 0, 1) := by decide +kernel
theorem dX6_goBy_22 : decode cX6_goBy 22 = .ok (.getfield 38, 3) := by decide +kernel
theorem dX6_goBy_25 : decode cX6_goBy 25 = .ok (.iload_n 3, 1) := by decide +kernel
theorem dX6_goBy_26 : decode cX6_goBy 26 = .ok (.invokevirtual 92, 3) := by decide +kernel
theorem dX6_goBy_29 : decode cX6_goBy 29 = .ok (.aload_n 0, 1) := by decide +kernel
theorem dX6_goBy_30 : decode cX6_goBy 30 = .ok (.aload_n 0, 1) := by decide +kernel
theorem dX6_goBy_31 : decode cX6_goBy 31 = .ok (.getfield 38, 3) := by decide +kernel
theorem dX6_goBy_34 : decode cX6_goBy 34 = .ok (.invokevirtual 95, 3) := by decide +kernel
theorem dX6_goBy_37 : decode cX6_goBy 37 = .ok (.aload_n 0, 1) := by decide +kernel
theorem dX6_goBy_38 : decode cX6_goBy 38 = .ok (.getfield 17, 3) := by decide +kernel
theorem dX6_goBy_41 : decode cX6_goBy 41 = .ok (.iload_n 1, 1) := by decide +kernel
theorem dX6_goBy_42 : decode cX6_goBy 42 = .ok (.iaload, 1) := by decide +kernel
theorem dX6_goBy_43 : decode cX6_goBy 43 = .ok (.iload_n 3, 1) := by decide +kernel
theorem dX6_goBy_44 : decode cX6_goBy 44 = .ok (.iadd, 1) := by decide +kernel
theorem dX6_goBy_45 : decode cX6_goBy 45 = .ok (.invokevirtual 56, 3) := by decide +kernel
theorem dX6_goBy_48 : decode cX6_goBy 48 = .ok (.istore 4, 2) := by decide +kernel
theorem dX6_goBy_50 : decode cX6_goBy 50 = .ok (.iload 4, 2) := by decide +kernel
theorem dX6_goBy_52 : decode cX6_goBy 52 = .ok (.ifCond .lt 12, 3) := by decide +kernel
theorem dX6_goBy_55 : decode cX6_goBy 55 = .ok (.aload_n 0, 1) := by decide +kernel
theorem dX6_goBy_56 : decode cX6_goBy 56 = .ok (.getfield 53, 3) := by decide +kernel
theorem dX6_goBy_59 : decode cX6_goBy 59 = .ok (.ldc 30, 2) := by decide +kernel
theorem dX6_goBy_61 : decode cX6_goBy 61 = .ok (.if_icmp .lt 9, 3) := by decide +kernel
theorem dX6_goBy_64 : decode cX6_goBy 64 = .ok (.aload_n 0, 1) := by decide +kernel
theorem dX6_goBy_65 : decode cX6_goBy 65 = .ok (.iconst 1, 1) := by decide +kernel
theorem dX6_goBy_66 : decode cX6_goBy 66 = .ok (.putfield 46, 3) := by decide +kernel
theorem dX6_goBy_69 : decode cX6_goBy 69 = .ok (.return_, 1) := by decide +kernel
theorem dX6_goBy_70 : decode cX6_goBy 70 = .ok (.aload_n 0, 1) := by decide +kernel
theorem dX6_goBy_71 : decode cX6_goBy 71 = .ok (.getfield 31, 3) := by decide +kernel
theorem dX6_goBy_74 : decode cX6_goBy 74 = .ok (.aload_n 0, 1) := by decide +kernel
theorem dX6_goBy_75 : decode cX6_goBy 75 = .ok (.getfield 53, 3) := by decide +kernel
theorem dX6_goBy_78 : decode cX6_goBy 78 = .ok (.iload_n 2, 1) := by decide +kernel
theorem dX6_goBy_79 : decode cX6_goBy 79 = .ok (.invokestatic 99, 3) := by decide +kernel
theorem dX6_goBy_82 : decode cX6_goBy 82 = .ok (.bipush 24, 2) := by decide +kernel
theorem dX6_goBy_84 : decode cX6_goBy 84 = .ok (.ishl, 1) := by decide +kernel
theorem dX6_goBy_85 : decode cX6_goBy 85 = .ok (.iload_n 2, 1) := by decide +kernel
theorem dX6_goBy_86 : decode cX6_goBy 86 = .ok (.bipush 16, 2) := by decide +kernel
theorem dX6_goBy_88 : decode cX6_goBy 88 = .ok (.ishl, 1) := by decide +kernel
theorem dX6_goBy_89 : decode cX6_goBy 89 = .ok (.ior, 1) := by decide +kernel
theorem dX6_goBy_90 : decode cX6_goBy 90 = .ok (.iload_n 3, 1) := by decide +kernel
theorem dX6_goBy_91 : decode cX6_goBy 91 = .ok (.bipush 10, 2) := by decide +kernel
theorem dX6_goBy_93 : decode cX6_goBy 93 = .ok (.ishl, 1) := by decide +kernel
theorem dX6_goBy_94 : decode cX6_goBy 94 = .ok (.ior, 1) := by decide +kernel
theorem dX6_goBy_95 : decode cX6_goBy 95 = .ok (.iload 4, 2) := by decide +kernel
theorem dX6_goBy_97 : decode cX6_goBy 97 = .ok (.ior, 1) := by decide +kernel
theorem dX6_goBy_98 : decode cX6_goBy 98 = .ok (.iastore, 1) := by decide +kernel
theorem dX6_goBy_99 : decode cX6_goBy 99 = .ok (.aload_n 0, 1) := by decide +kernel
theorem dX6_goBy_100 : decode cX6_goBy 100 = .ok (.dup, 1) := by decide +kernel
theorem dX6_goBy_101 : decode cX6_goBy 101 = .ok (.getfield 53, 3) := by decide +kernel
theorem dX6_goBy_104 : decode cX6_goBy 104 = .ok (.iconst 1, 1) := by decide +kernel
theorem dX6_goBy_105 : decode cX6_goBy 105 = .ok (.iadd, 1) := by decide +kernel
theorem dX6_goBy_106 : decode cX6_goBy 106 = .ok (.putfield 53, 3) := by decide +kernel
theorem dX6_goBy_109 : decode cX6_goBy 109 = .ok (.return_, 1) := by decide +kernel
theorem dX6_numberOf_0 : decode cX6_numberOf 0 = .ok (.aload_n 0, 1) := by decide +kernel
theorem dX6_numberOf_1 : decode cX6_numberOf 1 = .ok (.lload_n 1, 1) := by decide +kernel
theorem dX6_numberOf_2 : decode cX6_numberOf 2 = .ok (.invokevirtual 105, 3) := by decide +kernel
theorem dX6_numberOf_5 : decode cX6_numberOf 5 = .ok (.istore 4, 2) := by decide +kernel
theorem dX6_numberOf_7 : decode cX6_numberOf 7 = .ok (.iload 4, 2) := by decide +kernel
theorem dX6_numberOf_9 : decode cX6_numberOf 9 = .ok (.aload_n 0, 1) := by decide +kernel
theorem dX6_numberOf_10 : decode cX6_numberOf 10 = .ok (.getfield 49, 3) := by decide +kernel
theorem dX6_numberOf_13 : decode cX6_numberOf 13 = .ok (.if_icmp .ge 50, 3) := by decide +kernel
theorem dX6_numberOf_16 : decode cX6_numberOf 16 = .ok (.aload_n 0, 1) := by decide +kernel
theorem dX6_numberOf_17 : decode cX6_numberOf 17 = .ok (.getfield 9, 3) := by decide +kernel
theorem dX6_numberOf_20 : decode cX6_numberOf 20 = .ok (.aload_n 0, 1) := by decide +kernel
theorem dX6_numberOf_21 : decode cX6_numberOf 21 = .ok (.getfield 13, 3) := by decide +kernel
theorem dX6_numberOf_24 : decode cX6_numberOf 24 = .ok (.iload 4, 2) := by decide +kernel
theorem dX6_numberOf_26 : decode cX6_numberOf 26 = .ok (.iaload, 1) := by decide +kernel
theorem dX6_numberOf_27 : decode cX6_numberOf 27 = .ok (.laload, 1) := by decide +kernel
theorem dX6_numberOf_28 : decode cX6_numberOf 28 = .ok (.lload_n 1, 1) := by decide +kernel
theorem dX6_numberOf_29 : decode cX6_numberOf 29 = .ok (.lcmp, 1) := by decide +kernel
theorem dX6_numberOf_30 : decode cX6_numberOf 30 = .ok (.ifCond .ne 33, 3) := by decide +kernel
theorem dX6_numberOf_33 : decode cX6_numberOf 33 = .ok (.aload_n 0, 1) := by decide +kernel
theorem dX6_numberOf_34 : decode cX6_numberOf 34 = .ok (.getfield 13, 3) := by decide +kernel
theorem dX6_numberOf_37 : decode cX6_numberOf 37 = .ok (.iload 4, 2) := by decide +kernel
theorem dX6_numberOf_39 : decode cX6_numberOf 39 = .ok (.iaload, 1) := by decide +kernel
theorem dX6_numberOf_40 : decode cX6_numberOf 40 = .ok (.istore 5, 2) := by decide +kernel
theorem dX6_numberOf_42 : decode cX6_numberOf 42 = .ok (.aload_n 0, 1) := by decide +kernel
theorem dX6_numberOf_43 : decode cX6_numberOf 43 = .ok (.getfield 17, 3) := by decide +kernel
theorem dX6_numberOf_46 : decode cX6_numberOf 46 = .ok (.iload 5, 2) := by decide +kernel
theorem dX6_numberOf_48 : decode cX6_numberOf 48 = .ok (.aload_n 0, 1) := by decide +kernel
theorem dX6_numberOf_49 : decode cX6_numberOf 49 = .ok (.getfield 17, 3) := by decide +kernel
theorem dX6_numberOf_52 : decode cX6_numberOf 52 = .ok (.iload 5, 2) := by decide +kernel
theorem dX6_numberOf_54 : decode cX6_numberOf 54 = .ok (.iaload, 1) := by decide +kernel
theorem dX6_numberOf_55 : decode cX6_numberOf 55 = .ok (.iload_n 3, 1) := by decide +kernel
theorem dX6_numberOf_56 : decode cX6_numberOf 56 = .ok (.invokestatic 109, 3) := by decide +kernel
theorem dX6_numberOf_59 : decode cX6_numberOf 59 = .ok (.iastore, 1) := by decide +kernel
theorem dX6_numberOf_60 : decode cX6_numberOf 60 = .ok (.iload 5, 2) := by decide +kernel
theorem dX6_numberOf_62 : decode cX6_numberOf 62 = .ok (.ireturn, 1) := by decide +kernel
theorem dX6_numberOf_63 : decode cX6_numberOf 63 = .ok (.aload_n 0, 1) := by decide +kernel
theorem dX6_numberOf_64 : decode cX6_numberOf 64 = .ok (.getfield 49, 3) := by decide +kernel
theorem dX6_numberOf_67 : decode cX6_numberOf 67 = .ok (.sipush 600, 3) := by decide +kernel
theorem dX6_numberOf_70 : decode cX6_numberOf 70 = .ok (.if_icmp .lt 5, 3) := by decide +kernel
theorem dX6_numberOf_73 : decode cX6_numberOf 73 = .ok (.iconst (-1), 1) := by decide +kernel
theorem dX6_numberOf_74 : decode cX6_numberOf 74 = .ok (.ireturn, 1) := by decide +kernel
theorem dX6_numberOf_75 : decode cX6_numberOf 75 = .ok (.aload_n 0, 1) := by decide +kernel
theorem dX6_numberOf_76 : decode cX6_numberOf 76 = .ok (.getfield 13, 3) := by decide +kernel
theorem dX6_numberOf_79 : decode cX6_numberOf 79 = .ok (.iload 4, 2) := by decide +kernel
theorem dX6_numberOf_81 : decode cX6_numberOf 81 = .ok (.aload_n 0, 1) := by decide +kernel
theorem dX6_numberOf_82 : decode cX6_numberOf 82 = .ok (.getfield 13, 3) := by decide +kernel
theorem dX6_numberOf_85 : decode cX6_numberOf 85 = .ok (.iload 4, 2) := by decide +kernel
theorem dX6_numberOf_87 : decode cX6_numberOf 87 = .ok (.iconst 1, 1) := by decide +kernel
theorem dX6_numberOf_88 : decode cX6_numberOf 88 = .ok (.iadd, 1) := by decide +kernel
theorem dX6_numberOf_89 : decode cX6_numberOf 89 = .ok (.aload_n 0, 1) := by decide +kernel
theorem dX6_numberOf_90 : decode cX6_numberOf 90 = .ok (.getfield 49, 3) := by decide +kernel
theorem dX6_numberOf_93 : decode cX6_numberOf 93 = .ok (.iload 4, 2) := by decide +kernel
theorem dX6_numberOf_95 : decode cX6_numberOf 95 = .ok (.isub, 1) := by decide +kernel
theorem dX6_numberOf_96 : decode cX6_numberOf 96 = .ok (.invokestatic 115, 3) := by decide +kernel
theorem dX6_numberOf_99 : decode cX6_numberOf 99 = .ok (.aload_n 0, 1) := by decide +kernel
theorem dX6_numberOf_100 : decode cX6_numberOf 100 = .ok (.getfield 13, 3) := by decide +kernel
theorem dX6_numberOf_103 : decode cX6_numberOf 103 = .ok (.iload 4, 2) := by decide +kernel
theorem dX6_numberOf_105 : decode cX6_numberOf 105 = .ok (.aload_n 0, 1) := by decide +kernel
theorem dX6_numberOf_106 : decode cX6_numberOf 106 = .ok (.getfield 49, 3) := by decide +kernel
theorem dX6_numberOf_109 : decode cX6_numberOf 109 = .ok (.iastore, 1) := by decide +kernel
theorem dX6_numberOf_110 : decode cX6_numberOf 110 = .ok (.aload_n 0, 1) := by decide +kernel
theorem dX6_numberOf_111 : decode cX6_numberOf 111 = .ok (.getfield 9, 3) := by decide +kernel
theorem dX6_numberOf_114 : decode cX6_numberOf 114 = .ok (.aload_n 0, 1) := by decide +kernel
theorem dX6_numberOf_115 : decode cX6_numberOf 115 = .ok (.getfield 49, 3) := by decide +kernel
theorem dX6_numberOf_118 : decode cX6_numberOf 118 = .ok (.lload_n 1, 1) := by decide +kernel
theorem dX6_numberOf_119 : decode cX6_numberOf 119 = .ok (.lastore, 1) := by decide +kernel
theorem dX6_numberOf_120 : decode cX6_numberOf 120 = .ok (.aload_n 0, 1) := by decide +kernel
theorem dX6_numberOf_121 : decode cX6_numberOf 121 = .ok (.getfield 17, 3) := by decide +kernel
theorem dX6_numberOf_124 : decode cX6_numberOf 124 = .ok (.aload_n 0, 1) := by decide +kernel
theorem dX6_numberOf_125 : decode cX6_numberOf 125 = .ok (.getfield 49, 3) := by decide +kernel
theorem dX6_numberOf_128 : decode cX6_numberOf 128 = .ok (.iload_n 3, 1) := by decide +kernel
theorem dX6_numberOf_129 : decode cX6_numberOf 129 = .ok (.iastore, 1) := by decide +kernel
theorem dX6_numberOf_130 : decode cX6_numberOf 130 = .ok (.aload_n 0, 1) := by decide +kernel
theorem dX6_numberOf_131 : decode cX6_numberOf 131 = .ok (.getfield 20, 3) := by decide +kernel
theorem dX6_numberOf_134 : decode cX6_numberOf 134 = .ok (.aload_n 0, 1) := by decide +kernel
theorem dX6_numberOf_135 : decode cX6_numberOf 135 = .ok (.getfield 49, 3) := by decide +kernel
theorem dX6_numberOf_138 : decode cX6_numberOf 138 = .ok (.iconst 0, 1) := by decide +kernel
theorem dX6_numberOf_139 : decode cX6_numberOf 139 = .ok (.bastore, 1) := by decide +kernel
theorem dX6_numberOf_140 : decode cX6_numberOf 140 = .ok (.aload_n 0, 1) := by decide +kernel
theorem dX6_numberOf_141 : decode cX6_numberOf 141 = .ok (.dup, 1) := by decide +kernel
theorem dX6_numberOf_142 : decode cX6_numberOf 142 = .ok (.getfield 49, 3) := by decide +kernel
theorem dX6_numberOf_145 : decode cX6_numberOf 145 = .ok (.iconst 1, 1) := by decide +kernel
theorem dX6_numberOf_146 : decode cX6_numberOf 146 = .ok (.iadd, 1) := by decide +kernel
theorem dX6_numberOf_147 : decode cX6_numberOf 147 = .ok (.putfield 49, 3) := by decide +kernel
theorem dX6_numberOf_150 : decode cX6_numberOf 150 = .ok (.aload_n 0, 1) := by decide +kernel
theorem dX6_numberOf_151 : decode cX6_numberOf 151 = .ok (.getfield 49, 3) := by decide +kernel
theorem dX6_numberOf_154 : decode cX6_numberOf 154 = .ok (.iconst 1, 1) := by decide +kernel
theorem dX6_numberOf_155 : decode cX6_numberOf 155 = .ok (.isub, 1) := by decide +kernel
theorem dX6_numberOf_156 : decode cX6_numberOf 156 = .ok (.ireturn, 1) := by decide +kernel
theorem dX6_placeOf_0 : decode cX6_placeOf 0 = .ok (.iconst 0, 1) := by decide +kernel
theorem dX6_placeOf_1 : decode cX6_placeOf 1 = .ok (.istore_n 3, 1) := by decide +kernel
theorem dX6_placeOf_2 : decode cX6_placeOf 2 = .ok (.sipush 512, 3) := by decide +kernel
theorem dX6_placeOf_5 : decode cX6_placeOf 5 = .ok (.istore 4, 2) := by decide +kernel
theorem dX6_placeOf_7 : decode cX6_placeOf 7 = .ok (.iload 4, 2) := by decide +kernel
theorem dX6_placeOf_9 : decode cX6_placeOf 9 = .ok (.ifCond .le 49, 3) := by decide +kernel
theorem dX6_placeOf_12 : decode cX6_placeOf 12 = .ok (.iload_n 3, 1) := by decide +kernel
theorem dX6_placeOf_13 : decode cX6_placeOf 13 = .ok (.iload 4, 2) := by decide +kernel
theorem dX6_placeOf_15 : decode cX6_placeOf 15 = .ok (.iadd, 1) := by decide +kernel
theorem dX6_placeOf_16 : decode cX6_placeOf 16 = .ok (.aload_n 0, 1) := by decide +kernel
theorem dX6_placeOf_17 : decode cX6_placeOf 17 = .ok (.getfield 49, 3) := by decide +kernel
theorem dX6_placeOf_20 : decode cX6_placeOf 20 = .ok (.if_icmp .gt 29, 3) := by decide +kernel
theorem dX6_placeOf_23 : decode cX6_placeOf 23 = .ok (.aload_n 0, 1) := by decide +kernel
theorem dX6_placeOf_24 : decode cX6_placeOf 24 = .ok (.getfield 9, 3) := by decide +kernel
theorem dX6_placeOf_27 : decode cX6_placeOf 27 = .ok (.aload_n 0, 1) := by decide +kernel
theorem dX6_placeOf_28 : decode cX6_placeOf 28 = .ok (.getfield 13, 3) := by decide +kernel
theorem dX6_placeOf_31 : decode cX6_placeOf 31 = .ok (.iload_n 3, 1) := by decide +kernel
theorem dX6_placeOf_32 : decode cX6_placeOf 32 = .ok (.iload 4, 2) := by decide +kernel
theorem dX6_placeOf_34 : decode cX6_placeOf 34 = .ok (.iadd, 1) := by decide +kernel
theorem dX6_placeOf_35 : decode cX6_placeOf 35 = .ok (.iconst 1, 1) := by decide +kernel
theorem dX6_placeOf_36 : decode cX6_placeOf 36 = .ok (.isub, 1) := by decide +kernel
theorem dX6_placeOf_37 : decode cX6_placeOf 37 = .ok (.iaload, 1) := by decide +kernel
theorem dX6_placeOf_38 : decode cX6_placeOf 38 = .ok (.laload, 1) := by decide +kernel
theorem dX6_placeOf_39 : decode cX6_placeOf 39 = .ok (.lload_n 1, 1) := by decide +kernel
theorem dX6_placeOf_40 : decode cX6_placeOf 40 = .ok (.lcmp, 1) := by decide +kernel
theorem dX6_placeOf_41 : decode cX6_placeOf 41 = .ok (.ifCond .ge 8, 3) := by decide +kernel
theorem dX6_placeOf_44 : decode cX6_placeOf 44 = .ok (.iload_n 3, 1) := by decide +kernel
theorem dX6_placeOf_45 : decode cX6_placeOf 45 = .ok (.iload 4, 2) := by decide +kernel
theorem dX6_placeOf_47 : decode cX6_placeOf 47 = .ok (.iadd, 1) := by decide +kernel
theorem dX6_placeOf_48 : decode cX6_placeOf 48 = .ok (.istore_n 3, 1) := by decide +kernel
theorem dX6_placeOf_49 : decode cX6_placeOf 49 = .ok (.iload 4, 2) := by decide +kernel
theorem dX6_placeOf_51 : decode cX6_placeOf 51 = .ok (.iconst 2, 1) := by decide +kernel
theorem dX6_placeOf_52 : decode cX6_placeOf 52 = .ok (.idiv, 1) := by decide +kernel
theorem dX6_placeOf_53 : decode cX6_placeOf 53 = .ok (.istore 4, 2) := by decide +kernel
theorem dX6_placeOf_55 : decode cX6_placeOf 55 = .ok (.goto (-48), 3) := by decide +kernel
theorem dX6_placeOf_58 : decode cX6_placeOf 58 = .ok (.iload_n 3, 1) := by decide +kernel
theorem dX6_placeOf_59 : decode cX6_placeOf 59 = .ok (.ireturn, 1) := by decide +kernel
theorem dX6_count_0 : decode cX6_count 0 = .ok (.aload_n 0, 1) := by decide +kernel
theorem dX6_count_1 : decode cX6_count 1 = .ok (.getfield 49, 3) := by decide +kernel
theorem dX6_count_4 : decode cX6_count 4 = .ok (.ireturn, 1) := by decide +kernel
theorem dX6_keyInOrder_0 : decode cX6_keyInOrder 0 = .ok (.aload_n 0, 1) := by decide +kernel
theorem dX6_keyInOrder_1 : decode cX6_keyInOrder 1 = .ok (.getfield 9, 3) := by decide +kernel
theorem dX6_keyInOrder_4 : decode cX6_keyInOrder 4 = .ok (.aload_n 0, 1) := by decide +kernel
theorem dX6_keyInOrder_5 : decode cX6_keyInOrder 5 = .ok (.getfield 13, 3) := by decide +kernel
theorem dX6_keyInOrder_8 : decode cX6_keyInOrder 8 = .ok (.iload_n 1, 1) := by decide +kernel
theorem dX6_keyInOrder_9 : decode cX6_keyInOrder 9 = .ok (.iaload, 1) := by decide +kernel
theorem dX6_keyInOrder_10 : decode cX6_keyInOrder 10 = .ok (.laload, 1) := by decide +kernel
theorem dX6_keyInOrder_11 : decode cX6_keyInOrder 11 = .ok (.lreturn, 1) := by decide +kernel
theorem dX6_earliestOf_0 : decode cX6_earliestOf 0 = .ok (.aload_n 0, 1) := by decide +kernel
theorem dX6_earliestOf_1 : decode cX6_earliestOf 1 = .ok (.getfield 17, 3) := by decide +kernel
theorem dX6_earliestOf_4 : decode cX6_earliestOf 4 = .ok (.iload_n 1, 1) := by decide +kernel
theorem dX6_earliestOf_5 : decode cX6_earliestOf 5 = .ok (.iaload, 1) := by decide +kernel
theorem dX6_earliestOf_6 : decode cX6_earliestOf 6 = .ok (.ireturn, 1) := by decide +kernel
theorem dX6_startOfWays_0 : decode cX6_startOfWays 0 = .ok (.aload_n 0, 1) := by decide +kernel
theorem dX6_startOfWays_1 : decode cX6_startOfWays 1 = .ok (.getfield 24, 3) := by decide +kernel
theorem dX6_startOfWays_4 : decode cX6_startOfWays 4 = .ok (.iload_n 1, 1) := by decide +kernel
theorem dX6_startOfWays_5 : decode cX6_startOfWays 5 = .ok (.iaload, 1) := by decide +kernel
theorem dX6_startOfWays_6 : decode cX6_startOfWays 6 = .ok (.ireturn, 1) := by decide +kernel
theorem dX6_endOfWays_0 : decode cX6_endOfWays 0 = .ok (.aload_n 0, 1) := by decide +kernel
theorem dX6_endOfWays_1 : decode cX6_endOfWays 1 = .ok (.getfield 27, 3) := by decide +kernel
theorem dX6_endOfWays_4 : decode cX6_endOfWays 4 = .ok (.iload_n 1, 1) := by decide +kernel
theorem dX6_endOfWays_5 : decode cX6_endOfWays 5 = .ok (.iaload, 1) := by decide +kernel
theorem dX6_endOfWays_6 : decode cX6_endOfWays 6 = .ok (.ireturn, 1) := by decide +kernel
theorem dX6_way_0 : decode cX6_way 0 = .ok (.aload_n 0, 1) := by decide +kernel
theorem dX6_way_1 : decode cX6_way 1 = .ok (.getfield 31, 3) := by decide +kernel
theorem dX6_way_4 : decode cX6_way 4 = .ok (.iload_n 1, 1) := by decide +kernel
theorem dX6_way_5 : decode cX6_way 5 = .ok (.iaload, 1) := by decide +kernel
theorem dX6_way_6 : decode cX6_way 6 = .ok (.ireturn, 1) := by decide +kernel
theorem dX6_goal_0 : decode cX6_goal 0 = .ok (.iload_n 0, 1) := by decide +kernel
theorem dX6_goal_1 : decode cX6_goal 1 = .ok (.sipush 1023, 3) := by decide +kernel
theorem dX6_goal_4 : decode cX6_goal 4 = .ok (.iand, 1) := by decide +kernel
theorem dX6_goal_5 : decode cX6_goal 5 = .ok (.ireturn, 1) := by decide +kernel
theorem dX6_passing_0 : decode cX6_passing 0 = .ok (.iload_n 0, 1) := by decide +kernel
theorem dX6_passing_1 : decode cX6_passing 1 = .ok (.bipush 10, 2) := by decide +kernel
theorem dX6_passing_3 : decode cX6_passing 3 = .ok (.ishr, 1) := by decide +kernel
theorem dX6_passing_4 : decode cX6_passing 4 = .ok (.bipush 63, 2) := by decide +kernel
theorem dX6_passing_6 : decode cX6_passing 6 = .ok (.iand, 1) := by decide +kernel
theorem dX6_passing_7 : decode cX6_passing 7 = .ok (.ireturn, 1) := by decide +kernel
theorem dX6_handling_0 : decode cX6_handling 0 = .ok (.iload_n 0, 1) := by decide +kernel
theorem dX6_handling_1 : decode cX6_handling 1 = .ok (.bipush 16, 2) := by decide +kernel
theorem dX6_handling_3 : decode cX6_handling 3 = .ok (.ishr, 1) := by decide +kernel
theorem dX6_handling_4 : decode cX6_handling 4 = .ok (.sipush 255, 3) := by decide +kernel
theorem dX6_handling_7 : decode cX6_handling 7 = .ok (.iand, 1) := by decide +kernel
theorem dX6_handling_8 : decode cX6_handling 8 = .ok (.ireturn, 1) := by decide +kernel
theorem dX6_counted_0 : decode cX6_counted 0 = .ok (.iload_n 0, 1) := by decide +kernel
theorem dX6_counted_1 : decode cX6_counted 1 = .ok (.bipush 24, 2) := by decide +kernel
theorem dX6_counted_3 : decode cX6_counted 3 = .ok (.ishr, 1) := by decide +kernel
theorem dX6_counted_4 : decode cX6_counted 4 = .ok (.ireturn, 1) := by decide +kernel
theorem dX7_init_0 : decode cX7_init 0 = .ok (.aload_n 0, 1) := by decide +kernel
theorem dX7_init_1 : decode cX7_init 1 = .ok (.invokespecial 1, 3) := by decide +kernel
theorem dX7_init_4 : decode cX7_init 4 = .ok (.aload_n 0, 1) := by decide +kernel
theorem dX7_init_5 : decode cX7_init 5 = .ok (.bipush 20, 2) := by decide +kernel
theorem dX7_init_7 : decode cX7_init 7 = .ok (.newarray .int, 2) := by decide +kernel
theorem dX7_init_9 : decode cX7_init 9 = .ok (.putfield 9, 3) := by decide +kernel
theorem dX7_init_12 : decode cX7_init 12 = .ok (.return_, 1) := by decide +kernel
theorem dX7_come_0 : decode cX7_come 0 = .ok (.aload_n 0, 1) := by decide +kernel
theorem dX7_come_1 : decode cX7_come 1 = .ok (.iconst 1, 1) := by decide +kernel
theorem dX7_come_2 : decode cX7_come 2 = .ok (.putfield 13, 3) := by decide +kernel
theorem dX7_come_5 : decode cX7_come 5 = .ok (.aload_n 0, 1) := by decide +kernel
theorem dX7_come_6 : decode cX7_come 6 = .ok (.iload_n 1, 1) := by decide +kernel
theorem dX7_come_7 : decode cX7_come 7 = .ok (.putfield 17, 3) := by decide +kernel
theorem dX7_come_10 : decode cX7_come 10 = .ok (.aload_n 0, 1) := by decide +kernel
theorem dX7_come_11 : decode cX7_come 11 = .ok (.iload_n 2, 1) := by decide +kernel
theorem dX7_come_12 : decode cX7_come 12 = .ok (.putfield 21, 3) := by decide +kernel
theorem dX7_come_15 : decode cX7_come 15 = .ok (.aload_n 0, 1) := by decide +kernel
theorem dX7_come_16 : decode cX7_come 16 = .ok (.getfield 9, 3) := by decide +kernel
theorem dX7_come_19 : decode cX7_come 19 = .ok (.iconst 1, 1) := by decide +kernel
theorem dX7_come_20 : decode cX7_come 20 = .ok (.invokestatic 24, 3) := by decide +kernel
theorem dX7_come_23 : decode cX7_come 23 = .ok (.return_, 1) := by decide +kernel
theorem dX7_go_0 : decode cX7_go 0 = .ok (.aload_n 0, 1) := by decide +kernel
theorem dX7_go_1 : decode cX7_go 1 = .ok (.iconst 0, 1) := by decide +kernel
theorem dX7_go_2 : decode cX7_go 2 = .ok (.putfield 13, 3) := by decide +kernel
theorem dX7_go_5 : decode cX7_go 5 = .ok (.aload_n 0, 1) := by decide +kernel
theorem dX7_go_6 : decode cX7_go 6 = .ok (.iconst 0, 1) := by decide +kernel
theorem dX7_go_7 : decode cX7_go 7 = .ok (.putfield 21, 3) := by decide +kernel
theorem dX7_go_10 : decode cX7_go 10 = .ok (.return_, 1) := by decide +kernel
theorem dX7_isMissing_0 : decode cX7_isMissing 0 = .ok (.aload_n 0, 1) := by decide +kernel
theorem dX7_isMissing_1 : decode cX7_isMissing 1 = .ok (.getfield 13, 3) := by decide +kernel
theorem dX7_isMissing_4 : decode cX7_isMissing 4 = .ok (.ifCond .ne 7, 3) := by decide +kernel
theorem dX7_isMissing_7 : decode cX7_isMissing 7 = .ok (.iconst 1, 1) := by decide +kernel
theorem dX7_isMissing_8 : decode cX7_isMissing 8 = .ok (.goto 4, 3) := by decide +kernel
theorem dX7_isMissing_11 : decode cX7_isMissing 11 = .ok (.iconst 0, 1) := by decide +kernel
theorem dX7_isMissing_12 : decode cX7_isMissing 12 = .ok (.ireturn, 1) := by decide +kernel
theorem dX7_has_0 : decode cX7_has 0 = .ok (.iload_n 1, 1) := by decide +kernel
theorem dX7_has_1 : decode cX7_has 1 = .ok (.ifCond .lt 15, 3) := by decide +kernel
theorem dX7_has_4 : decode cX7_has 4 = .ok (.iload_n 1, 1) := by decide +kernel
theorem dX7_has_5 : decode cX7_has 5 = .ok (.aload_n 0, 1) := by decide +kernel
theorem dX7_has_6 : decode cX7_has 6 = .ok (.getfield 21, 3) := by decide +kernel
theorem dX7_has_9 : decode cX7_has 9 = .ok (.if_icmp .ge 7, 3) := by decide +kernel
theorem dX7_has_12 : decode cX7_has 12 = .ok (.iconst 1, 1) := by decide +kernel
theorem dX7_has_13 : decode cX7_has 13 = .ok (.goto 4, 3) := by decide +kernel
theorem dX7_has_16 : decode cX7_has 16 = .ok (.iconst 0, 1) := by decide +kernel
theorem dX7_has_17 : decode cX7_has 17 = .ok (.ireturn, 1) := by decide +kernel
theorem dX7_number_0 : decode cX7_number 0 = .ok (.aload_n 0, 1) := by decide +kernel
theorem dX7_number_1 : decode cX7_number 1 = .ok (.getfield 9, 3) := by decide +kernel
theorem dX7_number_4 : decode cX7_number 4 = .ok (.iload_n 1, 1) := by decide +kernel
theorem dX7_number_5 : decode cX7_number 5 = .ok (.iaload, 1) := by decide +kernel
theorem dX7_number_6 : decode cX7_number 6 = .ok (.ireturn, 1) := by decide +kernel
theorem dX7_change_0 : decode cX7_change 0 = .ok (.aload_n 0, 1) := by decide +kernel
theorem dX7_change_1 : decode cX7_change 1 = .ok (.getfield 9, 3) := by decide +kernel
theorem dX7_change_4 : decode cX7_change 4 = .ok (.iload_n 1, 1) := by decide +kernel
theorem dX7_change_5 : decode cX7_change 5 = .ok (.aload_n 0, 1) := by decide +kernel
theorem dX7_change_6 : decode cX7_change 6 = .ok (.getfield 17, 3) := by decide +kernel
theorem dX7_change_9 : decode cX7_change 9 = .ok (.ifCond .ne 8, 3) := by decide +kernel
theorem dX7_change_12 : decode cX7_change 12 = .ok (.iload_n 2, 1) := by decide +kernel
theorem dX7_change_13 : decode cX7_change 13 = .ok (.i2b, 1) := by decide +kernel
theorem dX7_change_14 : decode cX7_change 14 = .ok (.goto 17, 3) := by decide +kernel
theorem dX7_change_17 : decode cX7_change 17 = .ok (.aload_n 0, 1) := by decide +kernel
theorem dX7_change_18 : decode cX7_change 18 = .ok (.getfield 17, 3) := by decide +kernel
theorem dX7_change_21 : decode cX7_change 21 = .ok (.iconst 1, 1) := by decide +kernel
theorem dX7_change_22 : decode cX7_change 22 = .ok (.if_icmp .ne 8, 3) := by decide +kernel
theorem dX7_change_25 : decode cX7_change 25 = .ok (.iload_n 2, 1) := by decide +kernel
theorem dX7_change_26 : decode cX7_change 26 = .ok (.i2s, 1) := by decide +kernel
theorem dX7_change_27 : decode cX7_change 27 = .ok (.goto 4, 3) := by decide +kernel
theorem dX7_change_30 : decode cX7_change 30 = .ok (.iload_n 2, 1) := by decide +kernel
theorem dX7_change_31 : decode cX7_change 31 = .ok (.iastore, 1) := by decide +kernel
theorem dX7_change_32 : decode cX7_change 32 = .ok (.return_, 1) := by decide +kernel
theorem dX8_init_0 : decode cX8_init 0 = .ok (.aload_n 0, 1) := by decide +kernel
theorem dX8_init_1 : decode cX8_init 1 = .ok (.invokespecial 1, 3) := by decide +kernel
theorem dX8_init_4 : decode cX8_init 4 = .ok (.aload_n 0, 1) := by decide +kernel
theorem dX8_init_5 : decode cX8_init 5 = .ok (.iconst 4, 1) := by decide +kernel
theorem dX8_init_6 : decode cX8_init 6 = .ok (.anewarray 7, 3) := by decide +kernel
theorem dX8_init_9 : decode cX8_init 9 = .ok (.dup, 1) := by decide +kernel
theorem dX8_init_10 : decode cX8_init 10 = .ok (.iconst 0, 1) := by decide +kernel
theorem dX8_init_11 : decode cX8_init 11 = .ok (.new 7, 3) := by decide +kernel
theorem dX8_init_14 : decode cX8_init 14 = .ok (.dup, 1) := by decide +kernel
theorem dX8_init_15 : decode cX8_init 15 = .ok (.invokespecial 9, 3) := by decide +kernel
theorem dX8_init_18 : decode cX8_init 18 = .ok (.aastore, 1) := by decide +kernel
theorem dX8_init_19 : decode cX8_init 19 = .ok (.dup, 1) := by decide +kernel
theorem dX8_init_20 : decode cX8_init 20 = .ok (.iconst 1, 1) := by decide +kernel
theorem dX8_init_21 : decode cX8_init 21 = .ok (.new 7, 3) := by decide +kernel
theorem dX8_init_24 : decode cX8_init 24 = .ok (.dup, 1) := by decide +kernel
theorem dX8_init_25 : decode cX8_init 25 = .ok (.invokespecial 9, 3) := by decide +kernel
theorem dX8_init_28 : decode cX8_init 28 = .ok (.aastore, 1) := by decide +kernel
theorem dX8_init_29 : decode cX8_init 29 = .ok (.dup, 1) := by decide +kernel
theorem dX8_init_30 : decode cX8_init 30 = .ok (.iconst 2, 1) := by decide +kernel
theorem dX8_init_31 : decode cX8_init 31 = .ok (.new 7, 3) := by decide +kernel
theorem dX8_init_34 : decode cX8_init 34 = .ok (.dup, 1) := by decide +kernel
theorem dX8_init_35 : decode cX8_init 35 = .ok (.invokespecial 9, 3) := by decide +kernel
theorem dX8_init_38 : decode cX8_init 38 = .ok (.aastore, 1) := by decide +kernel
theorem dX8_init_39 : decode cX8_init 39 = .ok (.dup, 1) := by decide +kernel
theorem dX8_init_40 : decode cX8_init 40 = .ok (.iconst 3, 1) := by decide +kernel
theorem dX8_init_41 : decode cX8_init 41 = .ok (.new 7, 3) := by decide +kernel
theorem dX8_init_44 : decode cX8_init 44 = .ok (.dup, 1) := by decide +kernel
theorem dX8_init_45 : decode cX8_init 45 = .ok (.invokespecial 9, 3) := by decide +kernel
theorem dX8_init_48 : decode cX8_init 48 = .ok (.aastore, 1) := by decide +kernel
theorem dX8_init_49 : decode cX8_init 49 = .ok (.putfield 10, 3) := by decide +kernel
theorem dX8_init_52 : decode cX8_init 52 = .ok (.aload_n 0, 1) := by decide +kernel
theorem dX8_init_53 : decode cX8_init 53 = .ok (.new 16, 3) := by decide +kernel
theorem dX8_init_56 : decode cX8_init 56 = .ok (.dup, 1) := by decide +kernel
theorem dX8_init_57 : decode cX8_init 57 = .ok (.invokespecial 18, 3) := by decide +kernel
theorem dX8_init_60 : decode cX8_init 60 = .ok (.putfield 19, 3) := by decide +kernel
theorem dX8_init_63 : decode cX8_init 63 = .ok (.aload_n 0, 1) := by decide +kernel
theorem dX8_init_64 : decode cX8_init 64 = .ok (.new 23, 3) := by decide +kernel
theorem dX8_init_67 : decode cX8_init 67 = .ok (.dup, 1) := by decide +kernel
theorem dX8_init_68 : decode cX8_init 68 = .ok (.new 25, 3) := by decide +kernel
theorem dX8_init_71 : decode cX8_init 71 = .ok (.dup, 1) := by decide +kernel
theorem dX8_init_72 : decode cX8_init 72 = .ok (.aload_n 0, 1) := by decide +kernel
theorem dX8_init_73 : decode cX8_init 73 = .ok (.getfield 19, 3) := by decide +kernel
theorem dX8_init_76 : decode cX8_init 76 = .ok (.invokespecial 27, 3) := by decide +kernel
theorem dX8_init_79 : decode cX8_init 79 = .ok (.invokespecial 30, 3) := by decide +kernel
theorem dX8_init_82 : decode cX8_init 82 = .ok (.putfield 33, 3) := by decide +kernel
theorem dX8_init_85 : decode cX8_init 85 = .ok (.aload_n 0, 1) := by decide +kernel
theorem dX8_init_86 : decode cX8_init 86 = .ok (.new 25, 3) := by decide +kernel
theorem dX8_init_89 : decode cX8_init 89 = .ok (.dup, 1) := by decide +kernel
theorem dX8_init_90 : decode cX8_init 90 = .ok (.aload_n 0, 1) := by decide +kernel
theorem dX8_init_91 : decode cX8_init 91 = .ok (.getfield 19, 3) := by decide +kernel
theorem dX8_init_94 : decode cX8_init 94 = .ok (.invokespecial 27, 3) := by decide +kernel
theorem dX8_init_97 : decode cX8_init 97 = .ok (.putfield 37, 3) := by decide +kernel
theorem dX8_init_100 : decode cX8_init 100 = .ok (.aload_n 0, 1) := by decide +kernel
theorem dX8_init_101 : decode cX8_init 101 = .ok (.new 41, 3) := by decide +kernel
theorem dX8_init_104 : decode cX8_init 104 = .ok (.dup, 1) := by decide +kernel
theorem dX8_init_105 : decode cX8_init 105 = .ok (.aload_n 0, 1) := by decide +kernel
theorem dX8_init_106 : decode cX8_init 106 = .ok (.getfield 19, 3) := by decide +kernel
theorem dX8_init_109 : decode cX8_init 109 = .ok (.aload_n 0, 1) := by decide +kernel
theorem dX8_init_110 : decode cX8_init 110 = .ok (.getfield 37, 3) := by decide +kernel
theorem dX8_init_113 : decode cX8_init 113 = .ok (.invokespecial 43, 3) := by decide +kernel
theorem dX8_init_116 : decode cX8_init 116 = .ok (.putfield 46, 3) := by decide +kernel
theorem dX8_init_119 : decode cX8_init 119 = .ok (.aload_n 0, 1) := by decide +kernel
theorem dX8_init_120 : decode cX8_init 120 = .ok (.new 50, 3) := by decide +kernel
theorem dX8_init_123 : decode cX8_init 123 = .ok (.dup, 1) := by decide +kernel
theorem dX8_init_124 : decode cX8_init 124 = .ok (.aload_n 0, 1) := by decide +kernel
theorem dX8_init_125 : decode cX8_init 125 = .ok (.getfield 46, 3) := by decide +kernel
theorem dX8_init_128 : decode cX8_init 128 = .ok (.invokespecial 52, 3) := by decide +kernel
theorem dX8_init_131 : decode cX8_init 131 = .ok (.putfield 55, 3) := by decide +kernel
theorem dX8_init_134 : decode cX8_init 134 = .ok (.aload_n 0, 1) := by decide +kernel
theorem dX8_init_135 : decode cX8_init 135 = .ok (.new 59, 3) := by decide +kernel
theorem dX8_init_138 : decode cX8_init 138 = .ok (.dup, 1) := by decide +kernel
theorem dX8_init_139 : decode cX8_init 139 = .ok (.invokespecial 61, 3) := by decide +kernel
theorem dX8_init_142 : decode cX8_init 142 = .ok (.putfield 62, 3) := by decide +kernel
theorem dX8_init_145 : decode cX8_init 145 = .ok (.return_, 1) := by decide +kernel
theorem dX8_row_0 : decode cX8_row 0 = .ok (.iload_n 1, 1) := by decide +kernel
theorem dX8_row_1 : decode cX8_row 1 = .ok (.invokestatic 66, 3) := by decide +kernel
theorem dX8_row_4 : decode cX8_row 4 = .ok (.ifCond .ne 12, 3) := by decide +kernel
theorem dX8_row_7 : decode cX8_row 7 = .ok (.iload_n 2, 1) := by decide +kernel
theorem dX8_row_8 : decode cX8_row 8 = .ok (.ifCond .lt 8, 3) := by decide +kernel
theorem dX8_row_11 : decode cX8_row 11 = .ok (.iload_n 2, 1) := by decide +kernel
theorem dX8_row_12 : decode cX8_row 12 = .ok (.iconst 2, 1) := by decide +kernel
theorem dX8_row_13 : decode cX8_row 13 = .ok (.if_icmp .le 5, 3) := by decide +kernel
theorem dX8_row_16 : decode cX8_row 16 = .ok (.iconst (-1), 1) := by decide +kernel
theorem dX8_row_17 : decode cX8_row 17 = .ok (.ireturn, 1) := by decide +kernel
theorem dX8_row_18 : decode cX8_row 18 = .ok (.iload_n 3, 1) := by decide +kernel
theorem dX8_row_19 : decode cX8_row 19 = .ok (.ifCond .ge 6, 3) := by decide +kernel
theorem dX8_row_22 : decode cX8_row 22 = .ok (.bipush (-4), 2) := by decide +kernel
theorem dX8_row_24 : decode cX8_row 24 = .ok (.ireturn, 1) := by decide +kernel
theorem dX8_row_25 : decode cX8_row 25 = .ok (.iload_n 3, 1) := by decide +kernel
theorem dX8_row_26 : decode cX8_row 26 = .ok (.bipush 20, 2) := by decide +kernel
theorem dX8_row_28 : decode cX8_row 28 = .ok (.if_icmp .le 5, 3) := by decide +kernel
theorem dX8_row_31 : decode cX8_row 31 = .ok (.iconst (-1), 1) := by decide +kernel
theorem dX8_row_32 : decode cX8_row 32 = .ok (.ireturn, 1) := by decide +kernel
theorem dX8_row_33 : decode cX8_row 33 = .ok (.aload_n 0, 1) := by decide +kernel
theorem dX8_row_34 : decode cX8_row 34 = .ok (.getfield 10, 3) := by decide +kernel
theorem dX8_row_37 : decode cX8_row 37 = .ok (.iload_n 1, 1) := by decide +kernel
theorem dX8_row_38 : decode cX8_row 38 = .ok (.aaload, 1) := by decide +kernel
theorem dX8_row_39 : decode cX8_row 39 = .ok (.iload_n 2, 1) := by decide +kernel
theorem dX8_row_40 : decode cX8_row 40 = .ok (.iload_n 3, 1) := by decide +kernel
theorem dX8_row_41 : decode cX8_row 41 = .ok (.invokevirtual 70, 3) := by decide +kernel
theorem dX8_row_44 : decode cX8_row 44 = .ok (.iconst 1, 1) := by decide +kernel
theorem dX8_row_45 : decode cX8_row 45 = .ok (.ireturn, 1) := by decide +kernel
theorem dX8_cell_0 : decode cX8_cell 0 = .ok (.iload_n 1, 1) := by decide +kernel
theorem dX8_cell_1 : decode cX8_cell 1 = .ok (.invokestatic 66, 3) := by decide +kernel
theorem dX8_cell_4 : decode cX8_cell 4 = .ok (.ifCond .eq 5, 3) := by decide +kernel
theorem dX8_cell_7 : decode cX8_cell 7 = .ok (.iconst (-1), 1) := by decide +kernel
theorem dX8_cell_8 : decode cX8_cell 8 = .ok (.ireturn, 1) := by decide +kernel
theorem dX8_cell_9 : decode cX8_cell 9 = .ok (.aload_n 0, 1) := by decide +kernel
theorem dX8_cell_10 : decode cX8_cell 10 = .ok (.getfield 10, 3) := by decide +kernel
theorem dX8_cell_13 : decode cX8_cell 13 = .ok (.iload_n 1, 1) := by decide +kernel
theorem dX8_cell_14 : decode cX8_cell 14 = .ok (.aaload, 1) := by decide +kernel
theorem dX8_cell_15 : decode cX8_cell 15 = .ok (.invokevirtual 74, 3) := by decide +kernel
theorem dX8_cell_18 : decode cX8_cell 18 = .ok (.ifCond .eq 6, 3) := by decide +kernel
theorem dX8_cell_21 : decode cX8_cell 21 = .ok (.bipush (-3), 2) := by decide +kernel
theorem dX8_cell_23 : decode cX8_cell 23 = .ok (.ireturn, 1) := by decide +kernel
theorem dX8_cell_24 : decode cX8_cell 24 = .ok (.aload_n 0, 1) := by decide +kernel
theorem dX8_cell_25 : decode cX8_cell 25 = .ok (.getfield 10, 3) := by decide +kernel
theorem dX8_cell_28 : decode cX8_cell 28 = .ok (.iload_n 1, 1) := by decide +kernel
theorem dX8_cell_29 : decode cX8_cell 29 = .ok (.aaload, 1) := by decide +kernel
theorem dX8_cell_30 : decode cX8_cell 30 = .ok (.iload_n 2, 1) := by decide +kernel
theorem dX8_cell_31 : decode cX8_cell 31 = .ok (.invokevirtual 78, 3) := by decide +kernel
theorem dX8_cell_34 : decode cX8_cell 34 = .ok (.ifCond .ne 5, 3) := by decide +kernel
theorem dX8_cell_37 : decode cX8_cell 37 = .ok (.iconst (-1), 1) := by decide +kernel
theorem dX8_cell_38 : decode cX8_cell 38 = .ok (.ireturn, 1) := by decide +kernel
theorem dX8_cell_39 : decode cX8_cell 39 = .ok (.aload_n 0, 1) := by decide +kernel
theorem dX8_cell_40 : decode cX8_cell 40 = .ok (.getfield 10, 3) := by decide +kernel
theorem dX8_cell_43 : decode cX8_cell 43 = .ok (.iload_n 1, 1) := by decide +kernel
theorem dX8_cell_44 : decode cX8_cell 44 = .ok (.aaload, 1) := by decide +kernel
theorem dX8_cell_45 : decode cX8_cell 45 = .ok (.iload_n 2, 1) := by decide +kernel
theorem dX8_cell_46 : decode cX8_cell 46 = .ok (.iload_n 3, 1) := by decide +kernel
theorem dX8_cell_47 : decode cX8_cell 47 = .ok (.invokevirtual 81, 3) := by decide +kernel
theorem dX8_cell_50 : decode cX8_cell 50 = .ok (.iconst 1, 1) := by decide +kernel
theorem dX8_cell_51 : decode cX8_cell 51 = .ok (.ireturn, 1) := by decide +kernel
theorem dX8_told_0 : decode cX8_told 0 = .ok (.iload_n 1, 1) := by decide +kernel
theorem dX8_told_1 : decode cX8_told 1 = .ok (.invokestatic 66, 3) := by decide +kernel
theorem dX8_told_4 : decode cX8_told 4 = .ok (.ifCond .ne 16, 3) := by decide +kernel
theorem dX8_told_7 : decode cX8_told 7 = .ok (.aload_n 0, 1) := by decide +kernel
theorem dX8_told_8 : decode cX8_told 8 = .ok (.getfield 10, 3) := by decide +kernel
theorem dX8_told_11 : decode cX8_told 11 = .ok (.iload_n 1, 1) := by decide +kernel
theorem dX8_told_12 : decode cX8_told 12 = .ok (.aaload, 1) := by decide +kernel
theorem dX8_told_13 : decode cX8_told 13 = .ok (.iload_n 2, 1) := by decide +kernel
theorem dX8_told_14 : decode cX8_told 14 = .ok (.invokevirtual 78, 3) := by decide +kernel
theorem dX8_told_17 : decode cX8_told 17 = .ok (.ifCond .ne 6, 3) := by decide +kernel
theorem dX8_told_20 : decode cX8_told 20 = .ok (.ldc 84, 2) := by decide +kernel
theorem dX8_told_22 : decode cX8_told 22 = .ok (.ireturn, 1) := by decide +kernel
theorem dX8_told_23 : decode cX8_told 23 = .ok (.aload_n 0, 1) := by decide +kernel
theorem dX8_told_24 : decode cX8_told 24 = .ok (.getfield 10, 3) := by decide +kernel
theorem dX8_told_27 : decode cX8_told 27 = .ok (.iload_n 1, 1) := by decide +kernel
theorem dX8_told_28 : decode cX8_told 28 = .ok (.aaload, 1) := by decide +kernel
theorem dX8_told_29 : decode cX8_told 29 = .ok (.iload_n 2, 1) := by decide +kernel
theorem dX8_told_30 : decode cX8_told 30 = .ok (.invokevirtual 85, 3) := by decide +kernel
theorem dX8_told_33 : decode cX8_told 33 = .ok (.ireturn, 1) := by decide +kernel
theorem dX8_lose_0 : decode cX8_lose 0 = .ok (.iload_n 1, 1) := by decide +kernel
theorem dX8_lose_1 : decode cX8_lose 1 = .ok (.invokestatic 66, 3) := by decide +kernel
theorem dX8_lose_4 : decode cX8_lose 4 = .ok (.ifCond .eq 5, 3) := by decide +kernel
theorem dX8_lose_7 : decode cX8_lose 7 = .ok (.iconst (-1), 1) := by decide +kernel
theorem dX8_lose_8 : decode cX8_lose 8 = .ok (.ireturn, 1) := by decide +kernel
theorem dX8_lose_9 : decode cX8_lose 9 = .ok (.aload_n 0, 1) := by decide +kernel
theorem dX8_lose_10 : decode cX8_lose 10 = .ok (.getfield 10, 3) := by decide +kernel
theorem dX8_lose_13 : decode cX8_lose 13 = .ok (.iload_n 1, 1) := by decide +kernel
theorem dX8_lose_14 : decode cX8_lose 14 = .ok (.aaload, 1) := by decide +kernel
theorem dX8_lose_15 : decode cX8_lose 15 = .ok (.invokevirtual 74, 3) := by decide +kernel
theorem dX8_lose_18 : decode cX8_lose 18 = .ok (.ifCond .eq 6, 3) := by decide +kernel
theorem dX8_lose_21 : decode cX8_lose 21 = .ok (.bipush (-3), 2) := by decide +kernel
theorem dX8_lose_23 : decode cX8_lose 23 = .ok (.ireturn, 1) := by decide +kernel
theorem dX8_lose_24 : decode cX8_lose 24 = .ok (.aload_n 0, 1) := by decide +kernel
theorem dX8_lose_25 : decode cX8_lose 25 = .ok (.getfield 10, 3) := by decide +kernel
theorem dX8_lose_28 : decode cX8_lose 28 = .ok (.iload_n 1, 1) := by decide +kernel
theorem dX8_lose_29 : decode cX8_lose 29 = .ok (.aaload, 1) := by decide +kernel
theorem dX8_lose_30 : decode cX8_lose 30 = .ok (.invokevirtual 89, 3) := by decide +kernel
theorem dX8_lose_33 : decode cX8_lose 33 = .ok (.iconst 1, 1) := by decide +kernel
theorem dX8_lose_34 : decode cX8_lose 34 = .ok (.ireturn, 1) := by decide +kernel
theorem dX8_glass_0 : decode cX8_glass 0 = .ok (.iload_n 2, 1) := by decide +kernel
theorem dX8_glass_1 : decode cX8_glass 1 = .ok (.invokestatic 66, 3) := by decide +kernel
theorem dX8_glass_4 : decode cX8_glass 4 = .ok (.ifCond .ne 12, 3) := by decide +kernel
theorem dX8_glass_7 : decode cX8_glass 7 = .ok (.iload_n 1, 1) := by decide +kernel
theorem dX8_glass_8 : decode cX8_glass 8 = .ok (.ifCond .lt 8, 3) := by decide +kernel
theorem dX8_glass_11 : decode cX8_glass 11 = .ok (.iload_n 1, 1) := by decide +kernel
theorem dX8_glass_12 : decode cX8_glass 12 = .ok (.iconst 4, 1) := by decide +kernel
theorem dX8_glass_13 : decode cX8_glass 13 = .ok (.if_icmp .le 5, 3) := by decide +kernel
theorem dX8_glass_16 : decode cX8_glass 16 = .ok (.iconst (-1), 1) := by decide +kernel
theorem dX8_glass_17 : decode cX8_glass 17 = .ok (.ireturn, 1) := by decide +kernel
theorem dX8_glass_18 : decode cX8_glass 18 = .ok (.aload_n 0, 1) := by decide +kernel
theorem dX8_glass_19 : decode cX8_glass 19 = .ok (.getfield 10, 3) := by decide +kernel
theorem dX8_glass_22 : decode cX8_glass 22 = .ok (.iload_n 2, 1) := by decide +kernel
theorem dX8_glass_23 : decode cX8_glass 23 = .ok (.aaload, 1) := by decide +kernel
theorem dX8_glass_24 : decode cX8_glass 24 = .ok (.invokevirtual 74, 3) := by decide +kernel
theorem dX8_glass_27 : decode cX8_glass 27 = .ok (.ifCond .eq 6, 3) := by decide +kernel
theorem dX8_glass_30 : decode cX8_glass 30 = .ok (.bipush (-3), 2) := by decide +kernel
theorem dX8_glass_32 : decode cX8_glass 32 = .ok (.ireturn, 1) := by decide +kernel
theorem dX8_glass_33 : decode cX8_glass 33 = .ok (.aload_n 0, 1) := by decide +kernel
theorem dX8_glass_34 : decode cX8_glass 34 = .ok (.iload_n 2, 1) := by decide +kernel
theorem dX8_glass_35 : decode cX8_glass 35 = .ok (.iload_n 3, 1) := by decide +kernel
theorem dX8_glass_36 : decode cX8_glass 36 = .ok (.invokevirtual 92, 3) := by decide +kernel
theorem dX8_glass_39 : decode cX8_glass 39 = .ok (.ifCond .eq 16, 3) := by decide +kernel
theorem dX8_glass_42 : decode cX8_glass 42 = .ok (.aload_n 0, 1) := by decide +kernel
theorem dX8_glass_43 : decode cX8_glass 43 = .ok (.getfield 19, 3) := by decide +kernel
theorem dX8_glass_46 : decode cX8_glass 46 = .ok (.iload_n 1, 1) := by decide +kernel
theorem dX8_glass_47 : decode cX8_glass 47 = .ok (.iload 4, 2) := by decide +kernel
theorem dX8_glass_49 : decode cX8_glass 49 = .ok (.invokevirtual 96, 3) := by decide +kernel
theorem dX8_glass_52 : decode cX8_glass 52 = .ok (.ifCond .ne 5, 3) := by decide +kernel
theorem dX8_glass_55 : decode cX8_glass 55 = .ok (.iconst (-1), 1) := by decide +kernel
theorem dX8_glass_56 : decode cX8_glass 56 = .ok (.ireturn, 1) := by decide +kernel
theorem dX8_glass_57 : decode cX8_glass 57 = .ok (.aload_n 0, 1) := by decide +kernel
theorem dX8_glass_58 : decode cX8_glass 58 = .ok (.getfield 19, 3) := by decide +kernel
theorem dX8_glass_61 : decode cX8_glass 61 = .ok (.invokevirtual 99, 3) := by decide +kernel
theorem dX8_glass_64 : decode cX8_glass 64 = .ok (.ifCond .eq 6, 3) := by decide +kernel
theorem dX8_glass_67 : decode cX8_glass 67 = .ok (.bipush (-2), 2) := by decide +kernel
theorem dX8_glass_69 : decode cX8_glass 69 = .ok (.ireturn, 1) := by decide +kernel
theorem dX8_glass_70 : decode cX8_glass 70 = .ok (.aload_n 0, 1) := by decide +kernel
theorem dX8_glass_71 : decode cX8_glass 71 = .ok (.getfield 19, 3) := by decide +kernel
theorem dX8_glass_74 : decode cX8_glass 74 = .ok (.iload_n 1, 1) := by decide +kernel
theorem dX8_glass_75 : decode cX8_glass 75 = .ok (.aload_n 0, 1) := by decide +kernel
theorem dX8_glass_76 : decode cX8_glass 76 = .ok (.getfield 10, 3) := by decide +kernel
theorem dX8_glass_79 : decode cX8_glass 79 = .ok (.iload_n 2, 1) := by decide +kernel
theorem dX8_glass_80 : decode cX8_glass 80 = .ok (.aaload, 1) := by decide +kernel
theorem dX8_glass_81 : decode cX8_glass 81 = .ok (.iload_n 3, 1) := by decide +kernel
theorem dX8_glass_82 : decode cX8_glass 82 = .ok (.invokevirtual 85, 3) := by decide +kernel
theorem dX8_glass_85 : decode cX8_glass 85 = .ok (.iload 4, 2) := by decide +kernel
theorem dX8_glass_87 : decode cX8_glass 87 = .ok (.invokevirtual 102, 3) := by decide +kernel
theorem dX8_glass_90 : decode cX8_glass 90 = .ok (.istore 5, 2) := by decide +kernel
theorem dX8_glass_92 : decode cX8_glass 92 = .ok (.aload_n 0, 1) := by decide +kernel
theorem dX8_glass_93 : decode cX8_glass 93 = .ok (.invokevirtual 106, 3) := by decide +kernel
theorem dX8_glass_96 : decode cX8_glass 96 = .ok (.iload 5, 2) := by decide +kernel
theorem dX8_glass_98 : decode cX8_glass 98 = .ok (.ireturn, 1) := by decide +kernel
theorem dX8_fill_0 : decode cX8_fill 0 = .ok (.aload_n 0, 1) := by decide +kernel
theorem dX8_fill_1 : decode cX8_fill 1 = .ok (.getfield 19, 3) := by decide +kernel
theorem dX8_fill_4 : decode cX8_fill 4 = .ok (.iload_n 1, 1) := by decide +kernel
theorem dX8_fill_5 : decode cX8_fill 5 = .ok (.invokevirtual 109, 3) := by decide +kernel
theorem dX8_fill_8 : decode cX8_fill 8 = .ok (.ifCond .eq 10, 3) := by decide +kernel
theorem dX8_fill_11 : decode cX8_fill 11 = .ok (.iload_n 2, 1) := by decide +kernel
theorem dX8_fill_12 : decode cX8_fill 12 = .ok (.invokestatic 66, 3) := by decide +kernel
theorem dX8_fill_15 : decode cX8_fill 15 = .ok (.ifCond .eq 5, 3) := by decide +kernel
theorem dX8_fill_18 : decode cX8_fill 18 = .ok (.iconst (-1), 1) := by decide +kernel
theorem dX8_fill_19 : decode cX8_fill 19 = .ok (.ireturn, 1) := by decide +kernel
theorem dX8_fill_20 : decode cX8_fill 20 = .ok (.aload_n 0, 1) := by decide +kernel
theorem dX8_fill_21 : decode cX8_fill 21 = .ok (.getfield 10, 3) := by decide +kernel
theorem dX8_fill_24 : decode cX8_fill 24 = .ok (.iload_n 2, 1) := by decide +kernel
theorem dX8_fill_25 : decode cX8_fill 25 = .ok (.aaload, 1) := by decide +kernel
theorem dX8_fill_26 : decode cX8_fill 26 = .ok (.invokevirtual 74, 3) := by decide +kernel
theorem dX8_fill_29 : decode cX8_fill 29 = .ok (.ifCond .eq 6, 3) := by decide +kernel
theorem dX8_fill_32 : decode cX8_fill 32 = .ok (.bipush (-3), 2) := by decide +kernel
theorem dX8_fill_34 : decode cX8_fill 34 = .ok (.ireturn, 1) := by decide +kernel
theorem dX8_fill_35 : decode cX8_fill 35 = .ok (.aload_n 0, 1) := by decide +kernel
theorem dX8_fill_36 : decode cX8_fill 36 = .ok (.iload_n 2, 1) := by decide +kernel
theorem dX8_fill_37 : decode cX8_fill 37 = .ok (.iload_n 3, 1) := by decide +kernel
theorem dX8_fill_38 : decode cX8_fill 38 = .ok (.invokevirtual 92, 3) := by decide +kernel
theorem dX8_fill_41 : decode cX8_fill 41 = .ok (.ifCond .ne 5, 3) := by decide +kernel
theorem dX8_fill_44 : decode cX8_fill 44 = .ok (.iconst (-1), 1) := by decide +kernel
theorem dX8_fill_45 : decode cX8_fill 45 = .ok (.ireturn, 1) := by decide +kernel
theorem dX8_fill_46 : decode cX8_fill 46 = .ok (.aload_n 0, 1) := by decide +kernel
theorem dX8_fill_47 : decode cX8_fill 47 = .ok (.getfield 19, 3) := by decide +kernel
theorem dX8_fill_50 : decode cX8_fill 50 = .ok (.iload_n 1, 1) := by decide +kernel
theorem dX8_fill_51 : decode cX8_fill 51 = .ok (.aload_n 0, 1) := by decide +kernel
theorem dX8_fill_52 : decode cX8_fill 52 = .ok (.getfield 10, 3) := by decide +kernel
theorem dX8_fill_55 : decode cX8_fill 55 = .ok (.iload_n 2, 1) := by decide +kernel
theorem dX8_fill_56 : decode cX8_fill 56 = .ok (.aaload, 1) := by decide +kernel
theorem dX8_fill_57 : decode cX8_fill 57 = .ok (.iload_n 3, 1) := by decide +kernel
theorem dX8_fill_58 : decode cX8_fill 58 = .ok (.invokevirtual 85, 3) := by decide +kernel
theorem dX8_fill_61 : decode cX8_fill 61 = .ok (.invokevirtual 110, 3) := by decide +kernel
theorem dX8_fill_64 : decode cX8_fill 64 = .ok (.aload_n 0, 1) := by decide +kernel
theorem dX8_fill_65 : decode cX8_fill 65 = .ok (.invokevirtual 106, 3) := by decide +kernel
theorem dX8_fill_68 : decode cX8_fill 68 = .ok (.iconst 1, 1) := by decide +kernel
theorem dX8_fill_69 : decode cX8_fill 69 = .ok (.ireturn, 1) := by decide +kernel
theorem dX8_clear_0 : decode cX8_clear 0 = .ok (.aload_n 0, 1) := by decide +kernel
theorem dX8_clear_1 : decode cX8_clear 1 = .ok (.getfield 19, 3) := by decide +kernel
theorem dX8_clear_4 : decode cX8_clear 4 = .ok (.invokevirtual 113, 3) := by decide +kernel
theorem dX8_clear_7 : decode cX8_clear 7 = .ok (.istore_n 1, 1) := by decide +kernel
theorem dX8_clear_8 : decode cX8_clear 8 = .ok (.aload_n 0, 1) := by decide +kernel
theorem dX8_clear_9 : decode cX8_clear 9 = .ok (.getfield 19, 3) := by decide +kernel
theorem dX8_clear_12 : decode cX8_clear 12 = .ok (.invokevirtual 117, 3) := by decide +kernel
theorem dX8_clear_15 : decode cX8_clear 15 = .ok (.aload_n 0, 1) := by decide +kernel
theorem dX8_clear_16 : decode cX8_clear 16 = .ok (.invokevirtual 106, 3) := by decide +kernel
theorem dX8_clear_19 : decode cX8_clear 19 = .ok (.iload_n 1, 1) := by decide +kernel
theorem dX8_clear_20 : decode cX8_clear 20 = .ok (.ireturn, 1) := by decide +kernel
theorem dX8_of_0 : decode cX8_of 0 = .ok (.aload_n 0, 1) := by decide +kernel
theorem dX8_of_1 : decode cX8_of 1 = .ok (.getfield 19, 3) := by decide +kernel
theorem dX8_of_4 : decode cX8_of 4 = .ok (.iload_n 1, 1) := by decide +kernel
theorem dX8_of_5 : decode cX8_of 5 = .ok (.invokevirtual 109, 3) := by decide +kernel
theorem dX8_of_8 : decode cX8_of 8 = .ok (.ifCond .ne 5, 3) := by decide +kernel
theorem dX8_of_11 : decode cX8_of 11 = .ok (.iconst (-1), 1) := by decide +kernel
theorem dX8_of_12 : decode cX8_of 12 = .ok (.ireturn, 1) := by decide +kernel
theorem dX8_of_13 : decode cX8_of 13 = .ok (.iload_n 2, 1) := by decide +kernel
theorem dX8_of_14 : decode cX8_of 14 = .ok (.tableswitch 77 0 5 #[38, 47, 56, 65, 65, 65], 38) := by decide +kernel
theorem dX8_of_52 : decode cX8_of 52 = .ok (.aload_n 0, 1) := by decide +kernel
theorem dX8_of_53 : decode cX8_of 53 = .ok (.getfield 19, 3) := by decide +kernel
theorem dX8_of_56 : decode cX8_of 56 = .ok (.iload_n 1, 1) := by decide +kernel
theorem dX8_of_57 : decode cX8_of 57 = .ok (.invokevirtual 120, 3) := by decide +kernel
theorem dX8_of_60 : decode cX8_of 60 = .ok (.ireturn, 1) := by decide +kernel
theorem dX8_of_61 : decode cX8_of 61 = .ok (.aload_n 0, 1) := by decide +kernel
theorem dX8_of_62 : decode cX8_of 62 = .ok (.getfield 19, 3) := by decide +kernel
theorem dX8_of_65 : decode cX8_of 65 = .ok (.iload_n 1, 1) := by decide +kernel
theorem dX8_of_66 : decode cX8_of 66 = .ok (.invokevirtual 123, 3) := by decide +kernel
theorem dX8_of_69 : decode cX8_of 69 = .ok (.ireturn, 1) := by decide +kernel
theorem dX8_of_70 : decode cX8_of 70 = .ok (.aload_n 0, 1) := by decide +kernel
theorem dX8_of_71 : decode cX8_of 71 = .ok (.getfield 19, 3) := by decide +kernel
theorem dX8_of_74 : decode cX8_of 74 = .ok (.iload_n 1, 1) := by decide +kernel
theorem dX8_of_75 : decode cX8_of 75 = .ok (.invokevirtual 126, 3) := by decide +kernel
theorem dX8_of_78 : decode cX8_of 78 = .ok (.ireturn, 1) := by decide +kernel
theorem dX8_of_79 : decode cX8_of 79 = .ok (.aload_n 0, 1) := by decide +kernel
theorem dX8_of_80 : decode cX8_of 80 = .ok (.getfield 33, 3) := by decide +kernel
theorem dX8_of_83 : decode cX8_of 83 = .ok (.iload_n 1, 1) := by decide +kernel
theorem dX8_of_84 : decode cX8_of 84 = .ok (.iload_n 2, 1) := by decide +kernel
theorem dX8_of_85 : decode cX8_of 85 = .ok (.iconst 3, 1) := by decide +kernel
theorem dX8_of_86 : decode cX8_of 86 = .ok (.isub, 1) := by decide +kernel
theorem dX8_of_87 : decode cX8_of 87 = .ok (.invokevirtual 129, 3) := by decide +kernel
theorem dX8_of_90 : decode cX8_of 90 = .ok (.ireturn, 1) := by decide +kernel
theorem dX8_of_91 : decode cX8_of 91 = .ok (.iconst (-1), 1) := by decide +kernel
theorem dX8_of_92 : decode cX8_of 92 = .ok (.ireturn, 1) := by decide +kernel
theorem dX8_glasses_0 : decode cX8_glasses 0 = .ok (.aload_n 0, 1) := by decide +kernel
theorem dX8_glasses_1 : decode cX8_glasses 1 = .ok (.getfield 19, 3) := by decide +kernel
theorem dX8_glasses_4 : decode cX8_glasses 4 = .ok (.invokevirtual 113, 3) := by decide +kernel
theorem dX8_glasses_7 : decode cX8_glasses 7 = .ok (.ireturn, 1) := by decide +kernel
theorem dX8_can_0 : decode cX8_can 0 = .ok (.iload_n 1, 1) := by decide +kernel
theorem dX8_can_1 : decode cX8_can 1 = .ok (.invokestatic 133, 3) := by decide +kernel
theorem dX8_can_4 : decode cX8_can 4 = .ok (.ifCond .eq 5, 3) := by decide +kernel
theorem dX8_can_7 : decode cX8_can 7 = .ok (.iconst (-1), 1) := by decide +kernel
theorem dX8_can_8 : decode cX8_can 8 = .ok (.ireturn, 1) := by decide +kernel
theorem dX8_can_9 : decode cX8_can 9 = .ok (.aload_n 0, 1) := by decide +kernel
theorem dX8_can_10 : decode cX8_can 10 = .ok (.getfield 33, 3) := by decide +kernel
theorem dX8_can_13 : decode cX8_can 13 = .ok (.iload_n 1, 1) := by decide +kernel
theorem dX8_can_14 : decode cX8_can 14 = .ok (.invokevirtual 138, 3) := by decide +kernel
theorem dX8_can_17 : decode cX8_can 17 = .ok (.ifCond .eq 7, 3) := by decide +kernel
theorem dX8_can_20 : decode cX8_can 20 = .ok (.iconst 1, 1) := by decide +kernel
theorem dX8_can_21 : decode cX8_can 21 = .ok (.goto 4, 3) := by decide +kernel
theorem dX8_can_24 : decode cX8_can 24 = .ok (.iconst 0, 1) := by decide +kernel
theorem dX8_can_25 : decode cX8_can 25 = .ok (.ireturn, 1) := by decide +kernel
theorem dX8_hand_0 : decode cX8_hand 0 = .ok (.iload_n 1, 1) := by decide +kernel
theorem dX8_hand_1 : decode cX8_hand 1 = .ok (.invokestatic 133, 3) := by decide +kernel
theorem dX8_hand_4 : decode cX8_hand 4 = .ok (.ifCond .eq 5, 3) := by decide +kernel
theorem dX8_hand_7 : decode cX8_hand 7 = .ok (.iconst (-1), 1) := by decide +kernel
theorem dX8_hand_8 : decode cX8_hand 8 = .ok (.ireturn, 1) := by decide +kernel
theorem dX8_hand_9 : decode cX8_hand 9 = .ok (.aload_n 0, 1) := by decide +kernel
theorem dX8_hand_10 : decode cX8_hand 10 = .ok (.getfield 33, 3) := by decide +kernel
theorem dX8_hand_13 : decode cX8_hand 13 = .ok (.invokevirtual 141, 3) := by decide +kernel
theorem dX8_hand_16 : decode cX8_hand 16 = .ok (.ifCond .eq 6, 3) := by decide +kernel
theorem dX8_hand_19 : decode cX8_hand 19 = .ok (.bipush (-5), 2) := by decide +kernel
theorem dX8_hand_21 : decode cX8_hand 21 = .ok (.ireturn, 1) := by decide +kernel
theorem dX8_hand_22 : decode cX8_hand 22 = .ok (.aload_n 0, 1) := by decide +kernel
theorem dX8_hand_23 : decode cX8_hand 23 = .ok (.getfield 33, 3) := by decide +kernel
theorem dX8_hand_26 : decode cX8_hand 26 = .ok (.iload_n 1, 1) := by decide +kernel
theorem dX8_hand_27 : decode cX8_hand 27 = .ok (.invokevirtual 138, 3) := by decide +kernel
theorem dX8_hand_30 : decode cX8_hand 30 = .ok (.ifCond .ne 6, 3) := by decide +kernel
theorem dX8_hand_33 : decode cX8_hand 33 = .ok (.bipush (-6), 2) := by decide +kernel
theorem dX8_hand_35 : decode cX8_hand 35 = .ok (.ireturn, 1) := by decide +kernel
theorem dX8_hand_36 : decode cX8_hand 36 = .ok (.aload_n 0, 1) := by decide +kernel
theorem dX8_hand_37 : decode cX8_hand 37 = .ok (.getfield 33, 3) := by decide +kernel
theorem dX8_hand_40 : decode cX8_hand 40 = .ok (.iload_n 1, 1) := by decide +kernel
theorem dX8_hand_41 : decode cX8_hand 41 = .ok (.invokevirtual 144, 3) := by decide +kernel
theorem dX8_hand_44 : decode cX8_hand 44 = .ok (.iload_n 1, 1) := by decide +kernel
theorem dX8_hand_45 : decode cX8_hand 45 = .ok (.invokestatic 148, 3) := by decide +kernel
theorem dX8_hand_48 : decode cX8_hand 48 = .ok (.ireturn, 1) := by decide +kernel
theorem dX8_next_0 : decode cX8_next 0 = .ok (.aload_n 0, 1) := by decide +kernel
theorem dX8_next_1 : decode cX8_next 1 = .ok (.getfield 33, 3) := by decide +kernel
theorem dX8_next_4 : decode cX8_next 4 = .ok (.invokevirtual 151, 3) := by decide +kernel
theorem dX8_next_7 : decode cX8_next 7 = .ok (.ireturn, 1) := by decide +kernel
theorem dX8_undo_0 : decode cX8_undo 0 = .ok (.aload_n 0, 1) := by decide +kernel
theorem dX8_undo_1 : decode cX8_undo 1 = .ok (.getfield 33, 3) := by decide +kernel
theorem dX8_undo_4 : decode cX8_undo 4 = .ok (.invokevirtual 154, 3) := by decide +kernel
theorem dX8_undo_7 : decode cX8_undo 7 = .ok (.ireturn, 1) := by decide +kernel
theorem dX8_begin_0 : decode cX8_begin 0 = .ok (.aload_n 0, 1) := by decide +kernel
theorem dX8_begin_1 : decode cX8_begin 1 = .ok (.getfield 33, 3) := by decide +kernel
theorem dX8_begin_4 : decode cX8_begin 4 = .ok (.invokevirtual 157, 3) := by decide +kernel
theorem dX8_begin_7 : decode cX8_begin 7 = .ok (.iconst 1, 1) := by decide +kernel
theorem dX8_begin_8 : decode cX8_begin 8 = .ok (.ireturn, 1) := by decide +kernel
theorem dX8_moment_0 : decode cX8_moment 0 = .ok (.aload_n 0, 1) := by decide +kernel
theorem dX8_moment_1 : decode cX8_moment 1 = .ok (.getfield 33, 3) := by decide +kernel
theorem dX8_moment_4 : decode cX8_moment 4 = .ok (.invokevirtual 160, 3) := by decide +kernel
theorem dX8_moment_7 : decode cX8_moment 7 = .ok (.ireturn, 1) := by decide +kernel
theorem dX8_event_0 : decode cX8_event 0 = .ok (.aload_n 0, 1) := by decide +kernel
theorem dX8_event_1 : decode cX8_event 1 = .ok (.getfield 33, 3) := by decide +kernel
theorem dX8_event_4 : decode cX8_event 4 = .ok (.iload_n 1, 1) := by decide +kernel
theorem dX8_event_5 : decode cX8_event 5 = .ok (.invokevirtual 163, 3) := by decide +kernel
theorem dX8_event_8 : decode cX8_event 8 = .ok (.ireturn, 1) := by decide +kernel
theorem dX8_reach_0 : decode cX8_reach 0 = .ok (.aload_n 0, 1) := by decide +kernel
theorem dX8_reach_1 : decode cX8_reach 1 = .ok (.getfield 46, 3) := by decide +kernel
theorem dX8_reach_4 : decode cX8_reach 4 = .ok (.invokevirtual 166, 3) := by decide +kernel
theorem dX8_reach_7 : decode cX8_reach 7 = .ok (.ifCond .eq 8, 3) := by decide +kernel
theorem dX8_reach_10 : decode cX8_reach 10 = .ok (.bipush (-8), 2) := by decide +kernel
theorem dX8_reach_12 : decode cX8_reach 12 = .ok (.goto 10, 3) := by decide +kernel
theorem dX8_reach_15 : decode cX8_reach 15 = .ok (.aload_n 0, 1) := by decide +kernel
theorem dX8_reach_16 : decode cX8_reach 16 = .ok (.getfield 46, 3) := by decide +kernel
theorem dX8_reach_19 : decode cX8_reach 19 = .ok (.invokevirtual 169, 3) := by decide +kernel
theorem dX8_reach_22 : decode cX8_reach 22 = .ok (.ireturn, 1) := by decide +kernel
theorem dX8_config_0 : decode cX8_config 0 = .ok (.aload_n 0, 1) := by decide +kernel
theorem dX8_config_1 : decode cX8_config 1 = .ok (.getfield 19, 3) := by decide +kernel
theorem dX8_config_4 : decode cX8_config 4 = .ok (.iload_n 2, 1) := by decide +kernel
theorem dX8_config_5 : decode cX8_config 5 = .ok (.invokevirtual 109, 3) := by decide +kernel
theorem dX8_config_8 : decode cX8_config 8 = .ok (.ifCond .eq 12, 3) := by decide +kernel
theorem dX8_config_11 : decode cX8_config 11 = .ok (.iload_n 3, 1) := by decide +kernel
theorem dX8_config_12 : decode cX8_config 12 = .ok (.ifCond .lt 8, 3) := by decide +kernel
theorem dX8_config_15 : decode cX8_config 15 = .ok (.iload_n 3, 1) := by decide +kernel
theorem dX8_config_16 : decode cX8_config 16 = .ok (.iconst 2, 1) := by decide +kernel
theorem dX8_config_17 : decode cX8_config 17 = .ok (.if_icmp .le 5, 3) := by decide +kernel
theorem dX8_config_20 : decode cX8_config 20 = .ok (.iconst (-1), 1) := by decide +kernel
theorem dX8_config_21 : decode cX8_config 21 = .ok (.ireturn, 1) := by decide +kernel
theorem dX8_config_22 : decode cX8_config 22 = .ok (.aload_n 0, 1) := by decide +kernel
theorem dX8_config_23 : decode cX8_config 23 = .ok (.getfield 46, 3) := by decide +kernel
theorem dX8_config_26 : decode cX8_config 26 = .ok (.invokevirtual 166, 3) := by decide +kernel
theorem dX8_config_29 : decode cX8_config 29 = .ok (.ifCond .ne 18, 3) := by decide +kernel
theorem dX8_config_32 : decode cX8_config 32 = .ok (.iload_n 1, 1) := by decide +kernel
theorem dX8_config_33 : decode cX8_config 33 = .ok (.ifCond .lt 14, 3) := by decide +kernel
theorem dX8_config_36 : decode cX8_config 36 = .ok (.iload_n 1, 1) := by decide +kernel
theorem dX8_config_37 : decode cX8_config 37 = .ok (.aload_n 0, 1) := by decide +kernel
theorem dX8_config_38 : decode cX8_config 38 = .ok (.getfield 46, 3) := by decide +kernel
theorem dX8_config_41 : decode cX8_config 41 = .ok (.invokevirtual 169, 3) := by decide +kernel
theorem dX8_config_44 : decode cX8_config 44 = .ok (.if_icmp .lt 5, 3) := by decide +kernel
theorem dX8_config_47 : decode cX8_config 47 = .ok (.iconst (-1), 1) := by decide +kernel
theorem dX8_config_48 : decode cX8_config 48 = .ok (.ireturn, 1) := by decide +kernel
theorem dX8_config_49 : decode cX8_config 49 = .ok (.aload_n 0, 1) := by decide +kernel
theorem dX8_config_50 : decode cX8_config 50 = .ok (.getfield 37, 3) := by decide +kernel
theorem dX8_config_53 : decode cX8_config 53 = .ok (.aload_n 0, 1) := by decide +kernel
theorem dX8_config_54 : decode cX8_config 54 = .ok (.getfield 46, 3) := by decide +kernel
theorem dX8_config_57 : decode cX8_config 57 = .ok (.iload_n 1, 1) := by decide +kernel
theorem dX8_config_58 : decode cX8_config 58 = .ok (.invokevirtual 170, 3) := by decide +kernel
theorem dX8_config_61 : decode cX8_config 61 = .ok (.invokevirtual 174, 3) := by decide +kernel
theorem dX8_config_64 : decode cX8_config 64 = .ok (.aload_n 0, 1) := by decide +kernel
theorem dX8_config_65 : decode cX8_config 65 = .ok (.getfield 37, 3) := by decide +kernel
theorem dX8_config_68 : decode cX8_config 68 = .ok (.iload_n 2, 1) := by decide +kernel
theorem dX8_config_69 : decode cX8_config 69 = .ok (.iload_n 3, 1) := by decide +kernel
theorem dX8_config_70 : decode cX8_config 70 = .ok (.invokevirtual 178, 3) := by decide +kernel
theorem dX8_config_73 : decode cX8_config 73 = .ok (.ireturn, 1) := by decide +kernel
theorem dX8_pure_0 : decode cX8_pure 0 = .ok (.aload_n 0, 1) := by decide +kernel
theorem dX8_pure_1 : decode cX8_pure 1 = .ok (.iload_n 1, 1) := by decide +kernel
theorem dX8_pure_2 : decode cX8_pure 2 = .ok (.invokevirtual 179, 3) := by decide +kernel
theorem dX8_pure_5 : decode cX8_pure 5 = .ok (.istore_n 2, 1) := by decide +kernel
theorem dX8_pure_6 : decode cX8_pure 6 = .ok (.iload_n 2, 1) := by decide +kernel
theorem dX8_pure_7 : decode cX8_pure 7 = .ok (.ifCond .eq 5, 3) := by decide +kernel
theorem dX8_pure_10 : decode cX8_pure 10 = .ok (.iload_n 2, 1) := by decide +kernel
theorem dX8_pure_11 : decode cX8_pure 11 = .ok (.ireturn, 1) := by decide +kernel
theorem dX8_pure_12 : decode cX8_pure 12 = .ok (.aload_n 0, 1) := by decide +kernel
theorem dX8_pure_13 : decode cX8_pure 13 = .ok (.getfield 55, 3) := by decide +kernel
theorem dX8_pure_16 : decode cX8_pure 16 = .ok (.iload_n 1, 1) := by decide +kernel
theorem dX8_pure_17 : decode cX8_pure 17 = .ok (.invokevirtual 182, 3) := by decide +kernel
theorem dX8_pure_20 : decode cX8_pure 20 = .ok (.ifCond .eq 7, 3) := by decide +kernel
theorem dX8_pure_23 : decode cX8_pure 23 = .ok (.iconst 1, 1) := by decide +kernel
theorem dX8_pure_24 : decode cX8_pure 24 = .ok (.goto 4, 3) := by decide +kernel
theorem dX8_pure_27 : decode cX8_pure 27 = .ok (.iconst 0, 1) := by decide +kernel
theorem dX8_pure_28 : decode cX8_pure 28 = .ok (.ireturn, 1) := by decide +kernel
theorem dX8_spans_0 : decode cX8_spans 0 = .ok (.aload_n 0, 1) := by decide +kernel
theorem dX8_spans_1 : decode cX8_spans 1 = .ok (.iload_n 1, 1) := by decide +kernel
theorem dX8_spans_2 : decode cX8_spans 2 = .ok (.invokevirtual 179, 3) := by decide +kernel
theorem dX8_spans_5 : decode cX8_spans 5 = .ok (.istore_n 2, 1) := by decide +kernel
theorem dX8_spans_6 : decode cX8_spans 6 = .ok (.iload_n 2, 1) := by decide +kernel
theorem dX8_spans_7 : decode cX8_spans 7 = .ok (.ifCond .eq 7, 3) := by decide +kernel
theorem dX8_spans_10 : decode cX8_spans 10 = .ok (.iload_n 2, 1) := by decide +kernel
theorem dX8_spans_11 : decode cX8_spans 11 = .ok (.goto 11, 3) := by decide +kernel
theorem dX8_spans_14 : decode cX8_spans 14 = .ok (.aload_n 0, 1) := by decide +kernel
theorem dX8_spans_15 : decode cX8_spans 15 = .ok (.getfield 55, 3) := by decide +kernel
theorem dX8_spans_18 : decode cX8_spans 18 = .ok (.iload_n 1, 1) := by decide +kernel
theorem dX8_spans_19 : decode cX8_spans 19 = .ok (.invokevirtual 185, 3) := by decide +kernel
theorem dX8_spans_22 : decode cX8_spans 22 = .ok (.ireturn, 1) := by decide +kernel
theorem dX8_fewest_0 : decode cX8_fewest 0 = .ok (.aload_n 0, 1) := by decide +kernel
theorem dX8_fewest_1 : decode cX8_fewest 1 = .ok (.iload_n 1, 1) := by decide +kernel
theorem dX8_fewest_2 : decode cX8_fewest 2 = .ok (.invokevirtual 179, 3) := by decide +kernel
theorem dX8_fewest_5 : decode cX8_fewest 5 = .ok (.istore_n 2, 1) := by decide +kernel
theorem dX8_fewest_6 : decode cX8_fewest 6 = .ok (.iload_n 2, 1) := by decide +kernel
theorem dX8_fewest_7 : decode cX8_fewest 7 = .ok (.ifCond .eq 5, 3) := by decide +kernel
theorem dX8_fewest_10 : decode cX8_fewest 10 = .ok (.iload_n 2, 1) := by decide +kernel
theorem dX8_fewest_11 : decode cX8_fewest 11 = .ok (.ireturn, 1) := by decide +kernel
theorem dX8_fewest_12 : decode cX8_fewest 12 = .ok (.aload_n 0, 1) := by decide +kernel
theorem dX8_fewest_13 : decode cX8_fewest 13 = .ok (.getfield 55, 3) := by decide +kernel
theorem dX8_fewest_16 : decode cX8_fewest 16 = .ok (.iload_n 1, 1) := by decide +kernel
theorem dX8_fewest_17 : decode cX8_fewest 17 = .ok (.invokevirtual 182, 3) := by decide +kernel
theorem dX8_fewest_20 : decode cX8_fewest 20 = .ok (.ifCond .eq 14, 3) := by decide +kernel
theorem dX8_fewest_23 : decode cX8_fewest 23 = .ok (.aload_n 0, 1) := by decide +kernel
theorem dX8_fewest_24 : decode cX8_fewest 24 = .ok (.getfield 55, 3) := by decide +kernel
theorem dX8_fewest_27 : decode cX8_fewest 27 = .ok (.iload_n 1, 1) := by decide +kernel
theorem dX8_fewest_28 : decode cX8_fewest 28 = .ok (.invokevirtual 188, 3) := by decide +kernel
theorem dX8_fewest_31 : decode cX8_fewest 31 = .ok (.goto 5, 3) := by decide +kernel
theorem dX8_fewest_34 : decode cX8_fewest 34 = .ok (.bipush (-7), 2) := by decide +kernel
theorem dX8_fewest_36 : decode cX8_fewest 36 = .ok (.ireturn, 1) := by decide +kernel
theorem dX8_plan_0 : decode cX8_plan 0 = .ok (.aload_n 0, 1) := by decide +kernel
theorem dX8_plan_1 : decode cX8_plan 1 = .ok (.iload_n 1, 1) := by decide +kernel
theorem dX8_plan_2 : decode cX8_plan 2 = .ok (.invokevirtual 179, 3) := by decide +kernel
theorem dX8_plan_5 : decode cX8_plan 5 = .ok (.ifCond .ne 14, 3) := by decide +kernel
theorem dX8_plan_8 : decode cX8_plan 8 = .ok (.aload_n 0, 1) := by decide +kernel
theorem dX8_plan_9 : decode cX8_plan 9 = .ok (.getfield 55, 3) := by decide +kernel
theorem dX8_plan_12 : decode cX8_plan 12 = .ok (.iload_n 1, 1) := by decide +kernel
theorem dX8_plan_13 : decode cX8_plan 13 = .ok (.invokevirtual 182, 3) := by decide +kernel
theorem dX8_plan_16 : decode cX8_plan 16 = .ok (.ifCond .ne 5, 3) := by decide +kernel
theorem dX8_plan_19 : decode cX8_plan 19 = .ok (.iconst (-1), 1) := by decide +kernel
theorem dX8_plan_20 : decode cX8_plan 20 = .ok (.ireturn, 1) := by decide +kernel
theorem dX8_plan_21 : decode cX8_plan 21 = .ok (.aload_n 0, 1) := by decide +kernel
theorem dX8_plan_22 : decode cX8_plan 22 = .ok (.getfield 55, 3) := by decide +kernel
theorem dX8_plan_25 : decode cX8_plan 25 = .ok (.iload_n 1, 1) := by decide +kernel
theorem dX8_plan_26 : decode cX8_plan 26 = .ok (.invokevirtual 191, 3) := by decide +kernel
theorem dX8_plan_29 : decode cX8_plan 29 = .ok (.iload_n 2, 1) := by decide +kernel
theorem dX8_plan_30 : decode cX8_plan 30 = .ok (.ifCond .lt 25, 3) := by decide +kernel
theorem dX8_plan_33 : decode cX8_plan 33 = .ok (.iload_n 2, 1) := by decide +kernel
theorem dX8_plan_34 : decode cX8_plan 34 = .ok (.aload_n 0, 1) := by decide +kernel
theorem dX8_plan_35 : decode cX8_plan 35 = .ok (.getfield 55, 3) := by decide +kernel
theorem dX8_plan_38 : decode cX8_plan 38 = .ok (.invokevirtual 194, 3) := by decide +kernel
theorem dX8_plan_41 : decode cX8_plan 41 = .ok (.if_icmp .ge 14, 3) := by decide +kernel
theorem dX8_plan_44 : decode cX8_plan 44 = .ok (.aload_n 0, 1) := by decide +kernel
theorem dX8_plan_45 : decode cX8_plan 45 = .ok (.getfield 55, 3) := by decide +kernel
theorem dX8_plan_48 : decode cX8_plan 48 = .ok (.iload_n 2, 1) := by decide +kernel
theorem dX8_plan_49 : decode cX8_plan 49 = .ok (.invokevirtual 197, 3) := by decide +kernel
theorem dX8_plan_52 : decode cX8_plan 52 = .ok (.goto 4, 3) := by decide +kernel
theorem dX8_plan_55 : decode cX8_plan 55 = .ok (.iconst (-1), 1) := by decide +kernel
theorem dX8_plan_56 : decode cX8_plan 56 = .ok (.ireturn, 1) := by decide +kernel
theorem dX8_soonest_0 : decode cX8_soonest 0 = .ok (.aload_n 0, 1) := by decide +kernel
theorem dX8_soonest_1 : decode cX8_soonest 1 = .ok (.iload_n 1, 1) := by decide +kernel
theorem dX8_soonest_2 : decode cX8_soonest 2 = .ok (.invokevirtual 179, 3) := by decide +kernel
theorem dX8_soonest_5 : decode cX8_soonest 5 = .ok (.istore_n 2, 1) := by decide +kernel
theorem dX8_soonest_6 : decode cX8_soonest 6 = .ok (.iload_n 2, 1) := by decide +kernel
theorem dX8_soonest_7 : decode cX8_soonest 7 = .ok (.ifCond .eq 7, 3) := by decide +kernel
theorem dX8_soonest_10 : decode cX8_soonest 10 = .ok (.iload_n 2, 1) := by decide +kernel
theorem dX8_soonest_11 : decode cX8_soonest 11 = .ok (.goto 11, 3) := by decide +kernel
theorem dX8_soonest_14 : decode cX8_soonest 14 = .ok (.aload_n 0, 1) := by decide +kernel
theorem dX8_soonest_15 : decode cX8_soonest 15 = .ok (.getfield 55, 3) := by decide +kernel
theorem dX8_soonest_18 : decode cX8_soonest 18 = .ok (.iload_n 1, 1) := by decide +kernel
theorem dX8_soonest_19 : decode cX8_soonest 19 = .ok (.invokevirtual 200, 3) := by decide +kernel
theorem dX8_soonest_22 : decode cX8_soonest 22 = .ok (.ireturn, 1) := by decide +kernel
theorem dX8_claim_0 : decode cX8_claim 0 = .ok (.iload_n 1, 1) := by decide +kernel
theorem dX8_claim_1 : decode cX8_claim 1 = .ok (.invokestatic 133, 3) := by decide +kernel
theorem dX8_claim_4 : decode cX8_claim 4 = .ok (.ifCond .eq 5, 3) := by decide +kernel
theorem dX8_claim_7 : decode cX8_claim 7 = .ok (.iconst (-1), 1) := by decide +kernel
theorem dX8_claim_8 : decode cX8_claim 8 = .ok (.ireturn, 1) := by decide +kernel
theorem dX8_claim_9 : decode cX8_claim 9 = .ok (.aload_n 0, 1) := by decide +kernel
theorem dX8_claim_10 : decode cX8_claim 10 = .ok (.getfield 62, 3) := by decide +kernel
theorem dX8_claim_13 : decode cX8_claim 13 = .ok (.invokevirtual 203, 3) := by decide +kernel
theorem dX8_claim_16 : decode cX8_claim 16 = .ok (.ifCond .eq 6, 3) := by decide +kernel
theorem dX8_claim_19 : decode cX8_claim 19 = .ok (.bipush (-2), 2) := by decide +kernel
theorem dX8_claim_21 : decode cX8_claim 21 = .ok (.ireturn, 1) := by decide +kernel
theorem dX8_claim_22 : decode cX8_claim 22 = .ok (.aload_n 0, 1) := by decide +kernel
theorem dX8_claim_23 : decode cX8_claim 23 = .ok (.getfield 62, 3) := by decide +kernel
theorem dX8_claim_26 : decode cX8_claim 26 = .ok (.iload_n 1, 1) := by decide +kernel
theorem dX8_claim_27 : decode cX8_claim 27 = .ok (.invokevirtual 204, 3) := by decide +kernel
theorem dX8_claim_30 : decode cX8_claim 30 = .ok (.aload_n 0, 1) := by decide +kernel
theorem dX8_claim_31 : decode cX8_claim 31 = .ok (.getfield 62, 3) := by decide +kernel
theorem dX8_claim_34 : decode cX8_claim 34 = .ok (.invokevirtual 206, 3) := by decide +kernel
theorem dX8_claim_37 : decode cX8_claim 37 = .ok (.ireturn, 1) := by decide +kernel
theorem dX8_copy_0 : decode cX8_copy 0 = .ok (.aload_n 0, 1) := by decide +kernel
theorem dX8_copy_1 : decode cX8_copy 1 = .ok (.iload_n 1, 1) := by decide +kernel
theorem dX8_copy_2 : decode cX8_copy 2 = .ok (.invokevirtual 179, 3) := by decide +kernel
theorem dX8_copy_5 : decode cX8_copy 5 = .ok (.istore_n 2, 1) := by decide +kernel
theorem dX8_copy_6 : decode cX8_copy 6 = .ok (.iload_n 2, 1) := by decide +kernel
theorem dX8_copy_7 : decode cX8_copy 7 = .ok (.ifCond .eq 5, 3) := by decide +kernel
theorem dX8_copy_10 : decode cX8_copy 10 = .ok (.iload_n 2, 1) := by decide +kernel
theorem dX8_copy_11 : decode cX8_copy 11 = .ok (.ireturn, 1) := by decide +kernel
theorem dX8_copy_12 : decode cX8_copy 12 = .ok (.aload_n 0, 1) := by decide +kernel
theorem dX8_copy_13 : decode cX8_copy 13 = .ok (.getfield 55, 3) := by decide +kernel
theorem dX8_copy_16 : decode cX8_copy 16 = .ok (.iload_n 1, 1) := by decide +kernel
theorem dX8_copy_17 : decode cX8_copy 17 = .ok (.invokevirtual 182, 3) := by decide +kernel
theorem dX8_copy_20 : decode cX8_copy 20 = .ok (.ifCond .ne 6, 3) := by decide +kernel
theorem dX8_copy_23 : decode cX8_copy 23 = .ok (.bipush (-7), 2) := by decide +kernel
theorem dX8_copy_25 : decode cX8_copy 25 = .ok (.ireturn, 1) := by decide +kernel
theorem dX8_copy_26 : decode cX8_copy 26 = .ok (.aload_n 0, 1) := by decide +kernel
theorem dX8_copy_27 : decode cX8_copy 27 = .ok (.getfield 55, 3) := by decide +kernel
theorem dX8_copy_30 : decode cX8_copy 30 = .ok (.iload_n 1, 1) := by decide +kernel
theorem dX8_copy_31 : decode cX8_copy 31 = .ok (.invokevirtual 191, 3) := by decide +kernel
theorem dX8_copy_34 : decode cX8_copy 34 = .ok (.aload_n 0, 1) := by decide +kernel
theorem dX8_copy_35 : decode cX8_copy 35 = .ok (.getfield 62, 3) := by decide +kernel
theorem dX8_copy_38 : decode cX8_copy 38 = .ok (.invokevirtual 207, 3) := by decide +kernel
theorem dX8_copy_41 : decode cX8_copy 41 = .ok (.iconst 0, 1) := by decide +kernel
theorem dX8_copy_42 : decode cX8_copy 42 = .ok (.istore_n 3, 1) := by decide +kernel
theorem dX8_copy_43 : decode cX8_copy 43 = .ok (.iload_n 3, 1) := by decide +kernel
theorem dX8_copy_44 : decode cX8_copy 44 = .ok (.aload_n 0, 1) := by decide +kernel
theorem dX8_copy_45 : decode cX8_copy 45 = .ok (.getfield 55, 3) := by decide +kernel
theorem dX8_copy_48 : decode cX8_copy 48 = .ok (.invokevirtual 194, 3) := by decide +kernel
theorem dX8_copy_51 : decode cX8_copy 51 = .ok (.if_icmp .ge 24, 3) := by decide +kernel
theorem dX8_copy_54 : decode cX8_copy 54 = .ok (.aload_n 0, 1) := by decide +kernel
theorem dX8_copy_55 : decode cX8_copy 55 = .ok (.getfield 62, 3) := by decide +kernel
theorem dX8_copy_58 : decode cX8_copy 58 = .ok (.aload_n 0, 1) := by decide +kernel
theorem dX8_copy_59 : decode cX8_copy 59 = .ok (.getfield 55, 3) := by decide +kernel
theorem dX8_copy_62 : decode cX8_copy 62 = .ok (.iload_n 3, 1) := by decide +kernel
theorem dX8_copy_63 : decode cX8_copy 63 = .ok (.invokevirtual 197, 3) := by decide +kernel
theorem dX8_copy_66 : decode cX8_copy 66 = .ok (.invokevirtual 204, 3) := by decide +kernel
theorem dX8_copy_69 : decode cX8_copy 69 = .ok (.iinc 3 1, 3) := by decide +kernel
theorem dX8_copy_72 : decode cX8_copy 72 = .ok (.goto (-29), 3) := by decide +kernel
theorem dX8_copy_75 : decode cX8_copy 75 = .ok (.aload_n 0, 1) := by decide +kernel
theorem dX8_copy_76 : decode cX8_copy 76 = .ok (.getfield 62, 3) := by decide +kernel
theorem dX8_copy_79 : decode cX8_copy 79 = .ok (.invokevirtual 206, 3) := by decide +kernel
theorem dX8_copy_82 : decode cX8_copy 82 = .ok (.ireturn, 1) := by decide +kernel
theorem dX8_alter_0 : decode cX8_alter 0 = .ok (.aload_n 0, 1) := by decide +kernel
theorem dX8_alter_1 : decode cX8_alter 1 = .ok (.getfield 62, 3) := by decide +kernel
theorem dX8_alter_4 : decode cX8_alter 4 = .ok (.iload_n 1, 1) := by decide +kernel
theorem dX8_alter_5 : decode cX8_alter 5 = .ok (.invokevirtual 208, 3) := by decide +kernel
theorem dX8_alter_8 : decode cX8_alter 8 = .ok (.ifCond .eq 10, 3) := by decide +kernel
theorem dX8_alter_11 : decode cX8_alter 11 = .ok (.iload_n 2, 1) := by decide +kernel
theorem dX8_alter_12 : decode cX8_alter 12 = .ok (.invokestatic 133, 3) := by decide +kernel
theorem dX8_alter_15 : decode cX8_alter 15 = .ok (.ifCond .eq 5, 3) := by decide +kernel
theorem dX8_alter_18 : decode cX8_alter 18 = .ok (.iconst (-1), 1) := by decide +kernel
theorem dX8_alter_19 : decode cX8_alter 19 = .ok (.ireturn, 1) := by decide +kernel
theorem dX8_alter_20 : decode cX8_alter 20 = .ok (.aload_n 0, 1) := by decide +kernel
theorem dX8_alter_21 : decode cX8_alter 21 = .ok (.getfield 62, 3) := by decide +kernel
theorem dX8_alter_24 : decode cX8_alter 24 = .ok (.iload_n 1, 1) := by decide +kernel
theorem dX8_alter_25 : decode cX8_alter 25 = .ok (.iload_n 2, 1) := by decide +kernel
theorem dX8_alter_26 : decode cX8_alter 26 = .ok (.invokevirtual 209, 3) := by decide +kernel
theorem dX8_alter_29 : decode cX8_alter 29 = .ok (.iconst 1, 1) := by decide +kernel
theorem dX8_alter_30 : decode cX8_alter 30 = .ok (.ireturn, 1) := by decide +kernel
theorem dX8_unclaim_0 : decode cX8_unclaim 0 = .ok (.aload_n 0, 1) := by decide +kernel
theorem dX8_unclaim_1 : decode cX8_unclaim 1 = .ok (.getfield 62, 3) := by decide +kernel
theorem dX8_unclaim_4 : decode cX8_unclaim 4 = .ok (.invokevirtual 206, 3) := by decide +kernel
theorem dX8_unclaim_7 : decode cX8_unclaim 7 = .ok (.istore_n 1, 1) := by decide +kernel
theorem dX8_unclaim_8 : decode cX8_unclaim 8 = .ok (.aload_n 0, 1) := by decide +kernel
theorem dX8_unclaim_9 : decode cX8_unclaim 9 = .ok (.getfield 62, 3) := by decide +kernel
theorem dX8_unclaim_12 : decode cX8_unclaim 12 = .ok (.invokevirtual 207, 3) := by decide +kernel
theorem dX8_unclaim_15 : decode cX8_unclaim 15 = .ok (.iload_n 1, 1) := by decide +kernel
theorem dX8_unclaim_16 : decode cX8_unclaim 16 = .ok (.ireturn, 1) := by decide +kernel
theorem dX8_check_0 : decode cX8_check 0 = .ok (.aload_n 0, 1) := by decide +kernel
theorem dX8_check_1 : decode cX8_check 1 = .ok (.getfield 62, 3) := by decide +kernel
theorem dX8_check_4 : decode cX8_check 4 = .ok (.aload_n 0, 1) := by decide +kernel
theorem dX8_check_5 : decode cX8_check 5 = .ok (.getfield 37, 3) := by decide +kernel
theorem dX8_check_8 : decode cX8_check 8 = .ok (.invokevirtual 210, 3) := by decide +kernel
theorem dX8_check_11 : decode cX8_check 11 = .ok (.ireturn, 1) := by decide +kernel
theorem dX8_isNoRow_0 : decode cX8_isNoRow 0 = .ok (.iload_n 0, 1) := by decide +kernel
theorem dX8_isNoRow_1 : decode cX8_isNoRow 1 = .ok (.ifCond .lt 8, 3) := by decide +kernel
theorem dX8_isNoRow_4 : decode cX8_isNoRow 4 = .ok (.iload_n 0, 1) := by decide +kernel
theorem dX8_isNoRow_5 : decode cX8_isNoRow 5 = .ok (.iconst 3, 1) := by decide +kernel
theorem dX8_isNoRow_6 : decode cX8_isNoRow 6 = .ok (.if_icmp .le 7, 3) := by decide +kernel
theorem dX8_isNoRow_9 : decode cX8_isNoRow 9 = .ok (.iconst 1, 1) := by decide +kernel
theorem dX8_isNoRow_10 : decode cX8_isNoRow 10 = .ok (.goto 4, 3) := by decide +kernel
theorem dX8_isNoRow_13 : decode cX8_isNoRow 13 = .ok (.iconst 0, 1) := by decide +kernel
theorem dX8_isNoRow_14 : decode cX8_isNoRow 14 = .ok (.ireturn, 1) := by decide +kernel
theorem dX8_tellsGrains_0 : decode cX8_tellsGrains 0 = .ok (.aload_n 0, 1) := by decide +kernel
theorem dX8_tellsGrains_1 : decode cX8_tellsGrains 1 = .ok (.getfield 10, 3) := by decide +kernel
theorem dX8_tellsGrains_4 : decode cX8_tellsGrains 4 = .ok (.iload_n 1, 1) := by decide +kernel
theorem dX8_tellsGrains_5 : decode cX8_tellsGrains 5 = .ok (.aaload, 1) := by decide +kernel
theorem dX8_tellsGrains_6 : decode cX8_tellsGrains 6 = .ok (.iload_n 2, 1) := by decide +kernel
theorem dX8_tellsGrains_7 : decode cX8_tellsGrains 7 = .ok (.invokevirtual 78, 3) := by decide +kernel
theorem dX8_tellsGrains_10 : decode cX8_tellsGrains 10 = .ok (.ifCond .eq 23, 3) := by decide +kernel
theorem dX8_tellsGrains_13 : decode cX8_tellsGrains 13 = .ok (.aload_n 0, 1) := by decide +kernel
theorem dX8_tellsGrains_14 : decode cX8_tellsGrains 14 = .ok (.getfield 10, 3) := by decide +kernel
theorem dX8_tellsGrains_17 : decode cX8_tellsGrains 17 = .ok (.iload_n 1, 1) := by decide +kernel
theorem dX8_tellsGrains_18 : decode cX8_tellsGrains 18 = .ok (.aaload, 1) := by decide +kernel
theorem dX8_tellsGrains_19 : decode cX8_tellsGrains 19 = .ok (.iload_n 2, 1) := by decide +kernel
theorem dX8_tellsGrains_20 : decode cX8_tellsGrains 20 = .ok (.invokevirtual 85, 3) := by decide +kernel
theorem dX8_tellsGrains_23 : decode cX8_tellsGrains 23 = .ok (.invokestatic 214, 3) := by decide +kernel
theorem dX8_tellsGrains_26 : decode cX8_tellsGrains 26 = .ok (.ifCond .eq 7, 3) := by decide +kernel
theorem dX8_tellsGrains_29 : decode cX8_tellsGrains 29 = .ok (.iconst 1, 1) := by decide +kernel
theorem dX8_tellsGrains_30 : decode cX8_tellsGrains 30 = .ok (.goto 4, 3) := by decide +kernel
theorem dX8_tellsGrains_33 : decode cX8_tellsGrains 33 = .ok (.iconst 0, 1) := by decide +kernel
theorem dX8_tellsGrains_34 : decode cX8_tellsGrains 34 = .ok (.ireturn, 1) := by decide +kernel
theorem dX8_startAnew_0 : decode cX8_startAnew 0 = .ok (.aload_n 0, 1) := by decide +kernel
theorem dX8_startAnew_1 : decode cX8_startAnew 1 = .ok (.getfield 33, 3) := by decide +kernel
theorem dX8_startAnew_4 : decode cX8_startAnew 4 = .ok (.invokevirtual 157, 3) := by decide +kernel
theorem dX8_startAnew_7 : decode cX8_startAnew 7 = .ok (.aload_n 0, 1) := by decide +kernel
theorem dX8_startAnew_8 : decode cX8_startAnew 8 = .ok (.getfield 46, 3) := by decide +kernel
theorem dX8_startAnew_11 : decode cX8_startAnew 11 = .ok (.invokevirtual 217, 3) := by decide +kernel
theorem dX8_startAnew_14 : decode cX8_startAnew 14 = .ok (.aload_n 0, 1) := by decide +kernel
theorem dX8_startAnew_15 : decode cX8_startAnew 15 = .ok (.getfield 55, 3) := by decide +kernel
theorem dX8_startAnew_18 : decode cX8_startAnew 18 = .ok (.invokevirtual 220, 3) := by decide +kernel
theorem dX8_startAnew_21 : decode cX8_startAnew 21 = .ok (.return_, 1) := by decide +kernel
theorem dX8_refusalOf_0 : decode cX8_refusalOf 0 = .ok (.iload_n 1, 1) := by decide +kernel
theorem dX8_refusalOf_1 : decode cX8_refusalOf 1 = .ok (.iconst 1, 1) := by decide +kernel
theorem dX8_refusalOf_2 : decode cX8_refusalOf 2 = .ok (.if_icmp .lt 9, 3) := by decide +kernel
theorem dX8_refusalOf_5 : decode cX8_refusalOf 5 = .ok (.iload_n 1, 1) := by decide +kernel
theorem dX8_refusalOf_6 : decode cX8_refusalOf 6 = .ok (.bipush 60, 2) := by decide +kernel
theorem dX8_refusalOf_8 : decode cX8_refusalOf 8 = .ok (.if_icmp .le 5, 3) := by decide +kernel
theorem dX8_refusalOf_11 : decode cX8_refusalOf 11 = .ok (.iconst (-1), 1) := by decide +kernel
theorem dX8_refusalOf_12 : decode cX8_refusalOf 12 = .ok (.ireturn, 1) := by decide +kernel
theorem dX8_refusalOf_13 : decode cX8_refusalOf 13 = .ok (.aload_n 0, 1) := by decide +kernel
theorem dX8_refusalOf_14 : decode cX8_refusalOf 14 = .ok (.getfield 46, 3) := by decide +kernel
theorem dX8_refusalOf_17 : decode cX8_refusalOf 17 = .ok (.invokevirtual 166, 3) := by decide +kernel
theorem dX8_refusalOf_20 : decode cX8_refusalOf 20 = .ok (.ifCond .eq 8, 3) := by decide +kernel
theorem dX8_refusalOf_23 : decode cX8_refusalOf 23 = .ok (.bipush (-8), 2) := by decide +kernel
theorem dX8_refusalOf_25 : decode cX8_refusalOf 25 = .ok (.goto 4, 3) := by decide +kernel
theorem dX8_refusalOf_28 : decode cX8_refusalOf 28 = .ok (.iconst 0, 1) := by decide +kernel
theorem dX8_refusalOf_29 : decode cX8_refusalOf 29 = .ok (.ireturn, 1) := by decide +kernel
theorem dJ6_bitCount_0f7a4_0 : decode cJ6_bitCount_0f7a4 0 = .ok (.iload_n 0, 1) := by decide +kernel
theorem dJ6_bitCount_0f7a4_1 : decode cJ6_bitCount_0f7a4 1 = .ok (.iload_n 0, 1) := by decide +kernel
theorem dJ6_bitCount_0f7a4_2 : decode cJ6_bitCount_0f7a4 2 = .ok (.iconst 1, 1) := by decide +kernel
theorem dJ6_bitCount_0f7a4_3 : decode cJ6_bitCount_0f7a4 3 = .ok (.iushr, 1) := by decide +kernel
theorem dJ6_bitCount_0f7a4_4 : decode cJ6_bitCount_0f7a4 4 = .ok (.ldc_w 265, 3) := by decide +kernel
theorem dJ6_bitCount_0f7a4_7 : decode cJ6_bitCount_0f7a4 7 = .ok (.iand, 1) := by decide +kernel
theorem dJ6_bitCount_0f7a4_8 : decode cJ6_bitCount_0f7a4 8 = .ok (.isub, 1) := by decide +kernel
theorem dJ6_bitCount_0f7a4_9 : decode cJ6_bitCount_0f7a4 9 = .ok (.istore_n 0, 1) := by decide +kernel
theorem dJ6_bitCount_0f7a4_10 : decode cJ6_bitCount_0f7a4 10 = .ok (.iload_n 0, 1) := by decide +kernel
theorem dJ6_bitCount_0f7a4_11 : decode cJ6_bitCount_0f7a4 11 = .ok (.ldc_w 266, 3) := by decide +kernel
theorem dJ6_bitCount_0f7a4_14 : decode cJ6_bitCount_0f7a4 14 = .ok (.iand, 1) := by decide +kernel
theorem dJ6_bitCount_0f7a4_15 : decode cJ6_bitCount_0f7a4 15 = .ok (.iload_n 0, 1) := by decide +kernel
theorem dJ6_bitCount_0f7a4_16 : decode cJ6_bitCount_0f7a4 16 = .ok (.iconst 2, 1) := by decide +kernel
theorem dJ6_bitCount_0f7a4_17 : decode cJ6_bitCount_0f7a4 17 = .ok (.iushr, 1) := by decide +kernel
theorem dJ6_bitCount_0f7a4_18 : decode cJ6_bitCount_0f7a4 18 = .ok (.ldc_w 266, 3) := by decide +kernel
theorem dJ6_bitCount_0f7a4_21 : decode cJ6_bitCount_0f7a4 21 = .ok (.iand, 1) := by decide +kernel
theorem dJ6_bitCount_0f7a4_22 : decode cJ6_bitCount_0f7a4 22 = .ok (.iadd, 1) := by decide +kernel
theorem dJ6_bitCount_0f7a4_23 : decode cJ6_bitCount_0f7a4 23 = .ok (.istore_n 0, 1) := by decide +kernel
theorem dJ6_bitCount_0f7a4_24 : decode cJ6_bitCount_0f7a4 24 = .ok (.iload_n 0, 1) := by decide +kernel
theorem dJ6_bitCount_0f7a4_25 : decode cJ6_bitCount_0f7a4 25 = .ok (.iload_n 0, 1) := by decide +kernel
theorem dJ6_bitCount_0f7a4_26 : decode cJ6_bitCount_0f7a4 26 = .ok (.iconst 4, 1) := by decide +kernel
theorem dJ6_bitCount_0f7a4_27 : decode cJ6_bitCount_0f7a4 27 = .ok (.iushr, 1) := by decide +kernel
theorem dJ6_bitCount_0f7a4_28 : decode cJ6_bitCount_0f7a4 28 = .ok (.iadd, 1) := by decide +kernel
theorem dJ6_bitCount_0f7a4_29 : decode cJ6_bitCount_0f7a4 29 = .ok (.ldc_w 267, 3) := by decide +kernel
theorem dJ6_bitCount_0f7a4_32 : decode cJ6_bitCount_0f7a4 32 = .ok (.iand, 1) := by decide +kernel
theorem dJ6_bitCount_0f7a4_33 : decode cJ6_bitCount_0f7a4 33 = .ok (.istore_n 0, 1) := by decide +kernel
theorem dJ6_bitCount_0f7a4_34 : decode cJ6_bitCount_0f7a4 34 = .ok (.iload_n 0, 1) := by decide +kernel
theorem dJ6_bitCount_0f7a4_35 : decode cJ6_bitCount_0f7a4 35 = .ok (.iload_n 0, 1) := by decide +kernel
theorem dJ6_bitCount_0f7a4_36 : decode cJ6_bitCount_0f7a4 36 = .ok (.bipush 8, 2) := by decide +kernel
theorem dJ6_bitCount_0f7a4_38 : decode cJ6_bitCount_0f7a4 38 = .ok (.iushr, 1) := by decide +kernel
theorem dJ6_bitCount_0f7a4_39 : decode cJ6_bitCount_0f7a4 39 = .ok (.iadd, 1) := by decide +kernel
theorem dJ6_bitCount_0f7a4_40 : decode cJ6_bitCount_0f7a4 40 = .ok (.istore_n 0, 1) := by decide +kernel
theorem dJ6_bitCount_0f7a4_41 : decode cJ6_bitCount_0f7a4 41 = .ok (.iload_n 0, 1) := by decide +kernel
theorem dJ6_bitCount_0f7a4_42 : decode cJ6_bitCount_0f7a4 42 = .ok (.iload_n 0, 1) := by decide +kernel
theorem dJ6_bitCount_0f7a4_43 : decode cJ6_bitCount_0f7a4 43 = .ok (.bipush 16, 2) := by decide +kernel
theorem dJ6_bitCount_0f7a4_45 : decode cJ6_bitCount_0f7a4 45 = .ok (.iushr, 1) := by decide +kernel
theorem dJ6_bitCount_0f7a4_46 : decode cJ6_bitCount_0f7a4 46 = .ok (.iadd, 1) := by decide +kernel
theorem dJ6_bitCount_0f7a4_47 : decode cJ6_bitCount_0f7a4 47 = .ok (.istore_n 0, 1) := by decide +kernel
theorem dJ6_bitCount_0f7a4_48 : decode cJ6_bitCount_0f7a4 48 = .ok (.iload_n 0, 1) := by decide +kernel
theorem dJ6_bitCount_0f7a4_49 : decode cJ6_bitCount_0f7a4 49 = .ok (.bipush 63, 2) := by decide +kernel
theorem dJ6_bitCount_0f7a4_51 : decode cJ6_bitCount_0f7a4 51 = .ok (.iand, 1) := by decide +kernel
theorem dJ6_bitCount_0f7a4_52 : decode cJ6_bitCount_0f7a4 52 = .ok (.ireturn, 1) := by decide +kernel
theorem dJ7_fill_d0a16_0 : decode cJ7_fill_d0a16 0 = .ok (.iconst 0, 1) := by decide +kernel
theorem dJ7_fill_d0a16_1 : decode cJ7_fill_d0a16 1 = .ok (.istore_n 3, 1) := by decide +kernel
theorem dJ7_fill_d0a16_2 : decode cJ7_fill_d0a16 2 = .ok (.aload_n 0, 1) := by decide +kernel
theorem dJ7_fill_d0a16_3 : decode cJ7_fill_d0a16 3 = .ok (.arraylength, 1) := by decide +kernel
theorem dJ7_fill_d0a16_4 : decode cJ7_fill_d0a16 4 = .ok (.istore 4, 2) := by decide +kernel
theorem dJ7_fill_d0a16_6 : decode cJ7_fill_d0a16 6 = .ok (.iload_n 3, 1) := by decide +kernel
theorem dJ7_fill_d0a16_7 : decode cJ7_fill_d0a16 7 = .ok (.iload 4, 2) := by decide +kernel
theorem dJ7_fill_d0a16_9 : decode cJ7_fill_d0a16 9 = .ok (.if_icmp .ge 13, 3) := by decide +kernel
theorem dJ7_fill_d0a16_12 : decode cJ7_fill_d0a16 12 = .ok (.aload_n 0, 1) := by decide +kernel
theorem dJ7_fill_d0a16_13 : decode cJ7_fill_d0a16 13 = .ok (.iload_n 3, 1) := by decide +kernel
theorem dJ7_fill_d0a16_14 : decode cJ7_fill_d0a16 14 = .ok (.lload_n 1, 1) := by decide +kernel
theorem dJ7_fill_d0a16_15 : decode cJ7_fill_d0a16 15 = .ok (.lastore, 1) := by decide +kernel
theorem dJ7_fill_d0a16_16 : decode cJ7_fill_d0a16 16 = .ok (.iinc 3 1, 3) := by decide +kernel
theorem dJ7_fill_d0a16_19 : decode cJ7_fill_d0a16 19 = .ok (.goto (-13), 3) := by decide +kernel
theorem dJ7_fill_d0a16_22 : decode cJ7_fill_d0a16 22 = .ok (.return_, 1) := by decide +kernel
theorem dJ7_fill_53178_0 : decode cJ7_fill_53178 0 = .ok (.iconst 0, 1) := by decide +kernel
theorem dJ7_fill_53178_1 : decode cJ7_fill_53178 1 = .ok (.istore_n 2, 1) := by decide +kernel
theorem dJ7_fill_53178_2 : decode cJ7_fill_53178 2 = .ok (.aload_n 0, 1) := by decide +kernel
theorem dJ7_fill_53178_3 : decode cJ7_fill_53178 3 = .ok (.arraylength, 1) := by decide +kernel
theorem dJ7_fill_53178_4 : decode cJ7_fill_53178 4 = .ok (.istore_n 3, 1) := by decide +kernel
theorem dJ7_fill_53178_5 : decode cJ7_fill_53178 5 = .ok (.iload_n 2, 1) := by decide +kernel
theorem dJ7_fill_53178_6 : decode cJ7_fill_53178 6 = .ok (.iload_n 3, 1) := by decide +kernel
theorem dJ7_fill_53178_7 : decode cJ7_fill_53178 7 = .ok (.if_icmp .ge 13, 3) := by decide +kernel
theorem dJ7_fill_53178_10 : decode cJ7_fill_53178 10 = .ok (.aload_n 0, 1) := by decide +kernel
theorem dJ7_fill_53178_11 : decode cJ7_fill_53178 11 = .ok (.iload_n 2, 1) := by decide +kernel
theorem dJ7_fill_53178_12 : decode cJ7_fill_53178 12 = .ok (.iload_n 1, 1) := by decide +kernel
theorem dJ7_fill_53178_13 : decode cJ7_fill_53178 13 = .ok (.iastore, 1) := by decide +kernel
theorem dJ7_fill_53178_14 : decode cJ7_fill_53178 14 = .ok (.iinc 2 1, 3) := by decide +kernel
theorem dJ7_fill_53178_17 : decode cJ7_fill_53178 17 = .ok (.goto (-12), 3) := by decide +kernel
theorem dJ7_fill_53178_20 : decode cJ7_fill_53178 20 = .ok (.return_, 1) := by decide +kernel
theorem dJ9_max_7cf53_0 : decode cJ9_max_7cf53 0 = .ok (.iload_n 0, 1) := by decide +kernel
theorem dJ9_max_7cf53_1 : decode cJ9_max_7cf53 1 = .ok (.iload_n 1, 1) := by decide +kernel
theorem dJ9_max_7cf53_2 : decode cJ9_max_7cf53 2 = .ok (.if_icmp .lt 7, 3) := by decide +kernel
theorem dJ9_max_7cf53_5 : decode cJ9_max_7cf53 5 = .ok (.iload_n 0, 1) := by decide +kernel
theorem dJ9_max_7cf53_6 : decode cJ9_max_7cf53 6 = .ok (.goto 4, 3) := by decide +kernel
theorem dJ9_max_7cf53_9 : decode cJ9_max_7cf53 9 = .ok (.iload_n 1, 1) := by decide +kernel
theorem dJ9_max_7cf53_10 : decode cJ9_max_7cf53 10 = .ok (.ireturn, 1) := by decide +kernel
theorem dJ9_min_7cf53_0 : decode cJ9_min_7cf53 0 = .ok (.iload_n 0, 1) := by decide +kernel
theorem dJ9_min_7cf53_1 : decode cJ9_min_7cf53 1 = .ok (.iload_n 1, 1) := by decide +kernel
theorem dJ9_min_7cf53_2 : decode cJ9_min_7cf53 2 = .ok (.if_icmp .gt 7, 3) := by decide +kernel
theorem dJ9_min_7cf53_5 : decode cJ9_min_7cf53 5 = .ok (.iload_n 0, 1) := by decide +kernel
theorem dJ9_min_7cf53_6 : decode cJ9_min_7cf53 6 = .ok (.goto 4, 3) := by decide +kernel
theorem dJ9_min_7cf53_9 : decode cJ9_min_7cf53 9 = .ok (.iload_n 1, 1) := by decide +kernel
theorem dJ9_min_7cf53_10 : decode cJ9_min_7cf53 10 = .ok (.ireturn, 1) := by decide +kernel
theorem dJ13_bitCount_95d88_0 : decode cJ13_bitCount_95d88 0 = .ok (.lload_n 0, 1) := by decide +kernel
theorem dJ13_bitCount_95d88_1 : decode cJ13_bitCount_95d88 1 = .ok (.lload_n 0, 1) := by decide +kernel
theorem dJ13_bitCount_95d88_2 : decode cJ13_bitCount_95d88 2 = .ok (.iconst 1, 1) := by decide +kernel
theorem dJ13_bitCount_95d88_3 : decode cJ13_bitCount_95d88 3 = .ok (.lushr, 1) := by decide +kernel
theorem dJ13_bitCount_95d88_4 : decode cJ13_bitCount_95d88 4 = .ok (.ldc2_w 314, 3) := by decide +kernel
theorem dJ13_bitCount_95d88_7 : decode cJ13_bitCount_95d88 7 = .ok (.land, 1) := by decide +kernel
theorem dJ13_bitCount_95d88_8 : decode cJ13_bitCount_95d88 8 = .ok (.lsub, 1) := by decide +kernel
theorem dJ13_bitCount_95d88_9 : decode cJ13_bitCount_95d88 9 = .ok (.lstore_n 0, 1) := by decide +kernel
theorem dJ13_bitCount_95d88_10 : decode cJ13_bitCount_95d88 10 = .ok (.lload_n 0, 1) := by decide +kernel
theorem dJ13_bitCount_95d88_11 : decode cJ13_bitCount_95d88 11 = .ok (.ldc2_w 316, 3) := by decide +kernel
theorem dJ13_bitCount_95d88_14 : decode cJ13_bitCount_95d88 14 = .ok (.land, 1) := by decide +kernel
theorem dJ13_bitCount_95d88_15 : decode cJ13_bitCount_95d88 15 = .ok (.lload_n 0, 1) := by decide +kernel
theorem dJ13_bitCount_95d88_16 : decode cJ13_bitCount_95d88 16 = .ok (.iconst 2, 1) := by decide +kernel
theorem dJ13_bitCount_95d88_17 : decode cJ13_bitCount_95d88 17 = .ok (.lushr, 1) := by decide +kernel
theorem dJ13_bitCount_95d88_18 : decode cJ13_bitCount_95d88 18 = .ok (.ldc2_w 316, 3) := by decide +kernel
theorem dJ13_bitCount_95d88_21 : decode cJ13_bitCount_95d88 21 = .ok (.land, 1) := by decide +kernel
theorem dJ13_bitCount_95d88_22 : decode cJ13_bitCount_95d88 22 = .ok (.ladd, 1) := by decide +kernel
theorem dJ13_bitCount_95d88_23 : decode cJ13_bitCount_95d88 23 = .ok (.lstore_n 0, 1) := by decide +kernel
theorem dJ13_bitCount_95d88_24 : decode cJ13_bitCount_95d88 24 = .ok (.lload_n 0, 1) := by decide +kernel
theorem dJ13_bitCount_95d88_25 : decode cJ13_bitCount_95d88 25 = .ok (.lload_n 0, 1) := by decide +kernel
theorem dJ13_bitCount_95d88_26 : decode cJ13_bitCount_95d88 26 = .ok (.iconst 4, 1) := by decide +kernel
theorem dJ13_bitCount_95d88_27 : decode cJ13_bitCount_95d88 27 = .ok (.lushr, 1) := by decide +kernel
theorem dJ13_bitCount_95d88_28 : decode cJ13_bitCount_95d88 28 = .ok (.ladd, 1) := by decide +kernel
theorem dJ13_bitCount_95d88_29 : decode cJ13_bitCount_95d88 29 = .ok (.ldc2_w 318, 3) := by decide +kernel
theorem dJ13_bitCount_95d88_32 : decode cJ13_bitCount_95d88 32 = .ok (.land, 1) := by decide +kernel
theorem dJ13_bitCount_95d88_33 : decode cJ13_bitCount_95d88 33 = .ok (.lstore_n 0, 1) := by decide +kernel
theorem dJ13_bitCount_95d88_34 : decode cJ13_bitCount_95d88 34 = .ok (.lload_n 0, 1) := by decide +kernel
theorem dJ13_bitCount_95d88_35 : decode cJ13_bitCount_95d88 35 = .ok (.lload_n 0, 1) := by decide +kernel
theorem dJ13_bitCount_95d88_36 : decode cJ13_bitCount_95d88 36 = .ok (.bipush 8, 2) := by decide +kernel
theorem dJ13_bitCount_95d88_38 : decode cJ13_bitCount_95d88 38 = .ok (.lushr, 1) := by decide +kernel
theorem dJ13_bitCount_95d88_39 : decode cJ13_bitCount_95d88 39 = .ok (.ladd, 1) := by decide +kernel
theorem dJ13_bitCount_95d88_40 : decode cJ13_bitCount_95d88 40 = .ok (.lstore_n 0, 1) := by decide +kernel
theorem dJ13_bitCount_95d88_41 : decode cJ13_bitCount_95d88 41 = .ok (.lload_n 0, 1) := by decide +kernel
theorem dJ13_bitCount_95d88_42 : decode cJ13_bitCount_95d88 42 = .ok (.lload_n 0, 1) := by decide +kernel
theorem dJ13_bitCount_95d88_43 : decode cJ13_bitCount_95d88 43 = .ok (.bipush 16, 2) := by decide +kernel
theorem dJ13_bitCount_95d88_45 : decode cJ13_bitCount_95d88 45 = .ok (.lushr, 1) := by decide +kernel
theorem dJ13_bitCount_95d88_46 : decode cJ13_bitCount_95d88 46 = .ok (.ladd, 1) := by decide +kernel
theorem dJ13_bitCount_95d88_47 : decode cJ13_bitCount_95d88 47 = .ok (.lstore_n 0, 1) := by decide +kernel
theorem dJ13_bitCount_95d88_48 : decode cJ13_bitCount_95d88 48 = .ok (.lload_n 0, 1) := by decide +kernel
theorem dJ13_bitCount_95d88_49 : decode cJ13_bitCount_95d88 49 = .ok (.lload_n 0, 1) := by decide +kernel
theorem dJ13_bitCount_95d88_50 : decode cJ13_bitCount_95d88 50 = .ok (.bipush 32, 2) := by decide +kernel
theorem dJ13_bitCount_95d88_52 : decode cJ13_bitCount_95d88 52 = .ok (.lushr, 1) := by decide +kernel
theorem dJ13_bitCount_95d88_53 : decode cJ13_bitCount_95d88 53 = .ok (.ladd, 1) := by decide +kernel
theorem dJ13_bitCount_95d88_54 : decode cJ13_bitCount_95d88 54 = .ok (.lstore_n 0, 1) := by decide +kernel
theorem dJ13_bitCount_95d88_55 : decode cJ13_bitCount_95d88 55 = .ok (.lload_n 0, 1) := by decide +kernel
theorem dJ13_bitCount_95d88_56 : decode cJ13_bitCount_95d88 56 = .ok (.l2i, 1) := by decide +kernel
theorem dJ13_bitCount_95d88_57 : decode cJ13_bitCount_95d88 57 = .ok (.bipush 127, 2) := by decide +kernel
theorem dJ13_bitCount_95d88_59 : decode cJ13_bitCount_95d88 59 = .ok (.iand, 1) := by decide +kernel
theorem dJ13_bitCount_95d88_60 : decode cJ13_bitCount_95d88 60 = .ok (.ireturn, 1) := by decide +kernel
