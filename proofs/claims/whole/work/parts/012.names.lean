theorem dX9_takeFrom_56 : decode cX9_takeFrom 56 = .ok (.aload_n 0, 1) := by decide +kernel
theorem dX9_takeFrom_57 : decode cX9_takeFrom 57 = .ok (.getfield 11, 3) := by decide +kernel
theorem dX9_takeFrom_60 : decode cX9_takeFrom 60 = .ok (.iload_n 2, 1) := by decide +kernel
theorem dX9_takeFrom_61 : decode cX9_takeFrom 61 = .ok (.aaload, 1) := by decide +kernel
theorem dX9_takeFrom_62 : decode cX9_takeFrom 62 = .ok (.aload_n 1, 1) := by decide +kernel
theorem dX9_takeFrom_63 : decode cX9_takeFrom 63 = .ok (.getfield 11, 3) := by decide +kernel
theorem dX9_takeFrom_66 : decode cX9_takeFrom 66 = .ok (.iload_n 2, 1) := by decide +kernel
theorem dX9_takeFrom_67 : decode cX9_takeFrom 67 = .ok (.aaload, 1) := by decide +kernel
theorem dX9_takeFrom_68 : decode cX9_takeFrom 68 = .ok (.invokevirtual 37, 3) := by decide +kernel
theorem dX9_takeFrom_71 : decode cX9_takeFrom 71 = .ok (.iinc 2 1, 3) := by decide +kernel
theorem dX9_takeFrom_74 : decode cX9_takeFrom 74 = .ok (.goto (-24), 3) := by decide +kernel
theorem dX9_takeFrom_77 : decode cX9_takeFrom 77 = .ok (.return_, 1) := by decide +kernel
theorem dX9_begin_0 : decode cX9_begin 0 = .ok (.aload_n 0, 1) := by decide +kernel
theorem dX9_begin_1 : decode cX9_begin 1 = .ok (.iconst 0, 1) := by decide +kernel
theorem dX9_begin_2 : decode cX9_begin 2 = .ok (.putfield 22, 3) := by decide +kernel
theorem dX9_begin_5 : decode cX9_begin 5 = .ok (.aload_n 0, 1) := by decide +kernel
theorem dX9_begin_6 : decode cX9_begin 6 = .ok (.iload_n 1, 1) := by decide +kernel
theorem dX9_begin_7 : decode cX9_begin 7 = .ok (.putfield 25, 3) := by decide +kernel
theorem dX9_begin_10 : decode cX9_begin 10 = .ok (.aload_n 0, 1) := by decide +kernel
theorem dX9_begin_11 : decode cX9_begin 11 = .ok (.iload_n 2, 1) := by decide +kernel
theorem dX9_begin_12 : decode cX9_begin 12 = .ok (.putfield 28, 3) := by decide +kernel
theorem dX9_begin_15 : decode cX9_begin 15 = .ok (.aload_n 0, 1) := by decide +kernel
theorem dX9_begin_16 : decode cX9_begin 16 = .ok (.iconst 0, 1) := by decide +kernel
theorem dX9_begin_17 : decode cX9_begin 17 = .ok (.putfield 31, 3) := by decide +kernel
theorem dX9_begin_20 : decode cX9_begin 20 = .ok (.aload_n 0, 1) := by decide +kernel
theorem dX9_begin_21 : decode cX9_begin 21 = .ok (.iconst 0, 1) := by decide +kernel
theorem dX9_begin_22 : decode cX9_begin 22 = .ok (.putfield 34, 3) := by decide +kernel
theorem dX9_begin_25 : decode cX9_begin 25 = .ok (.return_, 1) := by decide +kernel
theorem dX9_stands_0 : decode cX9_stands 0 = .ok (.aload_n 0, 1) := by decide +kernel
theorem dX9_stands_1 : decode cX9_stands 1 = .ok (.getfield 22, 3) := by decide +kernel
theorem dX9_stands_4 : decode cX9_stands 4 = .ok (.ifCond .le 7, 3) := by decide +kernel
theorem dX9_stands_7 : decode cX9_stands 7 = .ok (.iconst 1, 1) := by decide +kernel
theorem dX9_stands_8 : decode cX9_stands 8 = .ok (.goto 4, 3) := by decide +kernel
theorem dX9_stands_11 : decode cX9_stands 11 = .ok (.iconst 0, 1) := by decide +kernel
theorem dX9_stands_12 : decode cX9_stands 12 = .ok (.ireturn, 1) := by decide +kernel
theorem dX9_has_0 : decode cX9_has 0 = .ok (.iload_n 1, 1) := by decide +kernel
theorem dX9_has_1 : decode cX9_has 1 = .ok (.ifCond .lt 21, 3) := by decide +kernel
theorem dX9_has_4 : decode cX9_has 4 = .ok (.iload_n 1, 1) := by decide +kernel
theorem dX9_has_5 : decode cX9_has 5 = .ok (.aload_n 0, 1) := by decide +kernel
theorem dX9_has_6 : decode cX9_has 6 = .ok (.getfield 22, 3) := by decide +kernel
theorem dX9_has_9 : decode cX9_has 9 = .ok (.if_icmp .ge 13, 3) := by decide +kernel
theorem dX9_has_12 : decode cX9_has 12 = .ok (.iload_n 1, 1) := by decide +kernel
theorem dX9_has_13 : decode cX9_has 13 = .ok (.bipush 6, 2) := by decide +kernel
theorem dX9_has_15 : decode cX9_has 15 = .ok (.if_icmp .ge 7, 3) := by decide +kernel
theorem dX9_has_18 : decode cX9_has 18 = .ok (.iconst 1, 1) := by decide +kernel
theorem dX9_has_19 : decode cX9_has 19 = .ok (.goto 4, 3) := by decide +kernel
theorem dX9_has_22 : decode cX9_has 22 = .ok (.iconst 0, 1) := by decide +kernel
theorem dX9_has_23 : decode cX9_has 23 = .ok (.ireturn, 1) := by decide +kernel
theorem dX9_isNight_0 : decode cX9_isNight 0 = .ok (.aload_n 0, 1) := by decide +kernel
theorem dX9_isNight_1 : decode cX9_isNight 1 = .ok (.getfield 31, 3) := by decide +kernel
theorem dX9_isNight_4 : decode cX9_isNight 4 = .ok (.aload_n 0, 1) := by decide +kernel
theorem dX9_isNight_5 : decode cX9_isNight 5 = .ok (.getfield 25, 3) := by decide +kernel
theorem dX9_isNight_8 : decode cX9_isNight 8 = .ok (.invokestatic 41, 3) := by decide +kernel
theorem dX9_isNight_11 : decode cX9_isNight 11 = .ok (.ireturn, 1) := by decide +kernel
theorem dX9_sitting_0 : decode cX9_sitting 0 = .ok (.iconst 0, 1) := by decide +kernel
theorem dX9_sitting_1 : decode cX9_sitting 1 = .ok (.istore_n 1, 1) := by decide +kernel
theorem dX9_sitting_2 : decode cX9_sitting 2 = .ok (.iconst 0, 1) := by decide +kernel
theorem dX9_sitting_3 : decode cX9_sitting 3 = .ok (.istore_n 2, 1) := by decide +kernel
theorem dX9_sitting_4 : decode cX9_sitting 4 = .ok (.iload_n 2, 1) := by decide +kernel
theorem dX9_sitting_5 : decode cX9_sitting 5 = .ok (.aload_n 0, 1) := by decide +kernel
theorem dX9_sitting_6 : decode cX9_sitting 6 = .ok (.getfield 22, 3) := by decide +kernel
theorem dX9_sitting_9 : decode cX9_sitting 9 = .ok (.if_icmp .ge 24, 3) := by decide +kernel
theorem dX9_sitting_12 : decode cX9_sitting 12 = .ok (.aload_n 0, 1) := by decide +kernel
theorem dX9_sitting_13 : decode cX9_sitting 13 = .ok (.getfield 11, 3) := by decide +kernel
theorem dX9_sitting_16 : decode cX9_sitting 16 = .ok (.iload_n 2, 1) := by decide +kernel
theorem dX9_sitting_17 : decode cX9_sitting 17 = .ok (.aaload, 1) := by decide +kernel
theorem dX9_sitting_18 : decode cX9_sitting 18 = .ok (.invokevirtual 45, 3) := by decide +kernel
theorem dX9_sitting_21 : decode cX9_sitting 21 = .ok (.ifCond .eq 6, 3) := by decide +kernel
theorem dX9_sitting_24 : decode cX9_sitting 24 = .ok (.iinc 1 1, 3) := by decide +kernel
theorem dX9_sitting_27 : decode cX9_sitting 27 = .ok (.iinc 2 1, 3) := by decide +kernel
theorem dX9_sitting_30 : decode cX9_sitting 30 = .ok (.goto (-26), 3) := by decide +kernel
theorem dX9_sitting_33 : decode cX9_sitting 33 = .ok (.iload_n 1, 1) := by decide +kernel
theorem dX9_sitting_34 : decode cX9_sitting 34 = .ok (.ireturn, 1) := by decide +kernel
theorem dX9_cloaks_0 : decode cX9_cloaks 0 = .ok (.iconst 0, 1) := by decide +kernel
theorem dX9_cloaks_1 : decode cX9_cloaks 1 = .ok (.istore_n 1, 1) := by decide +kernel
theorem dX9_cloaks_2 : decode cX9_cloaks 2 = .ok (.iconst 0, 1) := by decide +kernel
theorem dX9_cloaks_3 : decode cX9_cloaks 3 = .ok (.istore_n 2, 1) := by decide +kernel
theorem dX9_cloaks_4 : decode cX9_cloaks 4 = .ok (.iload_n 2, 1) := by decide +kernel
theorem dX9_cloaks_5 : decode cX9_cloaks 5 = .ok (.aload_n 0, 1) := by decide +kernel
theorem dX9_cloaks_6 : decode cX9_cloaks 6 = .ok (.getfield 22, 3) := by decide +kernel
theorem dX9_cloaks_9 : decode cX9_cloaks 9 = .ok (.if_icmp .ge 24, 3) := by decide +kernel
theorem dX9_cloaks_12 : decode cX9_cloaks 12 = .ok (.aload_n 0, 1) := by decide +kernel
theorem dX9_cloaks_13 : decode cX9_cloaks 13 = .ok (.getfield 11, 3) := by decide +kernel
theorem dX9_cloaks_16 : decode cX9_cloaks 16 = .ok (.iload_n 2, 1) := by decide +kernel
theorem dX9_cloaks_17 : decode cX9_cloaks 17 = .ok (.aaload, 1) := by decide +kernel
theorem dX9_cloaks_18 : decode cX9_cloaks 18 = .ok (.getfield 49, 3) := by decide +kernel
theorem dX9_cloaks_21 : decode cX9_cloaks 21 = .ok (.ifCond .eq 6, 3) := by decide +kernel
theorem dX9_cloaks_24 : decode cX9_cloaks 24 = .ok (.iinc 1 1, 3) := by decide +kernel
theorem dX9_cloaks_27 : decode cX9_cloaks 27 = .ok (.iinc 2 1, 3) := by decide +kernel
theorem dX9_cloaks_30 : decode cX9_cloaks 30 = .ok (.goto (-26), 3) := by decide +kernel
theorem dX9_cloaks_33 : decode cX9_cloaks 33 = .ok (.iload_n 1, 1) := by decide +kernel
theorem dX9_cloaks_34 : decode cX9_cloaks 34 = .ok (.ireturn, 1) := by decide +kernel
theorem dX9_allCrusts_0 : decode cX9_allCrusts 0 = .ok (.iconst 0, 1) := by decide +kernel
theorem dX9_allCrusts_1 : decode cX9_allCrusts 1 = .ok (.istore_n 1, 1) := by decide +kernel
theorem dX9_allCrusts_2 : decode cX9_allCrusts 2 = .ok (.iconst 0, 1) := by decide +kernel
theorem dX9_allCrusts_3 : decode cX9_allCrusts 3 = .ok (.istore_n 2, 1) := by decide +kernel
theorem dX9_allCrusts_4 : decode cX9_allCrusts 4 = .ok (.iload_n 2, 1) := by decide +kernel
theorem dX9_allCrusts_5 : decode cX9_allCrusts 5 = .ok (.aload_n 0, 1) := by decide +kernel
theorem dX9_allCrusts_6 : decode cX9_allCrusts 6 = .ok (.getfield 22, 3) := by decide +kernel
theorem dX9_allCrusts_9 : decode cX9_allCrusts 9 = .ok (.if_icmp .ge 21, 3) := by decide +kernel
theorem dX9_allCrusts_12 : decode cX9_allCrusts 12 = .ok (.iload_n 1, 1) := by decide +kernel
theorem dX9_allCrusts_13 : decode cX9_allCrusts 13 = .ok (.aload_n 0, 1) := by decide +kernel
theorem dX9_allCrusts_14 : decode cX9_allCrusts 14 = .ok (.getfield 11, 3) := by decide +kernel
theorem dX9_allCrusts_17 : decode cX9_allCrusts 17 = .ok (.iload_n 2, 1) := by decide +kernel
theorem dX9_allCrusts_18 : decode cX9_allCrusts 18 = .ok (.aaload, 1) := by decide +kernel
theorem dX9_allCrusts_19 : decode cX9_allCrusts 19 = .ok (.getfield 53, 3) := by decide +kernel
theorem dX9_allCrusts_22 : decode cX9_allCrusts 22 = .ok (.iadd, 1) := by decide +kernel
theorem dX9_allCrusts_23 : decode cX9_allCrusts 23 = .ok (.istore_n 1, 1) := by decide +kernel
theorem dX9_allCrusts_24 : decode cX9_allCrusts 24 = .ok (.iinc 2 1, 3) := by decide +kernel
theorem dX9_allCrusts_27 : decode cX9_allCrusts 27 = .ok (.goto (-23), 3) := by decide +kernel
theorem dX9_allCrusts_30 : decode cX9_allCrusts 30 = .ok (.iload_n 1, 1) := by decide +kernel
theorem dX9_allCrusts_31 : decode cX9_allCrusts 31 = .ok (.ireturn, 1) := by decide +kernel
theorem dX9_passHour_0 : decode cX9_passHour 0 = .ok (.aload_n 0, 1) := by decide +kernel
theorem dX9_passHour_1 : decode cX9_passHour 1 = .ok (.aload_n 0, 1) := by decide +kernel
theorem dX9_passHour_2 : decode cX9_passHour 2 = .ok (.getfield 17, 3) := by decide +kernel
theorem dX9_passHour_5 : decode cX9_passHour 5 = .ok (.invokestatic 56, 3) := by decide +kernel
theorem dX9_passHour_8 : decode cX9_passHour 8 = .ok (.putfield 17, 3) := by decide +kernel
theorem dX9_passHour_11 : decode cX9_passHour 11 = .ok (.aload_n 0, 1) := by decide +kernel
theorem dX9_passHour_12 : decode cX9_passHour 12 = .ok (.aload_n 0, 1) := by decide +kernel
theorem dX9_passHour_13 : decode cX9_passHour 13 = .ok (.getfield 17, 3) := by decide +kernel
theorem dX9_passHour_16 : decode cX9_passHour 16 = .ok (.iconst 3, 1) := by decide +kernel
theorem dX9_passHour_17 : decode cX9_passHour 17 = .ok (.irem, 1) := by decide +kernel
theorem dX9_passHour_18 : decode cX9_passHour 18 = .ok (.putfield 34, 3) := by decide +kernel
theorem dX9_passHour_21 : decode cX9_passHour 21 = .ok (.aload_n 0, 1) := by decide +kernel
theorem dX9_passHour_22 : decode cX9_passHour 22 = .ok (.invokevirtual 60, 3) := by decide +kernel
theorem dX9_passHour_25 : decode cX9_passHour 25 = .ok (.istore_n 1, 1) := by decide +kernel
theorem dX9_passHour_26 : decode cX9_passHour 26 = .ok (.iconst 0, 1) := by decide +kernel
theorem dX9_passHour_27 : decode cX9_passHour 27 = .ok (.istore_n 2, 1) := by decide +kernel
theorem dX9_passHour_28 : decode cX9_passHour 28 = .ok (.iload_n 2, 1) := by decide +kernel
theorem dX9_passHour_29 : decode cX9_passHour 29 = .ok (.aload_n 0, 1) := by decide +kernel
theorem dX9_passHour_30 : decode cX9_passHour 30 = .ok (.getfield 22, 3) := by decide +kernel
theorem dX9_passHour_33 : decode cX9_passHour 33 = .ok (.if_icmp .ge 27, 3) := by decide +kernel
theorem dX9_passHour_36 : decode cX9_passHour 36 = .ok (.aload_n 0, 1) := by decide +kernel
theorem dX9_passHour_37 : decode cX9_passHour 37 = .ok (.getfield 11, 3) := by decide +kernel
theorem dX9_passHour_40 : decode cX9_passHour 40 = .ok (.iload_n 2, 1) := by decide +kernel
theorem dX9_passHour_41 : decode cX9_passHour 41 = .ok (.aaload, 1) := by decide +kernel
theorem dX9_passHour_42 : decode cX9_passHour 42 = .ok (.aload_n 0, 1) := by decide +kernel
theorem dX9_passHour_43 : decode cX9_passHour 43 = .ok (.getfield 34, 3) := by decide +kernel
theorem dX9_passHour_46 : decode cX9_passHour 46 = .ok (.iload_n 1, 1) := by decide +kernel
theorem dX9_passHour_47 : decode cX9_passHour 47 = .ok (.aload_n 0, 1) := by decide +kernel
theorem dX9_passHour_48 : decode cX9_passHour 48 = .ok (.getfield 31, 3) := by decide +kernel
theorem dX9_passHour_51 : decode cX9_passHour 51 = .ok (.invokevirtual 63, 3) := by decide +kernel
theorem dX9_passHour_54 : decode cX9_passHour 54 = .ok (.iinc 2 1, 3) := by decide +kernel
theorem dX9_passHour_57 : decode cX9_passHour 57 = .ok (.goto (-29), 3) := by decide +kernel
theorem dX9_passHour_60 : decode cX9_passHour 60 = .ok (.aload_n 0, 1) := by decide +kernel
theorem dX9_passHour_61 : decode cX9_passHour 61 = .ok (.dup, 1) := by decide +kernel
theorem dX9_passHour_62 : decode cX9_passHour 62 = .ok (.getfield 31, 3) := by decide +kernel
theorem dX9_passHour_65 : decode cX9_passHour 65 = .ok (.iconst 1, 1) := by decide +kernel
theorem dX9_passHour_66 : decode cX9_passHour 66 = .ok (.iadd, 1) := by decide +kernel
theorem dX9_passHour_67 : decode cX9_passHour 67 = .ok (.putfield 31, 3) := by decide +kernel
theorem dX9_passHour_70 : decode cX9_passHour 70 = .ok (.return_, 1) := by decide +kernel
theorem dX10_init_0 : decode cX10_init 0 = .ok (.aload_n 0, 1) := by decide +kernel
theorem dX10_init_1 : decode cX10_init 1 = .ok (.invokespecial 1, 3) := by decide +kernel
theorem dX10_init_4 : decode cX10_init 4 = .ok (.aload_n 0, 1) := by decide +kernel
theorem dX10_init_5 : decode cX10_init 5 = .ok (.new 7, 3) := by decide +kernel
theorem dX10_init_8 : decode cX10_init 8 = .ok (.dup, 1) := by decide +kernel
theorem dX10_init_9 : decode cX10_init 9 = .ok (.invokespecial 9, 3) := by decide +kernel
theorem dX10_init_12 : decode cX10_init 12 = .ok (.putfield 10, 3) := by decide +kernel
theorem dX10_init_15 : decode cX10_init 15 = .ok (.aload_n 0, 1) := by decide +kernel
theorem dX10_init_16 : decode cX10_init 16 = .ok (.new 16, 3) := by decide +kernel
theorem dX10_init_19 : decode cX10_init 19 = .ok (.dup, 1) := by decide +kernel
theorem dX10_init_20 : decode cX10_init 20 = .ok (.invokespecial 18, 3) := by decide +kernel
theorem dX10_init_23 : decode cX10_init 23 = .ok (.putfield 19, 3) := by decide +kernel
theorem dX10_init_26 : decode cX10_init 26 = .ok (.aload_n 0, 1) := by decide +kernel
theorem dX10_init_27 : decode cX10_init 27 = .ok (.new 16, 3) := by decide +kernel
theorem dX10_init_30 : decode cX10_init 30 = .ok (.dup, 1) := by decide +kernel
theorem dX10_init_31 : decode cX10_init 31 = .ok (.invokespecial 18, 3) := by decide +kernel
theorem dX10_init_34 : decode cX10_init 34 = .ok (.putfield 23, 3) := by decide +kernel
theorem dX10_init_37 : decode cX10_init 37 = .ok (.aload_n 0, 1) := by decide +kernel
theorem dX10_init_38 : decode cX10_init 38 = .ok (.new 26, 3) := by decide +kernel
theorem dX10_init_41 : decode cX10_init 41 = .ok (.dup, 1) := by decide +kernel
theorem dX10_init_42 : decode cX10_init 42 = .ok (.invokespecial 28, 3) := by decide +kernel
theorem dX10_init_45 : decode cX10_init 45 = .ok (.putfield 29, 3) := by decide +kernel
theorem dX10_init_48 : decode cX10_init 48 = .ok (.aload_n 0, 1) := by decide +kernel
theorem dX10_init_49 : decode cX10_init 49 = .ok (.iconst 2, 1) := by decide +kernel
theorem dX10_init_50 : decode cX10_init 50 = .ok (.anewarray 16, 3) := by decide +kernel
theorem dX10_init_53 : decode cX10_init 53 = .ok (.putfield 33, 3) := by decide +kernel
theorem dX10_init_56 : decode cX10_init 56 = .ok (.iconst 0, 1) := by decide +kernel
theorem dX10_init_57 : decode cX10_init 57 = .ok (.istore_n 1, 1) := by decide +kernel
theorem dX10_init_58 : decode cX10_init 58 = .ok (.iload_n 1, 1) := by decide +kernel
theorem dX10_init_59 : decode cX10_init 59 = .ok (.iconst 2, 1) := by decide +kernel
theorem dX10_init_60 : decode cX10_init 60 = .ok (.if_icmp .ge 22, 3) := by decide +kernel
theorem dX10_init_63 : decode cX10_init 63 = .ok (.aload_n 0, 1) := by decide +kernel
theorem dX10_init_64 : decode cX10_init 64 = .ok (.getfield 33, 3) := by decide +kernel
theorem dX10_init_67 : decode cX10_init 67 = .ok (.iload_n 1, 1) := by decide +kernel
theorem dX10_init_68 : decode cX10_init 68 = .ok (.new 16, 3) := by decide +kernel
theorem dX10_init_71 : decode cX10_init 71 = .ok (.dup, 1) := by decide +kernel
theorem dX10_init_72 : decode cX10_init 72 = .ok (.invokespecial 18, 3) := by decide +kernel
theorem dX10_init_75 : decode cX10_init 75 = .ok (.aastore, 1) := by decide +kernel
theorem dX10_init_76 : decode cX10_init 76 = .ok (.iinc 1 1, 3) := by decide +kernel
theorem dX10_init_79 : decode cX10_init 79 = .ok (.goto (-21), 3) := by decide +kernel
theorem dX10_init_82 : decode cX10_init 82 = .ok (.aload_n 0, 1) := by decide +kernel
theorem dX10_init_83 : decode cX10_init 83 = .ok (.iconst 4, 1) := by decide +kernel
theorem dX10_init_84 : decode cX10_init 84 = .ok (.anewarray 37, 3) := by decide +kernel
theorem dX10_init_87 : decode cX10_init 87 = .ok (.putfield 39, 3) := by decide +kernel
theorem dX10_init_90 : decode cX10_init 90 = .ok (.iconst 0, 1) := by decide +kernel
theorem dX10_init_91 : decode cX10_init 91 = .ok (.istore_n 1, 1) := by decide +kernel
theorem dX10_init_92 : decode cX10_init 92 = .ok (.iload_n 1, 1) := by decide +kernel
theorem dX10_init_93 : decode cX10_init 93 = .ok (.iconst 4, 1) := by decide +kernel
theorem dX10_init_94 : decode cX10_init 94 = .ok (.if_icmp .ge 22, 3) := by decide +kernel
theorem dX10_init_97 : decode cX10_init 97 = .ok (.aload_n 0, 1) := by decide +kernel
theorem dX10_init_98 : decode cX10_init 98 = .ok (.getfield 39, 3) := by decide +kernel
theorem dX10_init_101 : decode cX10_init 101 = .ok (.iload_n 1, 1) := by decide +kernel
theorem dX10_init_102 : decode cX10_init 102 = .ok (.new 37, 3) := by decide +kernel
theorem dX10_init_105 : decode cX10_init 105 = .ok (.dup, 1) := by decide +kernel
theorem dX10_init_106 : decode cX10_init 106 = .ok (.invokespecial 43, 3) := by decide +kernel
theorem dX10_init_109 : decode cX10_init 109 = .ok (.aastore, 1) := by decide +kernel
theorem dX10_init_110 : decode cX10_init 110 = .ok (.iinc 1 1, 3) := by decide +kernel
theorem dX10_init_113 : decode cX10_init 113 = .ok (.goto (-21), 3) := by decide +kernel
theorem dX10_init_116 : decode cX10_init 116 = .ok (.aload_n 0, 1) := by decide +kernel
theorem dX10_init_117 : decode cX10_init 117 = .ok (.new 44, 3) := by decide +kernel
theorem dX10_init_120 : decode cX10_init 120 = .ok (.dup, 1) := by decide +kernel
theorem dX10_init_121 : decode cX10_init 121 = .ok (.invokespecial 46, 3) := by decide +kernel
theorem dX10_init_124 : decode cX10_init 124 = .ok (.putfield 47, 3) := by decide +kernel
theorem dX10_init_127 : decode cX10_init 127 = .ok (.aload_n 0, 1) := by decide +kernel
theorem dX10_init_128 : decode cX10_init 128 = .ok (.new 51, 3) := by decide +kernel
theorem dX10_init_131 : decode cX10_init 131 = .ok (.dup, 1) := by decide +kernel
theorem dX10_init_132 : decode cX10_init 132 = .ok (.invokespecial 53, 3) := by decide +kernel
theorem dX10_init_135 : decode cX10_init 135 = .ok (.putfield 54, 3) := by decide +kernel
theorem dX10_init_138 : decode cX10_init 138 = .ok (.aload_n 0, 1) := by decide +kernel
theorem dX10_init_139 : decode cX10_init 139 = .ok (.new 58, 3) := by decide +kernel
theorem dX10_init_142 : decode cX10_init 142 = .ok (.dup, 1) := by decide +kernel
theorem dX10_init_143 : decode cX10_init 143 = .ok (.invokespecial 60, 3) := by decide +kernel
theorem dX10_init_146 : decode cX10_init 146 = .ok (.putfield 61, 3) := by decide +kernel
theorem dX10_init_149 : decode cX10_init 149 = .ok (.aload_n 0, 1) := by decide +kernel
theorem dX10_init_150 : decode cX10_init 150 = .ok (.new 65, 3) := by decide +kernel
theorem dX10_init_153 : decode cX10_init 153 = .ok (.dup, 1) := by decide +kernel
theorem dX10_init_154 : decode cX10_init 154 = .ok (.invokespecial 67, 3) := by decide +kernel
theorem dX10_init_157 : decode cX10_init 157 = .ok (.putfield 68, 3) := by decide +kernel
theorem dX10_init_160 : decode cX10_init 160 = .ok (.aload_n 0, 1) := by decide +kernel
theorem dX10_init_161 : decode cX10_init 161 = .ok (.new 72, 3) := by decide +kernel
theorem dX10_init_164 : decode cX10_init 164 = .ok (.dup, 1) := by decide +kernel
theorem dX10_init_165 : decode cX10_init 165 = .ok (.invokespecial 74, 3) := by decide +kernel
theorem dX10_init_168 : decode cX10_init 168 = .ok (.putfield 75, 3) := by decide +kernel
theorem dX10_init_171 : decode cX10_init 171 = .ok (.return_, 1) := by decide +kernel
theorem dX10_feed_0 : decode cX10_feed 0 = .ok (.iload_n 1, 1) := by decide +kernel
theorem dX10_feed_1 : decode cX10_feed 1 = .ok (.iconst 0, 1) := by decide +kernel
theorem dX10_feed_2 : decode cX10_feed 2 = .ok (.sipush 255, 3) := by decide +kernel
theorem dX10_feed_5 : decode cX10_feed 5 = .ok (.invokestatic 79, 3) := by decide +kernel
theorem dX10_feed_8 : decode cX10_feed 8 = .ok (.ifCond .ne 5, 3) := by decide +kernel
theorem dX10_feed_11 : decode cX10_feed 11 = .ok (.iconst (-1), 1) := by decide +kernel
theorem dX10_feed_12 : decode cX10_feed 12 = .ok (.ireturn, 1) := by decide +kernel
theorem dX10_feed_13 : decode cX10_feed 13 = .ok (.aload_n 0, 1) := by decide +kernel
theorem dX10_feed_14 : decode cX10_feed 14 = .ok (.getfield 10, 3) := by decide +kernel
theorem dX10_feed_17 : decode cX10_feed 17 = .ok (.iload_n 1, 1) := by decide +kernel
theorem dX10_feed_18 : decode cX10_feed 18 = .ok (.invokevirtual 83, 3) := by decide +kernel
theorem dX10_feed_21 : decode cX10_feed 21 = .ok (.ifCond .eq 13, 3) := by decide +kernel
theorem dX10_feed_24 : decode cX10_feed 24 = .ok (.aload_n 0, 1) := by decide +kernel
theorem dX10_feed_25 : decode cX10_feed 25 = .ok (.getfield 10, 3) := by decide +kernel
theorem dX10_feed_28 : decode cX10_feed 28 = .ok (.getfield 87, 3) := by decide +kernel
theorem dX10_feed_31 : decode cX10_feed 31 = .ok (.goto 5, 3) := by decide +kernel
theorem dX10_feed_34 : decode cX10_feed 34 = .ok (.bipush (-3), 2) := by decide +kernel
theorem dX10_feed_36 : decode cX10_feed 36 = .ok (.ireturn, 1) := by decide +kernel
theorem dX10_wall_0 : decode cX10_wall 0 = .ok (.aload_n 0, 1) := by decide +kernel
theorem dX10_wall_1 : decode cX10_wall 1 = .ok (.getfield 10, 3) := by decide +kernel
theorem dX10_wall_4 : decode cX10_wall 4 = .ok (.aload_n 0, 1) := by decide +kernel
theorem dX10_wall_5 : decode cX10_wall 5 = .ok (.getfield 23, 3) := by decide +kernel
theorem dX10_wall_8 : decode cX10_wall 8 = .ok (.invokevirtual 91, 3) := by decide +kernel
theorem dX10_wall_11 : decode cX10_wall 11 = .ok (.istore_n 1, 1) := by decide +kernel
theorem dX10_wall_12 : decode cX10_wall 12 = .ok (.aload_n 0, 1) := by decide +kernel
theorem dX10_wall_13 : decode cX10_wall 13 = .ok (.getfield 10, 3) := by decide +kernel
theorem dX10_wall_16 : decode cX10_wall 16 = .ok (.iconst 0, 1) := by decide +kernel
theorem dX10_wall_17 : decode cX10_wall 17 = .ok (.putfield 87, 3) := by decide +kernel
theorem dX10_wall_20 : decode cX10_wall 20 = .ok (.iload_n 1, 1) := by decide +kernel
theorem dX10_wall_21 : decode cX10_wall 21 = .ok (.iconst (-1), 1) := by decide +kernel
theorem dX10_wall_22 : decode cX10_wall 22 = .ok (.if_icmp .eq 8, 3) := by decide +kernel
theorem dX10_wall_25 : decode cX10_wall 25 = .ok (.bipush (-100), 2) := by decide +kernel
theorem dX10_wall_27 : decode cX10_wall 27 = .ok (.iload_n 1, 1) := by decide +kernel
theorem dX10_wall_28 : decode cX10_wall 28 = .ok (.isub, 1) := by decide +kernel
theorem dX10_wall_29 : decode cX10_wall 29 = .ok (.ireturn, 1) := by decide +kernel
theorem dX10_wall_30 : decode cX10_wall 30 = .ok (.aload_n 0, 1) := by decide +kernel
theorem dX10_wall_31 : decode cX10_wall 31 = .ok (.getfield 23, 3) := by decide +kernel
theorem dX10_wall_34 : decode cX10_wall 34 = .ok (.aload_n 0, 1) := by decide +kernel
theorem dX10_wall_35 : decode cX10_wall 35 = .ok (.getfield 19, 3) := by decide +kernel
theorem dX10_wall_38 : decode cX10_wall 38 = .ok (.getfield 95, 3) := by decide +kernel
theorem dX10_wall_41 : decode cX10_wall 41 = .ok (.putfield 95, 3) := by decide +kernel
theorem dX10_wall_44 : decode cX10_wall 44 = .ok (.aload_n 0, 1) := by decide +kernel
theorem dX10_wall_45 : decode cX10_wall 45 = .ok (.getfield 19, 3) := by decide +kernel
theorem dX10_wall_48 : decode cX10_wall 48 = .ok (.aload_n 0, 1) := by decide +kernel
theorem dX10_wall_49 : decode cX10_wall 49 = .ok (.getfield 23, 3) := by decide +kernel
theorem dX10_wall_52 : decode cX10_wall 52 = .ok (.invokevirtual 98, 3) := by decide +kernel
theorem dX10_wall_55 : decode cX10_wall 55 = .ok (.aload_n 0, 1) := by decide +kernel
theorem dX10_wall_56 : decode cX10_wall 56 = .ok (.getfield 29, 3) := by decide +kernel
theorem dX10_wall_59 : decode cX10_wall 59 = .ok (.invokevirtual 102, 3) := by decide +kernel
theorem dX10_wall_62 : decode cX10_wall 62 = .ok (.aload_n 0, 1) := by decide +kernel
theorem dX10_wall_63 : decode cX10_wall 63 = .ok (.getfield 19, 3) := by decide +kernel
theorem dX10_wall_66 : decode cX10_wall 66 = .ok (.getfield 105, 3) := by decide +kernel
theorem dX10_wall_69 : decode cX10_wall 69 = .ok (.ireturn, 1) := by decide +kernel
theorem dX10_sitter_0 : decode cX10_sitter 0 = .ok (.aload_n 0, 1) := by decide +kernel
theorem dX10_sitter_1 : decode cX10_sitter 1 = .ok (.getfield 19, 3) := by decide +kernel
theorem dX10_sitter_4 : decode cX10_sitter 4 = .ok (.iload_n 1, 1) := by decide +kernel
theorem dX10_sitter_5 : decode cX10_sitter 5 = .ok (.invokevirtual 108, 3) := by decide +kernel
theorem dX10_sitter_8 : decode cX10_sitter 8 = .ok (.ifCond .ne 5, 3) := by decide +kernel
theorem dX10_sitter_11 : decode cX10_sitter 11 = .ok (.iconst (-1), 1) := by decide +kernel
theorem dX10_sitter_12 : decode cX10_sitter 12 = .ok (.ireturn, 1) := by decide +kernel
theorem dX10_sitter_13 : decode cX10_sitter 13 = .ok (.aload_n 0, 1) := by decide +kernel
theorem dX10_sitter_14 : decode cX10_sitter 14 = .ok (.getfield 19, 3) := by decide +kernel
theorem dX10_sitter_17 : decode cX10_sitter 17 = .ok (.getfield 111, 3) := by decide +kernel
theorem dX10_sitter_20 : decode cX10_sitter 20 = .ok (.iload_n 1, 1) := by decide +kernel
theorem dX10_sitter_21 : decode cX10_sitter 21 = .ok (.aaload, 1) := by decide +kernel
theorem dX10_sitter_22 : decode cX10_sitter 22 = .ok (.astore_n 3, 1) := by decide +kernel
theorem dX10_sitter_23 : decode cX10_sitter 23 = .ok (.iload_n 2, 1) := by decide +kernel
theorem dX10_sitter_24 : decode cX10_sitter 24 = .ok (.tableswitch 123 0 10 #[60, 65, 70, 75, 80, 85, 90, 95, 100, 105, 118], 60) := by decide +kernel
theorem dX10_sitter_84 : decode cX10_sitter 84 = .ok (.aload_n 3, 1) := by decide +kernel
theorem dX10_sitter_85 : decode cX10_sitter 85 = .ok (.getfield 115, 3) := by decide +kernel
theorem dX10_sitter_88 : decode cX10_sitter 88 = .ok (.ireturn, 1) := by decide +kernel
theorem dX10_sitter_89 : decode cX10_sitter 89 = .ok (.aload_n 3, 1) := by decide +kernel
theorem dX10_sitter_90 : decode cX10_sitter 90 = .ok (.getfield 120, 3) := by decide +kernel
theorem dX10_sitter_93 : decode cX10_sitter 93 = .ok (.ireturn, 1) := by decide +kernel
theorem dX10_sitter_94 : decode cX10_sitter 94 = .ok (.aload_n 3, 1) := by decide +kernel
theorem dX10_sitter_95 : decode cX10_sitter 95 = .ok (.getfield 123, 3) := by decide +kernel
theorem dX10_sitter_98 : decode cX10_sitter 98 = .ok (.ireturn, 1) := by decide +kernel
theorem dX10_sitter_99 : decode cX10_sitter 99 = .ok (.aload_n 3, 1) := by decide +kernel
theorem dX10_sitter_100 : decode cX10_sitter 100 = .ok (.getfield 126, 3) := by decide +kernel
theorem dX10_sitter_103 : decode cX10_sitter 103 = .ok (.ireturn, 1) := by decide +kernel
theorem dX10_sitter_104 : decode cX10_sitter 104 = .ok (.aload_n 3, 1) := by decide +kernel
theorem dX10_sitter_105 : decode cX10_sitter 105 = .ok (.getfield 129, 3) := by decide +kernel
theorem dX10_sitter_108 : decode cX10_sitter 108 = .ok (.ireturn, 1) := by decide +kernel
theorem dX10_sitter_109 : decode cX10_sitter 109 = .ok (.aload_n 3, 1) := by decide +kernel
theorem dX10_sitter_110 : decode cX10_sitter 110 = .ok (.getfield 132, 3) := by decide +kernel
theorem dX10_sitter_113 : decode cX10_sitter 113 = .ok (.ireturn, 1) := by decide +kernel
theorem dX10_sitter_114 : decode cX10_sitter 114 = .ok (.aload_n 3, 1) := by decide +kernel
theorem dX10_sitter_115 : decode cX10_sitter 115 = .ok (.getfield 135, 3) := by decide +kernel
theorem dX10_sitter_118 : decode cX10_sitter 118 = .ok (.ireturn, 1) := by decide +kernel
theorem dX10_sitter_119 : decode cX10_sitter 119 = .ok (.aload_n 3, 1) := by decide +kernel
theorem dX10_sitter_120 : decode cX10_sitter 120 = .ok (.getfield 138, 3) := by decide +kernel
theorem dX10_sitter_123 : decode cX10_sitter 123 = .ok (.ireturn, 1) := by decide +kernel
theorem dX10_sitter_124 : decode cX10_sitter 124 = .ok (.aload_n 3, 1) := by decide +kernel
theorem dX10_sitter_125 : decode cX10_sitter 125 = .ok (.getfield 141, 3) := by decide +kernel
theorem dX10_sitter_128 : decode cX10_sitter 128 = .ok (.ireturn, 1) := by decide +kernel
theorem dX10_sitter_129 : decode cX10_sitter 129 = .ok (.aload_n 3, 1) := by decide +kernel
theorem dX10_sitter_130 : decode cX10_sitter 130 = .ok (.getfield 144, 3) := by decide +kernel
theorem dX10_sitter_133 : decode cX10_sitter 133 = .ok (.ifCond .eq 7, 3) := by decide +kernel
theorem dX10_sitter_136 : decode cX10_sitter 136 = .ok (.iconst 1, 1) := by decide +kernel
theorem dX10_sitter_137 : decode cX10_sitter 137 = .ok (.goto 4, 3) := by decide +kernel
theorem dX10_sitter_140 : decode cX10_sitter 140 = .ok (.iconst 0, 1) := by decide +kernel
theorem dX10_sitter_141 : decode cX10_sitter 141 = .ok (.ireturn, 1) := by decide +kernel
theorem dX10_sitter_142 : decode cX10_sitter 142 = .ok (.aload_n 3, 1) := by decide +kernel
theorem dX10_sitter_143 : decode cX10_sitter 143 = .ok (.getfield 148, 3) := by decide +kernel
theorem dX10_sitter_146 : decode cX10_sitter 146 = .ok (.ireturn, 1) := by decide +kernel
theorem dX10_sitter_147 : decode cX10_sitter 147 = .ok (.iconst (-1), 1) := by decide +kernel
theorem dX10_sitter_148 : decode cX10_sitter 148 = .ok (.ireturn, 1) := by decide +kernel
theorem dX10_growth_0 : decode cX10_growth 0 = .ok (.aload_n 0, 1) := by decide +kernel
theorem dX10_growth_1 : decode cX10_growth 1 = .ok (.getfield 19, 3) := by decide +kernel
theorem dX10_growth_4 : decode cX10_growth 4 = .ok (.iload_n 1, 1) := by decide +kernel
theorem dX10_growth_5 : decode cX10_growth 5 = .ok (.invokevirtual 108, 3) := by decide +kernel
theorem dX10_growth_8 : decode cX10_growth 8 = .ok (.ifCond .eq 12, 3) := by decide +kernel
theorem dX10_growth_11 : decode cX10_growth 11 = .ok (.iload_n 2, 1) := by decide +kernel
theorem dX10_growth_12 : decode cX10_growth 12 = .ok (.iconst 0, 1) := by decide +kernel
theorem dX10_growth_13 : decode cX10_growth 13 = .ok (.iconst 2, 1) := by decide +kernel
theorem dX10_growth_14 : decode cX10_growth 14 = .ok (.invokestatic 79, 3) := by decide +kernel
theorem dX10_growth_17 : decode cX10_growth 17 = .ok (.ifCond .ne 5, 3) := by decide +kernel
theorem dX10_growth_20 : decode cX10_growth 20 = .ok (.iconst (-1), 1) := by decide +kernel
theorem dX10_growth_21 : decode cX10_growth 21 = .ok (.ireturn, 1) := by decide +kernel
theorem dX10_growth_22 : decode cX10_growth 22 = .ok (.aload_n 0, 1) := by decide +kernel
theorem dX10_growth_23 : decode cX10_growth 23 = .ok (.getfield 19, 3) := by decide +kernel
theorem dX10_growth_26 : decode cX10_growth 26 = .ok (.getfield 111, 3) := by decide +kernel
theorem dX10_growth_29 : decode cX10_growth 29 = .ok (.iload_n 1, 1) := by decide +kernel
theorem dX10_growth_30 : decode cX10_growth 30 = .ok (.aaload, 1) := by decide +kernel
theorem dX10_growth_31 : decode cX10_growth 31 = .ok (.iload_n 2, 1) := by decide +kernel
theorem dX10_growth_32 : decode cX10_growth 32 = .ok (.aload_n 0, 1) := by decide +kernel
theorem dX10_growth_33 : decode cX10_growth 33 = .ok (.getfield 19, 3) := by decide +kernel
theorem dX10_growth_36 : decode cX10_growth 36 = .ok (.invokevirtual 151, 3) := by decide +kernel
theorem dX10_growth_39 : decode cX10_growth 39 = .ok (.invokevirtual 155, 3) := by decide +kernel
theorem dX10_growth_42 : decode cX10_growth 42 = .ok (.ireturn, 1) := by decide +kernel
theorem dX10_as_0 : decode cX10_as 0 = .ok (.aload_n 0, 1) := by decide +kernel
theorem dX10_as_1 : decode cX10_as 1 = .ok (.getfield 19, 3) := by decide +kernel
theorem dX10_as_4 : decode cX10_as 4 = .ok (.iload_n 1, 1) := by decide +kernel
theorem dX10_as_5 : decode cX10_as 5 = .ok (.invokevirtual 108, 3) := by decide +kernel
theorem dX10_as_8 : decode cX10_as 8 = .ok (.ifCond .eq 12, 3) := by decide +kernel
theorem dX10_as_11 : decode cX10_as 11 = .ok (.iload_n 2, 1) := by decide +kernel
theorem dX10_as_12 : decode cX10_as 12 = .ok (.iconst 0, 1) := by decide +kernel
theorem dX10_as_13 : decode cX10_as 13 = .ok (.iconst 5, 1) := by decide +kernel
theorem dX10_as_14 : decode cX10_as 14 = .ok (.invokestatic 79, 3) := by decide +kernel
theorem dX10_as_17 : decode cX10_as 17 = .ok (.ifCond .ne 5, 3) := by decide +kernel
theorem dX10_as_20 : decode cX10_as 20 = .ok (.iconst (-1), 1) := by decide +kernel
theorem dX10_as_21 : decode cX10_as 21 = .ok (.ireturn, 1) := by decide +kernel
theorem dX10_as_22 : decode cX10_as 22 = .ok (.aload_n 0, 1) := by decide +kernel
theorem dX10_as_23 : decode cX10_as 23 = .ok (.getfield 19, 3) := by decide +kernel
theorem dX10_as_26 : decode cX10_as 26 = .ok (.getfield 111, 3) := by decide +kernel
theorem dX10_as_29 : decode cX10_as 29 = .ok (.iload_n 1, 1) := by decide +kernel
theorem dX10_as_30 : decode cX10_as 30 = .ok (.aaload, 1) := by decide +kernel
theorem dX10_as_31 : decode cX10_as 31 = .ok (.getfield 115, 3) := by decide +kernel
theorem dX10_as_34 : decode cX10_as 34 = .ok (.iload_n 2, 1) := by decide +kernel
theorem dX10_as_35 : decode cX10_as 35 = .ok (.invokestatic 159, 3) := by decide +kernel
theorem dX10_as_38 : decode cX10_as 38 = .ok (.ifCond .eq 7, 3) := by decide +kernel
theorem dX10_as_41 : decode cX10_as 41 = .ok (.iload_n 1, 1) := by decide +kernel
theorem dX10_as_42 : decode cX10_as 42 = .ok (.goto 5, 3) := by decide +kernel
theorem dX10_as_45 : decode cX10_as 45 = .ok (.bipush (-12), 2) := by decide +kernel
theorem dX10_as_47 : decode cX10_as 47 = .ok (.ireturn, 1) := by decide +kernel
theorem dX10_hours_0 : decode cX10_hours 0 = .ok (.iload_n 1, 1) := by decide +kernel
theorem dX10_hours_1 : decode cX10_hours 1 = .ok (.iconst 1, 1) := by decide +kernel
theorem dX10_hours_2 : decode cX10_hours 2 = .ok (.bipush 24, 2) := by decide +kernel
theorem dX10_hours_4 : decode cX10_hours 4 = .ok (.invokestatic 79, 3) := by decide +kernel
theorem dX10_hours_7 : decode cX10_hours 7 = .ok (.ifCond .ne 5, 3) := by decide +kernel
theorem dX10_hours_10 : decode cX10_hours 10 = .ok (.iconst (-1), 1) := by decide +kernel
theorem dX10_hours_11 : decode cX10_hours 11 = .ok (.ireturn, 1) := by decide +kernel
theorem dX10_hours_12 : decode cX10_hours 12 = .ok (.aload_n 0, 1) := by decide +kernel
theorem dX10_hours_13 : decode cX10_hours 13 = .ok (.getfield 19, 3) := by decide +kernel
theorem dX10_hours_16 : decode cX10_hours 16 = .ok (.invokevirtual 163, 3) := by decide +kernel
theorem dX10_hours_19 : decode cX10_hours 19 = .ok (.ifCond .ne 6, 3) := by decide +kernel
theorem dX10_hours_22 : decode cX10_hours 22 = .ok (.bipush (-2), 2) := by decide +kernel
theorem dX10_hours_24 : decode cX10_hours 24 = .ok (.ireturn, 1) := by decide +kernel
theorem dX10_hours_25 : decode cX10_hours 25 = .ok (.aload_n 0, 1) := by decide +kernel
theorem dX10_hours_26 : decode cX10_hours 26 = .ok (.getfield 19, 3) := by decide +kernel
theorem dX10_hours_29 : decode cX10_hours 29 = .ok (.getfield 166, 3) := by decide +kernel
theorem dX10_hours_32 : decode cX10_hours 32 = .ok (.iload_n 1, 1) := by decide +kernel
theorem dX10_hours_33 : decode cX10_hours 33 = .ok (.iadd, 1) := by decide +kernel
theorem dX10_hours_34 : decode cX10_hours 34 = .ok (.sipush 9999, 3) := by decide +kernel
theorem dX10_hours_37 : decode cX10_hours 37 = .ok (.if_icmp .le 6, 3) := by decide +kernel
theorem dX10_hours_40 : decode cX10_hours 40 = .ok (.bipush (-3), 2) := by decide +kernel
theorem dX10_hours_42 : decode cX10_hours 42 = .ok (.ireturn, 1) := by decide +kernel
theorem dX10_hours_43 : decode cX10_hours 43 = .ok (.iconst 0, 1) := by decide +kernel
theorem dX10_hours_44 : decode cX10_hours 44 = .ok (.istore_n 2, 1) := by decide +kernel
theorem dX10_hours_45 : decode cX10_hours 45 = .ok (.iload_n 2, 1) := by decide +kernel
theorem dX10_hours_46 : decode cX10_hours 46 = .ok (.iload_n 1, 1) := by decide +kernel
theorem dX10_hours_47 : decode cX10_hours 47 = .ok (.if_icmp .ge 27, 3) := by decide +kernel
theorem dX10_hours_50 : decode cX10_hours 50 = .ok (.aload_n 0, 1) := by decide +kernel
theorem dX10_hours_51 : decode cX10_hours 51 = .ok (.getfield 29, 3) := by decide +kernel
theorem dX10_hours_54 : decode cX10_hours 54 = .ok (.aload_n 0, 1) := by decide +kernel
theorem dX10_hours_55 : decode cX10_hours 55 = .ok (.getfield 19, 3) := by decide +kernel
theorem dX10_hours_58 : decode cX10_hours 58 = .ok (.invokevirtual 169, 3) := by decide +kernel
theorem dX10_hours_61 : decode cX10_hours 61 = .ok (.aload_n 0, 1) := by decide +kernel
theorem dX10_hours_62 : decode cX10_hours 62 = .ok (.getfield 19, 3) := by decide +kernel
theorem dX10_hours_65 : decode cX10_hours 65 = .ok (.invokevirtual 172, 3) := by decide +kernel
theorem dX10_hours_68 : decode cX10_hours 68 = .ok (.iinc 2 1, 3) := by decide +kernel
theorem dX10_hours_71 : decode cX10_hours 71 = .ok (.goto (-26), 3) := by decide +kernel
theorem dX10_hours_74 : decode cX10_hours 74 = .ok (.aload_n 0, 1) := by decide +kernel
theorem dX10_hours_75 : decode cX10_hours 75 = .ok (.getfield 19, 3) := by decide +kernel
theorem dX10_hours_78 : decode cX10_hours 78 = .ok (.invokevirtual 175, 3) := by decide +kernel
theorem dX10_hours_81 : decode cX10_hours 81 = .ok (.ireturn, 1) := by decide +kernel
theorem dX10_crust_0 : decode cX10_crust 0 = .ok (.aload_n 0, 1) := by decide +kernel
theorem dX10_crust_1 : decode cX10_crust 1 = .ok (.getfield 19, 3) := by decide +kernel
theorem dX10_crust_4 : decode cX10_crust 4 = .ok (.iload_n 1, 1) := by decide +kernel
theorem dX10_crust_5 : decode cX10_crust 5 = .ok (.invokevirtual 108, 3) := by decide +kernel
theorem dX10_crust_8 : decode cX10_crust 8 = .ok (.ifCond .ne 5, 3) := by decide +kernel
theorem dX10_crust_11 : decode cX10_crust 11 = .ok (.iconst (-1), 1) := by decide +kernel
theorem dX10_crust_12 : decode cX10_crust 12 = .ok (.ireturn, 1) := by decide +kernel
theorem dX10_crust_13 : decode cX10_crust 13 = .ok (.aload_n 0, 1) := by decide +kernel
theorem dX10_crust_14 : decode cX10_crust 14 = .ok (.getfield 19, 3) := by decide +kernel
theorem dX10_crust_17 : decode cX10_crust 17 = .ok (.getfield 111, 3) := by decide +kernel
theorem dX10_crust_20 : decode cX10_crust 20 = .ok (.iload_n 1, 1) := by decide +kernel
theorem dX10_crust_21 : decode cX10_crust 21 = .ok (.aaload, 1) := by decide +kernel
theorem dX10_crust_22 : decode cX10_crust 22 = .ok (.astore_n 2, 1) := by decide +kernel
theorem dX10_crust_23 : decode cX10_crust 23 = .ok (.aload_n 2, 1) := by decide +kernel
theorem dX10_crust_24 : decode cX10_crust 24 = .ok (.invokevirtual 179, 3) := by decide +kernel
theorem dX10_crust_27 : decode cX10_crust 27 = .ok (.ifCond .ne 6, 3) := by decide +kernel
theorem dX10_crust_30 : decode cX10_crust 30 = .ok (.bipush (-2), 2) := by decide +kernel
theorem dX10_crust_32 : decode cX10_crust 32 = .ok (.ireturn, 1) := by decide +kernel
theorem dX10_crust_33 : decode cX10_crust 33 = .ok (.aload_n 0, 1) := by decide +kernel
theorem dX10_crust_34 : decode cX10_crust 34 = .ok (.getfield 29, 3) := by decide +kernel
theorem dX10_crust_37 : decode cX10_crust 37 = .ok (.aload_n 0, 1) := by decide +kernel
theorem dX10_crust_38 : decode cX10_crust 38 = .ok (.getfield 19, 3) := by decide +kernel
theorem dX10_crust_41 : decode cX10_crust 41 = .ok (.invokevirtual 169, 3) := by decide +kernel
theorem dX10_crust_44 : decode cX10_crust 44 = .ok (.aload_n 2, 1) := by decide +kernel
theorem dX10_crust_45 : decode cX10_crust 45 = .ok (.invokevirtual 182, 3) := by decide +kernel
theorem dX10_crust_48 : decode cX10_crust 48 = .ok (.aload_n 2, 1) := by decide +kernel
theorem dX10_crust_49 : decode cX10_crust 49 = .ok (.getfield 132, 3) := by decide +kernel
theorem dX10_crust_52 : decode cX10_crust 52 = .ok (.ireturn, 1) := by decide +kernel
theorem dX10_news_0 : decode cX10_news 0 = .ok (.aload_n 0, 1) := by decide +kernel
theorem dX10_news_1 : decode cX10_news 1 = .ok (.getfield 19, 3) := by decide +kernel
theorem dX10_news_4 : decode cX10_news 4 = .ok (.iload_n 1, 1) := by decide +kernel
theorem dX10_news_5 : decode cX10_news 5 = .ok (.invokevirtual 108, 3) := by decide +kernel
theorem dX10_news_8 : decode cX10_news 8 = .ok (.ifCond .eq 12, 3) := by decide +kernel
theorem dX10_news_11 : decode cX10_news 11 = .ok (.iload_n 2, 1) := by decide +kernel
theorem dX10_news_12 : decode cX10_news 12 = .ok (.iconst 0, 1) := by decide +kernel
theorem dX10_news_13 : decode cX10_news 13 = .ok (.iconst 2, 1) := by decide +kernel
theorem dX10_news_14 : decode cX10_news 14 = .ok (.invokestatic 79, 3) := by decide +kernel
theorem dX10_news_17 : decode cX10_news 17 = .ok (.ifCond .ne 5, 3) := by decide +kernel
theorem dX10_news_20 : decode cX10_news 20 = .ok (.iconst (-1), 1) := by decide +kernel
theorem dX10_news_21 : decode cX10_news 21 = .ok (.ireturn, 1) := by decide +kernel
theorem dX10_news_22 : decode cX10_news 22 = .ok (.aload_n 0, 1) := by decide +kernel
theorem dX10_news_23 : decode cX10_news 23 = .ok (.getfield 19, 3) := by decide +kernel
theorem dX10_news_26 : decode cX10_news 26 = .ok (.getfield 111, 3) := by decide +kernel
theorem dX10_news_29 : decode cX10_news 29 = .ok (.iload_n 1, 1) := by decide +kernel
theorem dX10_news_30 : decode cX10_news 30 = .ok (.aaload, 1) := by decide +kernel
theorem dX10_news_31 : decode cX10_news 31 = .ok (.astore_n 3, 1) := by decide +kernel
theorem dX10_news_32 : decode cX10_news 32 = .ok (.aload_n 3, 1) := by decide +kernel
theorem dX10_news_33 : decode cX10_news 33 = .ok (.invokevirtual 185, 3) := by decide +kernel
theorem dX10_news_36 : decode cX10_news 36 = .ok (.ifCond .ne 6, 3) := by decide +kernel
theorem dX10_news_39 : decode cX10_news 39 = .ok (.bipush (-2), 2) := by decide +kernel
theorem dX10_news_41 : decode cX10_news 41 = .ok (.ireturn, 1) := by decide +kernel
theorem dX10_news_42 : decode cX10_news 42 = .ok (.aload_n 0, 1) := by decide +kernel
theorem dX10_news_43 : decode cX10_news 43 = .ok (.getfield 29, 3) := by decide +kernel
theorem dX10_news_46 : decode cX10_news 46 = .ok (.aload_n 0, 1) := by decide +kernel
theorem dX10_news_47 : decode cX10_news 47 = .ok (.getfield 19, 3) := by decide +kernel
theorem dX10_news_50 : decode cX10_news 50 = .ok (.invokevirtual 169, 3) := by decide +kernel
theorem dX10_news_53 : decode cX10_news 53 = .ok (.aload_n 3, 1) := by decide +kernel
theorem dX10_news_54 : decode cX10_news 54 = .ok (.getfield 138, 3) := by decide +kernel
theorem dX10_news_57 : decode cX10_news 57 = .ok (.istore 4, 2) := by decide +kernel
theorem dX10_news_59 : decode cX10_news 59 = .ok (.aload_n 3, 1) := by decide +kernel
theorem dX10_news_60 : decode cX10_news 60 = .ok (.iload_n 2, 1) := by decide +kernel
theorem dX10_news_61 : decode cX10_news 61 = .ok (.putfield 138, 3) := by decide +kernel
theorem dX10_news_64 : decode cX10_news 64 = .ok (.iload 4, 2) := by decide +kernel
theorem dX10_news_66 : decode cX10_news 66 = .ok (.ireturn, 1) := by decide +kernel
theorem dX10_praise_0 : decode cX10_praise 0 = .ok (.aload_n 0, 1) := by decide +kernel
theorem dX10_praise_1 : decode cX10_praise 1 = .ok (.getfield 19, 3) := by decide +kernel
theorem dX10_praise_4 : decode cX10_praise 4 = .ok (.iload_n 1, 1) := by decide +kernel
theorem dX10_praise_5 : decode cX10_praise 5 = .ok (.invokevirtual 108, 3) := by decide +kernel
theorem dX10_praise_8 : decode cX10_praise 8 = .ok (.ifCond .ne 5, 3) := by decide +kernel
theorem dX10_praise_11 : decode cX10_praise 11 = .ok (.iconst (-1), 1) := by decide +kernel
theorem dX10_praise_12 : decode cX10_praise 12 = .ok (.ireturn, 1) := by decide +kernel
theorem dX10_praise_13 : decode cX10_praise 13 = .ok (.aload_n 0, 1) := by decide +kernel
theorem dX10_praise_14 : decode cX10_praise 14 = .ok (.getfield 19, 3) := by decide +kernel
theorem dX10_praise_17 : decode cX10_praise 17 = .ok (.getfield 111, 3) := by decide +kernel
theorem dX10_praise_20 : decode cX10_praise 20 = .ok (.iload_n 1, 1) := by decide +kernel
theorem dX10_praise_21 : decode cX10_praise 21 = .ok (.aaload, 1) := by decide +kernel
theorem dX10_praise_22 : decode cX10_praise 22 = .ok (.astore_n 2, 1) := by decide +kernel
theorem dX10_praise_23 : decode cX10_praise 23 = .ok (.aload_n 2, 1) := by decide +kernel
theorem dX10_praise_24 : decode cX10_praise 24 = .ok (.invokevirtual 185, 3) := by decide +kernel
theorem dX10_praise_27 : decode cX10_praise 27 = .ok (.ifCond .eq 12, 3) := by decide +kernel
theorem dX10_praise_30 : decode cX10_praise 30 = .ok (.aload_n 2, 1) := by decide +kernel
theorem dX10_praise_31 : decode cX10_praise 31 = .ok (.getfield 141, 3) := by decide +kernel
theorem dX10_praise_34 : decode cX10_praise 34 = .ok (.bipush 9, 2) := by decide +kernel
theorem dX10_praise_36 : decode cX10_praise 36 = .ok (.if_icmp .lt 6, 3) := by decide +kernel
theorem dX10_praise_39 : decode cX10_praise 39 = .ok (.bipush (-2), 2) := by decide +kernel
theorem dX10_praise_41 : decode cX10_praise 41 = .ok (.ireturn, 1) := by decide +kernel
theorem dX10_praise_42 : decode cX10_praise 42 = .ok (.aload_n 0, 1) := by decide +kernel
theorem dX10_praise_43 : decode cX10_praise 43 = .ok (.getfield 29, 3) := by decide +kernel
theorem dX10_praise_46 : decode cX10_praise 46 = .ok (.aload_n 0, 1) := by decide +kernel
theorem dX10_praise_47 : decode cX10_praise 47 = .ok (.getfield 19, 3) := by decide +kernel
theorem dX10_praise_50 : decode cX10_praise 50 = .ok (.invokevirtual 169, 3) := by decide +kernel
theorem dX10_praise_53 : decode cX10_praise 53 = .ok (.aload_n 2, 1) := by decide +kernel
theorem dX10_praise_54 : decode cX10_praise 54 = .ok (.dup, 1) := by decide +kernel
theorem dX10_praise_55 : decode cX10_praise 55 = .ok (.getfield 141, 3) := by decide +kernel
theorem dX10_praise_58 : decode cX10_praise 58 = .ok (.iconst 1, 1) := by decide +kernel
theorem dX10_praise_59 : decode cX10_praise 59 = .ok (.iadd, 1) := by decide +kernel
theorem dX10_praise_60 : decode cX10_praise 60 = .ok (.putfield 141, 3) := by decide +kernel
theorem dX10_praise_63 : decode cX10_praise 63 = .ok (.aload_n 2, 1) := by decide +kernel
theorem dX10_praise_64 : decode cX10_praise 64 = .ok (.getfield 141, 3) := by decide +kernel
theorem dX10_praise_67 : decode cX10_praise 67 = .ok (.ireturn, 1) := by decide +kernel
theorem dX10_cloak_0 : decode cX10_cloak 0 = .ok (.aload_n 0, 1) := by decide +kernel
theorem dX10_cloak_1 : decode cX10_cloak 1 = .ok (.getfield 19, 3) := by decide +kernel
theorem dX10_cloak_4 : decode cX10_cloak 4 = .ok (.iload_n 1, 1) := by decide +kernel
theorem dX10_cloak_5 : decode cX10_cloak 5 = .ok (.invokevirtual 108, 3) := by decide +kernel
theorem dX10_cloak_8 : decode cX10_cloak 8 = .ok (.ifCond .eq 12, 3) := by decide +kernel
theorem dX10_cloak_11 : decode cX10_cloak 11 = .ok (.iload_n 2, 1) := by decide +kernel
theorem dX10_cloak_12 : decode cX10_cloak 12 = .ok (.iconst 0, 1) := by decide +kernel
theorem dX10_cloak_13 : decode cX10_cloak 13 = .ok (.iconst 1, 1) := by decide +kernel
theorem dX10_cloak_14 : decode cX10_cloak 14 = .ok (.invokestatic 79, 3) := by decide +kernel
theorem dX10_cloak_17 : decode cX10_cloak 17 = .ok (.ifCond .ne 5, 3) := by decide +kernel
theorem dX10_cloak_20 : decode cX10_cloak 20 = .ok (.iconst (-1), 1) := by decide +kernel
theorem dX10_cloak_21 : decode cX10_cloak 21 = .ok (.ireturn, 1) := by decide +kernel
theorem dX10_cloak_22 : decode cX10_cloak 22 = .ok (.aload_n 0, 1) := by decide +kernel
theorem dX10_cloak_23 : decode cX10_cloak 23 = .ok (.getfield 19, 3) := by decide +kernel
theorem dX10_cloak_26 : decode cX10_cloak 26 = .ok (.getfield 111, 3) := by decide +kernel
theorem dX10_cloak_29 : decode cX10_cloak 29 = .ok (.iload_n 1, 1) := by decide +kernel
theorem dX10_cloak_30 : decode cX10_cloak 30 = .ok (.aaload, 1) := by decide +kernel
theorem dX10_cloak_31 : decode cX10_cloak 31 = .ok (.astore_n 3, 1) := by decide +kernel
theorem dX10_cloak_32 : decode cX10_cloak 32 = .ok (.iload_n 2, 1) := by decide +kernel
theorem dX10_cloak_33 : decode cX10_cloak 33 = .ok (.iconst 1, 1) := by decide +kernel
theorem dX10_cloak_34 : decode cX10_cloak 34 = .ok (.if_icmp .ne 7, 3) := by decide +kernel
theorem dX10_cloak_37 : decode cX10_cloak 37 = .ok (.iconst 1, 1) := by decide +kernel
theorem dX10_cloak_38 : decode cX10_cloak 38 = .ok (.goto 4, 3) := by decide +kernel
theorem dX10_cloak_41 : decode cX10_cloak 41 = .ok (.iconst 0, 1) := by decide +kernel
theorem dX10_cloak_42 : decode cX10_cloak 42 = .ok (.istore 4, 2) := by decide +kernel
theorem dX10_cloak_44 : decode cX10_cloak 44 = .ok (.aload_n 3, 1) := by decide +kernel
theorem dX10_cloak_45 : decode cX10_cloak 45 = .ok (.invokevirtual 185, 3) := by decide +kernel
theorem dX10_cloak_48 : decode cX10_cloak 48 = .ok (.ifCond .eq 12, 3) := by decide +kernel
theorem dX10_cloak_51 : decode cX10_cloak 51 = .ok (.aload_n 3, 1) := by decide +kernel
theorem dX10_cloak_52 : decode cX10_cloak 52 = .ok (.getfield 144, 3) := by decide +kernel
theorem dX10_cloak_55 : decode cX10_cloak 55 = .ok (.iload 4, 2) := by decide +kernel
theorem dX10_cloak_57 : decode cX10_cloak 57 = .ok (.if_icmp .ne 6, 3) := by decide +kernel
theorem dX10_cloak_60 : decode cX10_cloak 60 = .ok (.bipush (-2), 2) := by decide +kernel
theorem dX10_cloak_62 : decode cX10_cloak 62 = .ok (.ireturn, 1) := by decide +kernel
theorem dX10_cloak_63 : decode cX10_cloak 63 = .ok (.aload_n 0, 1) := by decide +kernel
theorem dX10_cloak_64 : decode cX10_cloak 64 = .ok (.getfield 29, 3) := by decide +kernel
theorem dX10_cloak_67 : decode cX10_cloak 67 = .ok (.aload_n 0, 1) := by decide +kernel
theorem dX10_cloak_68 : decode cX10_cloak 68 = .ok (.getfield 19, 3) := by decide +kernel
theorem dX10_cloak_71 : decode cX10_cloak 71 = .ok (.invokevirtual 169, 3) := by decide +kernel
theorem dX10_cloak_74 : decode cX10_cloak 74 = .ok (.aload_n 3, 1) := by decide +kernel
theorem dX10_cloak_75 : decode cX10_cloak 75 = .ok (.iload 4, 2) := by decide +kernel
theorem dX10_cloak_77 : decode cX10_cloak 77 = .ok (.putfield 144, 3) := by decide +kernel
theorem dX10_cloak_80 : decode cX10_cloak 80 = .ok (.aload_n 0, 1) := by decide +kernel
theorem dX10_cloak_81 : decode cX10_cloak 81 = .ok (.getfield 19, 3) := by decide +kernel
theorem dX10_cloak_84 : decode cX10_cloak 84 = .ok (.invokevirtual 188, 3) := by decide +kernel
theorem dX10_cloak_87 : decode cX10_cloak 87 = .ok (.ireturn, 1) := by decide +kernel
theorem dX10_heir_0 : decode cX10_heir 0 = .ok (.aload_n 0, 1) := by decide +kernel
theorem dX10_heir_1 : decode cX10_heir 1 = .ok (.getfield 19, 3) := by decide +kernel
theorem dX10_heir_4 : decode cX10_heir 4 = .ok (.iload_n 1, 1) := by decide +kernel
theorem dX10_heir_5 : decode cX10_heir 5 = .ok (.invokevirtual 108, 3) := by decide +kernel
theorem dX10_heir_8 : decode cX10_heir 8 = .ok (.ifCond .ne 5, 3) := by decide +kernel
theorem dX10_heir_11 : decode cX10_heir 11 = .ok (.iconst (-1), 1) := by decide +kernel
theorem dX10_heir_12 : decode cX10_heir 12 = .ok (.ireturn, 1) := by decide +kernel
theorem dX10_heir_13 : decode cX10_heir 13 = .ok (.aload_n 0, 1) := by decide +kernel
theorem dX10_heir_14 : decode cX10_heir 14 = .ok (.getfield 19, 3) := by decide +kernel
theorem dX10_heir_17 : decode cX10_heir 17 = .ok (.getfield 111, 3) := by decide +kernel
theorem dX10_heir_20 : decode cX10_heir 20 = .ok (.iload_n 1, 1) := by decide +kernel
theorem dX10_heir_21 : decode cX10_heir 21 = .ok (.aaload, 1) := by decide +kernel
theorem dX10_heir_22 : decode cX10_heir 22 = .ok (.astore_n 2, 1) := by decide +kernel
theorem dX10_heir_23 : decode cX10_heir 23 = .ok (.aload_n 2, 1) := by decide +kernel
theorem dX10_heir_24 : decode cX10_heir 24 = .ok (.invokevirtual 185, 3) := by decide +kernel
theorem dX10_heir_27 : decode cX10_heir 27 = .ok (.ifCond .eq 6, 3) := by decide +kernel
theorem dX10_heir_30 : decode cX10_heir 30 = .ok (.bipush (-2), 2) := by decide +kernel
theorem dX10_heir_32 : decode cX10_heir 32 = .ok (.ireturn, 1) := by decide +kernel
theorem dX10_heir_33 : decode cX10_heir 33 = .ok (.aload_n 0, 1) := by decide +kernel
theorem dX10_heir_34 : decode cX10_heir 34 = .ok (.getfield 29, 3) := by decide +kernel
theorem dX10_heir_37 : decode cX10_heir 37 = .ok (.aload_n 0, 1) := by decide +kernel
theorem dX10_heir_38 : decode cX10_heir 38 = .ok (.getfield 19, 3) := by decide +kernel
theorem dX10_heir_41 : decode cX10_heir 41 = .ok (.invokevirtual 169, 3) := by decide +kernel
theorem dX10_heir_44 : decode cX10_heir 44 = .ok (.aload_n 2, 1) := by decide +kernel
theorem dX10_heir_45 : decode cX10_heir 45 = .ok (.bipush 10, 2) := by decide +kernel
theorem dX10_heir_47 : decode cX10_heir 47 = .ok (.aload_n 2, 1) := by decide +kernel
theorem dX10_heir_48 : decode cX10_heir 48 = .ok (.getfield 120, 3) := by decide +kernel
theorem dX10_heir_51 : decode cX10_heir 51 = .ok (.iconst 2, 1) := by decide +kernel
theorem dX10_heir_52 : decode cX10_heir 52 = .ok (.isub, 1) := by decide +kernel
theorem dX10_heir_53 : decode cX10_heir 53 = .ok (.invokestatic 191, 3) := by decide +kernel
theorem dX10_heir_56 : decode cX10_heir 56 = .ok (.putfield 120, 3) := by decide +kernel
theorem dX10_heir_59 : decode cX10_heir 59 = .ok (.aload_n 2, 1) := by decide +kernel
theorem dX10_heir_60 : decode cX10_heir 60 = .ok (.aload_n 0, 1) := by decide +kernel
theorem dX10_heir_61 : decode cX10_heir 61 = .ok (.getfield 19, 3) := by decide +kernel
theorem dX10_heir_64 : decode cX10_heir 64 = .ok (.getfield 197, 3) := by decide +kernel
theorem dX10_heir_67 : decode cX10_heir 67 = .ok (.invokevirtual 200, 3) := by decide +kernel
theorem dX10_heir_70 : decode cX10_heir 70 = .ok (.aload_n 2, 1) := by decide +kernel
theorem dX10_heir_71 : decode cX10_heir 71 = .ok (.getfield 120, 3) := by decide +kernel
theorem dX10_heir_74 : decode cX10_heir 74 = .ok (.ireturn, 1) := by decide +kernel
theorem dX10_undo_0 : decode cX10_undo 0 = .ok (.aload_n 0, 1) := by decide +kernel
theorem dX10_undo_1 : decode cX10_undo 1 = .ok (.getfield 29, 3) := by decide +kernel
theorem dX10_undo_4 : decode cX10_undo 4 = .ok (.aload_n 0, 1) := by decide +kernel
theorem dX10_undo_5 : decode cX10_undo 5 = .ok (.getfield 19, 3) := by decide +kernel
theorem dX10_undo_8 : decode cX10_undo 8 = .ok (.invokevirtual 204, 3) := by decide +kernel
theorem dX10_undo_11 : decode cX10_undo 11 = .ok (.ifCond .eq 13, 3) := by decide +kernel
theorem dX10_undo_14 : decode cX10_undo 14 = .ok (.aload_n 0, 1) := by decide +kernel
theorem dX10_undo_15 : decode cX10_undo 15 = .ok (.getfield 29, 3) := by decide +kernel
theorem dX10_undo_18 : decode cX10_undo 18 = .ok (.getfield 208, 3) := by decide +kernel
theorem dX10_undo_21 : decode cX10_undo 21 = .ok (.goto 5, 3) := by decide +kernel
theorem dX10_undo_24 : decode cX10_undo 24 = .ok (.bipush (-4), 2) := by decide +kernel
theorem dX10_undo_26 : decode cX10_undo 26 = .ok (.ireturn, 1) := by decide +kernel
theorem dX10_seed_0 : decode cX10_seed 0 = .ok (.iload_n 1, 1) := by decide +kernel
theorem dX10_seed_1 : decode cX10_seed 1 = .ok (.iconst 1, 1) := by decide +kernel
theorem dX10_seed_2 : decode cX10_seed 2 = .ok (.ldc 209, 2) := by decide +kernel
theorem dX10_seed_4 : decode cX10_seed 4 = .ok (.invokestatic 79, 3) := by decide +kernel
theorem dX10_seed_7 : decode cX10_seed 7 = .ok (.ifCond .ne 5, 3) := by decide +kernel
theorem dX10_seed_10 : decode cX10_seed 10 = .ok (.iconst (-1), 1) := by decide +kernel
theorem dX10_seed_11 : decode cX10_seed 11 = .ok (.ireturn, 1) := by decide +kernel
theorem dX10_seed_12 : decode cX10_seed 12 = .ok (.aload_n 0, 1) := by decide +kernel
theorem dX10_seed_13 : decode cX10_seed 13 = .ok (.getfield 19, 3) := by decide +kernel
theorem dX10_seed_16 : decode cX10_seed 16 = .ok (.getfield 95, 3) := by decide +kernel
theorem dX10_seed_19 : decode cX10_seed 19 = .ok (.istore_n 2, 1) := by decide +kernel
theorem dX10_seed_20 : decode cX10_seed 20 = .ok (.aload_n 0, 1) := by decide +kernel
theorem dX10_seed_21 : decode cX10_seed 21 = .ok (.getfield 19, 3) := by decide +kernel
theorem dX10_seed_24 : decode cX10_seed 24 = .ok (.iload_n 1, 1) := by decide +kernel
theorem dX10_seed_25 : decode cX10_seed 25 = .ok (.putfield 95, 3) := by decide +kernel
theorem dX10_seed_28 : decode cX10_seed 28 = .ok (.iload_n 2, 1) := by decide +kernel
theorem dX10_seed_29 : decode cX10_seed 29 = .ok (.ireturn, 1) := by decide +kernel
theorem dX10_image_0 : decode cX10_image 0 = .ok (.iload_n 1, 1) := by decide +kernel
theorem dX10_image_1 : decode cX10_image 1 = .ok (.iconst 0, 1) := by decide +kernel
theorem dX10_image_2 : decode cX10_image 2 = .ok (.iconst 1, 1) := by decide +kernel
theorem dX10_image_3 : decode cX10_image 3 = .ok (.invokestatic 79, 3) := by decide +kernel
theorem dX10_image_6 : decode cX10_image 6 = .ok (.ifCond .ne 5, 3) := by decide +kernel
theorem dX10_image_9 : decode cX10_image 9 = .ok (.iconst (-1), 1) := by decide +kernel
theorem dX10_image_10 : decode cX10_image 10 = .ok (.ireturn, 1) := by decide +kernel
theorem dX10_image_11 : decode cX10_image 11 = .ok (.aload_n 0, 1) := by decide +kernel
theorem dX10_image_12 : decode cX10_image 12 = .ok (.getfield 19, 3) := by decide +kernel
theorem dX10_image_15 : decode cX10_image 15 = .ok (.invokevirtual 163, 3) := by decide +kernel
theorem dX10_image_18 : decode cX10_image 18 = .ok (.ifCond .ne 6, 3) := by decide +kernel
theorem dX10_image_21 : decode cX10_image 21 = .ok (.bipush (-2), 2) := by decide +kernel
theorem dX10_image_23 : decode cX10_image 23 = .ok (.ireturn, 1) := by decide +kernel
theorem dX10_image_24 : decode cX10_image 24 = .ok (.aload_n 0, 1) := by decide +kernel
theorem dX10_image_25 : decode cX10_image 25 = .ok (.getfield 33, 3) := by decide +kernel
theorem dX10_image_28 : decode cX10_image 28 = .ok (.iload_n 1, 1) := by decide +kernel
theorem dX10_image_29 : decode cX10_image 29 = .ok (.aaload, 1) := by decide +kernel
theorem dX10_image_30 : decode cX10_image 30 = .ok (.aload_n 0, 1) := by decide +kernel
theorem dX10_image_31 : decode cX10_image 31 = .ok (.getfield 19, 3) := by decide +kernel
theorem dX10_image_34 : decode cX10_image 34 = .ok (.invokevirtual 98, 3) := by decide +kernel
theorem dX10_image_37 : decode cX10_image 37 = .ok (.aload_n 0, 1) := by decide +kernel
theorem dX10_image_38 : decode cX10_image 38 = .ok (.getfield 19, 3) := by decide +kernel
theorem dX10_image_41 : decode cX10_image 41 = .ok (.invokevirtual 175, 3) := by decide +kernel
theorem dX10_image_44 : decode cX10_image 44 = .ok (.ireturn, 1) := by decide +kernel
theorem dX10_restore_0 : decode cX10_restore 0 = .ok (.iload_n 1, 1) := by decide +kernel
theorem dX10_restore_1 : decode cX10_restore 1 = .ok (.iconst 0, 1) := by decide +kernel
theorem dX10_restore_2 : decode cX10_restore 2 = .ok (.iconst 1, 1) := by decide +kernel
theorem dX10_restore_3 : decode cX10_restore 3 = .ok (.invokestatic 79, 3) := by decide +kernel
theorem dX10_restore_6 : decode cX10_restore 6 = .ok (.ifCond .ne 5, 3) := by decide +kernel
theorem dX10_restore_9 : decode cX10_restore 9 = .ok (.iconst (-1), 1) := by decide +kernel
theorem dX10_restore_10 : decode cX10_restore 10 = .ok (.ireturn, 1) := by decide +kernel
theorem dX10_restore_11 : decode cX10_restore 11 = .ok (.aload_n 0, 1) := by decide +kernel
theorem dX10_restore_12 : decode cX10_restore 12 = .ok (.getfield 33, 3) := by decide +kernel
theorem dX10_restore_15 : decode cX10_restore 15 = .ok (.iload_n 1, 1) := by decide +kernel
theorem dX10_restore_16 : decode cX10_restore 16 = .ok (.aaload, 1) := by decide +kernel
theorem dX10_restore_17 : decode cX10_restore 17 = .ok (.invokevirtual 163, 3) := by decide +kernel
theorem dX10_restore_20 : decode cX10_restore 20 = .ok (.ifCond .ne 6, 3) := by decide +kernel
theorem dX10_restore_23 : decode cX10_restore 23 = .ok (.bipush (-2), 2) := by decide +kernel
theorem dX10_restore_25 : decode cX10_restore 25 = .ok (.ireturn, 1) := by decide +kernel
theorem dX10_restore_26 : decode cX10_restore 26 = .ok (.aload_n 0, 1) := by decide +kernel
theorem dX10_restore_27 : decode cX10_restore 27 = .ok (.getfield 19, 3) := by decide +kernel
theorem dX10_restore_30 : decode cX10_restore 30 = .ok (.aload_n 0, 1) := by decide +kernel
theorem dX10_restore_31 : decode cX10_restore 31 = .ok (.getfield 33, 3) := by decide +kernel
theorem dX10_restore_34 : decode cX10_restore 34 = .ok (.iload_n 1, 1) := by decide +kernel
theorem dX10_restore_35 : decode cX10_restore 35 = .ok (.aaload, 1) := by decide +kernel
theorem dX10_restore_36 : decode cX10_restore 36 = .ok (.invokevirtual 98, 3) := by decide +kernel
theorem dX10_restore_39 : decode cX10_restore 39 = .ok (.aload_n 0, 1) := by decide +kernel
theorem dX10_restore_40 : decode cX10_restore 40 = .ok (.getfield 29, 3) := by decide +kernel
theorem dX10_restore_43 : decode cX10_restore 43 = .ok (.invokevirtual 102, 3) := by decide +kernel
theorem dX10_restore_46 : decode cX10_restore 46 = .ok (.aload_n 0, 1) := by decide +kernel
theorem dX10_restore_47 : decode cX10_restore 47 = .ok (.getfield 19, 3) := by decide +kernel
theorem dX10_restore_50 : decode cX10_restore 50 = .ok (.invokevirtual 175, 3) := by decide +kernel
theorem dX10_restore_53 : decode cX10_restore 53 = .ok (.ireturn, 1) := by decide +kernel
theorem dX10_strain_0 : decode cX10_strain 0 = .ok (.aload_n 0, 1) := by decide +kernel
theorem dX10_strain_1 : decode cX10_strain 1 = .ok (.getfield 19, 3) := by decide +kernel
theorem dX10_strain_4 : decode cX10_strain 4 = .ok (.iload_n 1, 1) := by decide +kernel
theorem dX10_strain_5 : decode cX10_strain 5 = .ok (.invokevirtual 108, 3) := by decide +kernel
theorem dX10_strain_8 : decode cX10_strain 8 = .ok (.ifCond .eq 13, 3) := by decide +kernel
theorem dX10_strain_11 : decode cX10_strain 11 = .ok (.iload_n 2, 1) := by decide +kernel
theorem dX10_strain_12 : decode cX10_strain 12 = .ok (.iconst 0, 1) := by decide +kernel
theorem dX10_strain_13 : decode cX10_strain 13 = .ok (.bipush 60, 2) := by decide +kernel
theorem dX10_strain_15 : decode cX10_strain 15 = .ok (.invokestatic 79, 3) := by decide +kernel
theorem dX10_strain_18 : decode cX10_strain 18 = .ok (.ifCond .ne 5, 3) := by decide +kernel
theorem dX10_strain_21 : decode cX10_strain 21 = .ok (.iconst (-1), 1) := by decide +kernel
theorem dX10_strain_22 : decode cX10_strain 22 = .ok (.ireturn, 1) := by decide +kernel
theorem dX10_strain_23 : decode cX10_strain 23 = .ok (.aload_n 0, 1) := by decide +kernel
theorem dX10_strain_24 : decode cX10_strain 24 = .ok (.getfield 47, 3) := by decide +kernel
theorem dX10_strain_27 : decode cX10_strain 27 = .ok (.aload_n 0, 1) := by decide +kernel
theorem dX10_strain_28 : decode cX10_strain 28 = .ok (.getfield 19, 3) := by decide +kernel
theorem dX10_strain_31 : decode cX10_strain 31 = .ok (.invokevirtual 210, 3) := by decide +kernel
theorem dX10_strain_34 : decode cX10_strain 34 = .ok (.aload_n 0, 1) := by decide +kernel
theorem dX10_strain_35 : decode cX10_strain 35 = .ok (.getfield 47, 3) := by decide +kernel
theorem dX10_strain_38 : decode cX10_strain 38 = .ok (.aload_n 0, 1) := by decide +kernel
theorem dX10_strain_39 : decode cX10_strain 39 = .ok (.getfield 19, 3) := by decide +kernel
theorem dX10_strain_42 : decode cX10_strain 42 = .ok (.getfield 111, 3) := by decide +kernel
theorem dX10_strain_45 : decode cX10_strain 45 = .ok (.iload_n 1, 1) := by decide +kernel
theorem dX10_strain_46 : decode cX10_strain 46 = .ok (.aaload, 1) := by decide +kernel
theorem dX10_strain_47 : decode cX10_strain 47 = .ok (.iload_n 2, 1) := by decide +kernel
theorem dX10_strain_48 : decode cX10_strain 48 = .ok (.invokevirtual 213, 3) := by decide +kernel
theorem dX10_strain_51 : decode cX10_strain 51 = .ok (.ireturn, 1) := by decide +kernel
theorem dX10_down_0 : decode cX10_down 0 = .ok (.aload_n 0, 1) := by decide +kernel
theorem dX10_down_1 : decode cX10_down 1 = .ok (.getfield 19, 3) := by decide +kernel
theorem dX10_down_4 : decode cX10_down 4 = .ok (.iload_n 1, 1) := by decide +kernel
theorem dX10_down_5 : decode cX10_down 5 = .ok (.invokevirtual 108, 3) := by decide +kernel
theorem dX10_down_8 : decode cX10_down 8 = .ok (.ifCond .ne 5, 3) := by decide +kernel
theorem dX10_down_11 : decode cX10_down 11 = .ok (.iconst (-1), 1) := by decide +kernel
theorem dX10_down_12 : decode cX10_down 12 = .ok (.ireturn, 1) := by decide +kernel
theorem dX10_down_13 : decode cX10_down 13 = .ok (.aload_n 0, 1) := by decide +kernel
theorem dX10_down_14 : decode cX10_down 14 = .ok (.getfield 19, 3) := by decide +kernel
theorem dX10_down_17 : decode cX10_down 17 = .ok (.getfield 111, 3) := by decide +kernel
theorem dX10_down_20 : decode cX10_down 20 = .ok (.iload_n 1, 1) := by decide +kernel
theorem dX10_down_21 : decode cX10_down 21 = .ok (.aaload, 1) := by decide +kernel
theorem dX10_down_22 : decode cX10_down 22 = .ok (.astore_n 2, 1) := by decide +kernel
theorem dX10_down_23 : decode cX10_down 23 = .ok (.aload_n 2, 1) := by decide +kernel
theorem dX10_down_24 : decode cX10_down 24 = .ok (.invokevirtual 185, 3) := by decide +kernel
theorem dX10_down_27 : decode cX10_down 27 = .ok (.ifCond .ne 5, 3) := by decide +kernel
theorem dX10_down_30 : decode cX10_down 30 = .ok (.iconst 0, 1) := by decide +kernel
theorem dX10_down_31 : decode cX10_down 31 = .ok (.ireturn, 1) := by decide +kernel
theorem dX10_down_32 : decode cX10_down 32 = .ok (.aload_n 0, 1) := by decide +kernel
theorem dX10_down_33 : decode cX10_down 33 = .ok (.getfield 47, 3) := by decide +kernel
theorem dX10_down_36 : decode cX10_down 36 = .ok (.aload_n 0, 1) := by decide +kernel
theorem dX10_down_37 : decode cX10_down 37 = .ok (.getfield 19, 3) := by decide +kernel
theorem dX10_down_40 : decode cX10_down 40 = .ok (.invokevirtual 210, 3) := by decide +kernel
theorem dX10_down_43 : decode cX10_down 43 = .ok (.aload_n 0, 1) := by decide +kernel
theorem dX10_down_44 : decode cX10_down 44 = .ok (.getfield 47, 3) := by decide +kernel
theorem dX10_down_47 : decode cX10_down 47 = .ok (.aload_n 2, 1) := by decide +kernel
theorem dX10_down_48 : decode cX10_down 48 = .ok (.bipush 60, 2) := by decide +kernel
theorem dX10_down_50 : decode cX10_down 50 = .ok (.iconst 0, 1) := by decide +kernel
theorem dX10_down_51 : decode cX10_down 51 = .ok (.invokevirtual 217, 3) := by decide +kernel
theorem dX10_down_54 : decode cX10_down 54 = .ok (.istore_n 3, 1) := by decide +kernel
theorem dX10_down_55 : decode cX10_down 55 = .ok (.iload_n 3, 1) := by decide +kernel
theorem dX10_down_56 : decode cX10_down 56 = .ok (.bipush 60, 2) := by decide +kernel
theorem dX10_down_58 : decode cX10_down 58 = .ok (.if_icmp .ge 9, 3) := by decide +kernel
theorem dX10_down_61 : decode cX10_down 61 = .ok (.iload_n 3, 1) := by decide +kernel
theorem dX10_down_62 : decode cX10_down 62 = .ok (.iconst 1, 1) := by decide +kernel
theorem dX10_down_63 : decode cX10_down 63 = .ok (.iadd, 1) := by decide +kernel
theorem dX10_down_64 : decode cX10_down 64 = .ok (.goto 5, 3) := by decide +kernel
theorem dX10_down_67 : decode cX10_down 67 = .ok (.bipush (-4), 2) := by decide +kernel
theorem dX10_down_69 : decode cX10_down 69 = .ok (.ireturn, 1) := by decide +kernel
theorem dX10_duel_0 : decode cX10_duel 0 = .ok (.aload_n 0, 1) := by decide +kernel
theorem dX10_duel_1 : decode cX10_duel 1 = .ok (.iload_n 1, 1) := by decide +kernel
theorem dX10_duel_2 : decode cX10_duel 2 = .ok (.iload_n 2, 1) := by decide +kernel
theorem dX10_duel_3 : decode cX10_duel 3 = .ok (.invokevirtual 221, 3) := by decide +kernel
theorem dX10_duel_6 : decode cX10_duel 6 = .ok (.istore_n 3, 1) := by decide +kernel
theorem dX10_duel_7 : decode cX10_duel 7 = .ok (.iload_n 3, 1) := by decide +kernel
theorem dX10_duel_8 : decode cX10_duel 8 = .ok (.ifCond .eq 5, 3) := by decide +kernel
theorem dX10_duel_11 : decode cX10_duel 11 = .ok (.iload_n 3, 1) := by decide +kernel
theorem dX10_duel_12 : decode cX10_duel 12 = .ok (.ireturn, 1) := by decide +kernel
theorem dX10_duel_13 : decode cX10_duel 13 = .ok (.aload_n 0, 1) := by decide +kernel
theorem dX10_duel_14 : decode cX10_duel 14 = .ok (.getfield 47, 3) := by decide +kernel
theorem dX10_duel_17 : decode cX10_duel 17 = .ok (.aload_n 0, 1) := by decide +kernel
theorem dX10_duel_18 : decode cX10_duel 18 = .ok (.getfield 19, 3) := by decide +kernel
theorem dX10_duel_21 : decode cX10_duel 21 = .ok (.invokevirtual 210, 3) := by decide +kernel
theorem dX10_duel_24 : decode cX10_duel 24 = .ok (.aload_n 0, 1) := by decide +kernel
theorem dX10_duel_25 : decode cX10_duel 25 = .ok (.getfield 47, 3) := by decide +kernel
theorem dX10_duel_28 : decode cX10_duel 28 = .ok (.aload_n 0, 1) := by decide +kernel
theorem dX10_duel_29 : decode cX10_duel 29 = .ok (.getfield 19, 3) := by decide +kernel
theorem dX10_duel_32 : decode cX10_duel 32 = .ok (.getfield 111, 3) := by decide +kernel
theorem dX10_duel_35 : decode cX10_duel 35 = .ok (.iload_n 1, 1) := by decide +kernel
theorem dX10_duel_36 : decode cX10_duel 36 = .ok (.aaload, 1) := by decide +kernel
theorem dX10_duel_37 : decode cX10_duel 37 = .ok (.aload_n 0, 1) := by decide +kernel
theorem dX10_duel_38 : decode cX10_duel 38 = .ok (.getfield 19, 3) := by decide +kernel
theorem dX10_duel_41 : decode cX10_duel 41 = .ok (.getfield 111, 3) := by decide +kernel
theorem dX10_duel_44 : decode cX10_duel 44 = .ok (.iload_n 2, 1) := by decide +kernel
theorem dX10_duel_45 : decode cX10_duel 45 = .ok (.aaload, 1) := by decide +kernel
theorem dX10_duel_46 : decode cX10_duel 46 = .ok (.invokevirtual 224, 3) := by decide +kernel
theorem dX10_duel_49 : decode cX10_duel 49 = .ok (.istore 4, 2) := by decide +kernel
theorem dX10_duel_51 : decode cX10_duel 51 = .ok (.iload 4, 2) := by decide +kernel
theorem dX10_duel_53 : decode cX10_duel 53 = .ok (.ifCond .ne 6, 3) := by decide +kernel
theorem dX10_duel_56 : decode cX10_duel 56 = .ok (.bipush (-4), 2) := by decide +kernel
theorem dX10_duel_58 : decode cX10_duel 58 = .ok (.ireturn, 1) := by decide +kernel
theorem dX10_duel_59 : decode cX10_duel 59 = .ok (.iload 4, 2) := by decide +kernel
theorem dX10_duel_61 : decode cX10_duel 61 = .ok (.ifCond .le 7, 3) := by decide +kernel
theorem dX10_duel_64 : decode cX10_duel 64 = .ok (.iload_n 1, 1) := by decide +kernel
theorem dX10_duel_65 : decode cX10_duel 65 = .ok (.goto 4, 3) := by decide +kernel
theorem dX10_duel_68 : decode cX10_duel 68 = .ok (.iload_n 2, 1) := by decide +kernel
theorem dX10_duel_69 : decode cX10_duel 69 = .ok (.ireturn, 1) := by decide +kernel
theorem dX10_honour_0 : decode cX10_honour 0 = .ok (.aload_n 0, 1) := by decide +kernel
theorem dX10_honour_1 : decode cX10_honour 1 = .ok (.iload_n 1, 1) := by decide +kernel
theorem dX10_honour_2 : decode cX10_honour 2 = .ok (.invokevirtual 228, 3) := by decide +kernel
theorem dX10_honour_5 : decode cX10_honour 5 = .ok (.istore_n 2, 1) := by decide +kernel
theorem dX10_honour_6 : decode cX10_honour 6 = .ok (.iload_n 2, 1) := by decide +kernel
theorem dX10_honour_7 : decode cX10_honour 7 = .ok (.ifCond .eq 5, 3) := by decide +kernel
theorem dX10_honour_10 : decode cX10_honour 10 = .ok (.iload_n 2, 1) := by decide +kernel
theorem dX10_honour_11 : decode cX10_honour 11 = .ok (.ireturn, 1) := by decide +kernel
theorem dX10_honour_12 : decode cX10_honour 12 = .ok (.aload_n 0, 1) := by decide +kernel
theorem dX10_honour_13 : decode cX10_honour 13 = .ok (.getfield 47, 3) := by decide +kernel
theorem dX10_honour_16 : decode cX10_honour 16 = .ok (.aload_n 0, 1) := by decide +kernel
theorem dX10_honour_17 : decode cX10_honour 17 = .ok (.getfield 19, 3) := by decide +kernel
theorem dX10_honour_20 : decode cX10_honour 20 = .ok (.invokevirtual 210, 3) := by decide +kernel
theorem dX10_honour_23 : decode cX10_honour 23 = .ok (.iconst 0, 1) := by decide +kernel
theorem dX10_honour_24 : decode cX10_honour 24 = .ok (.istore_n 3, 1) := by decide +kernel
theorem dX10_honour_25 : decode cX10_honour 25 = .ok (.iconst 0, 1) := by decide +kernel
theorem dX10_honour_26 : decode cX10_honour 26 = .ok (.istore 4, 2) := by decide +kernel
theorem dX10_honour_28 : decode cX10_honour 28 = .ok (.iload 4, 2) := by decide +kernel
theorem dX10_honour_30 : decode cX10_honour 30 = .ok (.aload_n 0, 1) := by decide +kernel
theorem dX10_honour_31 : decode cX10_honour 31 = .ok (.getfield 19, 3) := by decide +kernel
theorem dX10_honour_34 : decode cX10_honour 34 = .ok (.getfield 105, 3) := by decide +kernel
theorem dX10_honour_37 : decode cX10_honour 37 = .ok (.if_icmp .ge 60, 3) := by decide +kernel
theorem dX10_honour_40 : decode cX10_honour 40 = .ok (.iload 4, 2) := by decide +kernel
theorem dX10_honour_42 : decode cX10_honour 42 = .ok (.iload_n 1, 1) := by decide +kernel
theorem dX10_honour_43 : decode cX10_honour 43 = .ok (.if_icmp .eq 48, 3) := by decide +kernel
theorem dX10_honour_46 : decode cX10_honour 46 = .ok (.aload_n 0, 1) := by decide +kernel
theorem dX10_honour_47 : decode cX10_honour 47 = .ok (.getfield 19, 3) := by decide +kernel
theorem dX10_honour_50 : decode cX10_honour 50 = .ok (.getfield 111, 3) := by decide +kernel
theorem dX10_honour_53 : decode cX10_honour 53 = .ok (.iload 4, 2) := by decide +kernel
theorem dX10_honour_55 : decode cX10_honour 55 = .ok (.aaload, 1) := by decide +kernel
theorem dX10_honour_56 : decode cX10_honour 56 = .ok (.invokevirtual 185, 3) := by decide +kernel
theorem dX10_honour_59 : decode cX10_honour 59 = .ok (.ifCond .eq 32, 3) := by decide +kernel
theorem dX10_honour_62 : decode cX10_honour 62 = .ok (.iload_n 3, 1) := by decide +kernel
theorem dX10_honour_63 : decode cX10_honour 63 = .ok (.aload_n 0, 1) := by decide +kernel
theorem dX10_honour_64 : decode cX10_honour 64 = .ok (.getfield 47, 3) := by decide +kernel
theorem dX10_honour_67 : decode cX10_honour 67 = .ok (.aload_n 0, 1) := by decide +kernel
theorem dX10_honour_68 : decode cX10_honour 68 = .ok (.getfield 19, 3) := by decide +kernel
theorem dX10_honour_71 : decode cX10_honour 71 = .ok (.getfield 111, 3) := by decide +kernel
theorem dX10_honour_74 : decode cX10_honour 74 = .ok (.iload_n 1, 1) := by decide +kernel
theorem dX10_honour_75 : decode cX10_honour 75 = .ok (.aaload, 1) := by decide +kernel
theorem dX10_honour_76 : decode cX10_honour 76 = .ok (.aload_n 0, 1) := by decide +kernel
theorem dX10_honour_77 : decode cX10_honour 77 = .ok (.getfield 19, 3) := by decide +kernel
theorem dX10_honour_80 : decode cX10_honour 80 = .ok (.getfield 111, 3) := by decide +kernel
theorem dX10_honour_83 : decode cX10_honour 83 = .ok (.iload 4, 2) := by decide +kernel
theorem dX10_honour_85 : decode cX10_honour 85 = .ok (.aaload, 1) := by decide +kernel
theorem dX10_honour_86 : decode cX10_honour 86 = .ok (.invokevirtual 224, 3) := by decide +kernel
theorem dX10_honour_89 : decode cX10_honour 89 = .ok (.iadd, 1) := by decide +kernel
theorem dX10_honour_90 : decode cX10_honour 90 = .ok (.istore_n 3, 1) := by decide +kernel
theorem dX10_honour_91 : decode cX10_honour 91 = .ok (.iinc 4 1, 3) := by decide +kernel
theorem dX10_honour_94 : decode cX10_honour 94 = .ok (.goto (-66), 3) := by decide +kernel
theorem dX10_honour_97 : decode cX10_honour 97 = .ok (.iload_n 3, 1) := by decide +kernel
theorem dX10_honour_98 : decode cX10_honour 98 = .ok (.bipush 10, 2) := by decide +kernel
theorem dX10_honour_100 : decode cX10_honour 100 = .ok (.iadd, 1) := by decide +kernel
theorem dX10_honour_101 : decode cX10_honour 101 = .ok (.ireturn, 1) := by decide +kernel
theorem dX10_eat_0 : decode cX10_eat 0 = .ok (.iload_n 2, 1) := by decide +kernel
theorem dX10_eat_1 : decode cX10_eat 1 = .ok (.iconst 1, 1) := by decide +kernel
theorem dX10_eat_2 : decode cX10_eat 2 = .ok (.bipush 8, 2) := by decide +kernel
theorem dX10_eat_4 : decode cX10_eat 4 = .ok (.invokestatic 79, 3) := by decide +kernel
theorem dX10_eat_7 : decode cX10_eat 7 = .ok (.ifCond .eq 12, 3) := by decide +kernel
theorem dX10_eat_10 : decode cX10_eat 10 = .ok (.iload_n 3, 1) := by decide +kernel
theorem dX10_eat_11 : decode cX10_eat 11 = .ok (.iconst 0, 1) := by decide +kernel
theorem dX10_eat_12 : decode cX10_eat 12 = .ok (.iconst 1, 1) := by decide +kernel
theorem dX10_eat_13 : decode cX10_eat 13 = .ok (.invokestatic 79, 3) := by decide +kernel
theorem dX10_eat_16 : decode cX10_eat 16 = .ok (.ifCond .ne 5, 3) := by decide +kernel
theorem dX10_eat_19 : decode cX10_eat 19 = .ok (.iconst (-1), 1) := by decide +kernel
theorem dX10_eat_20 : decode cX10_eat 20 = .ok (.ireturn, 1) := by decide +kernel
theorem dX10_eat_21 : decode cX10_eat 21 = .ok (.aload_n 0, 1) := by decide +kernel
theorem dX10_eat_22 : decode cX10_eat 22 = .ok (.iload_n 1, 1) := by decide +kernel
theorem dX10_eat_23 : decode cX10_eat 23 = .ok (.invokevirtual 228, 3) := by decide +kernel
theorem dX10_eat_26 : decode cX10_eat 26 = .ok (.istore 4, 2) := by decide +kernel
theorem dX10_eat_28 : decode cX10_eat 28 = .ok (.iload 4, 2) := by decide +kernel
theorem dX10_eat_30 : decode cX10_eat 30 = .ok (.ifCond .eq 6, 3) := by decide +kernel
theorem dX10_eat_33 : decode cX10_eat 33 = .ok (.iload 4, 2) := by decide +kernel
theorem dX10_eat_35 : decode cX10_eat 35 = .ok (.ireturn, 1) := by decide +kernel
theorem dX10_eat_36 : decode cX10_eat 36 = .ok (.aload_n 0, 1) := by decide +kernel
theorem dX10_eat_37 : decode cX10_eat 37 = .ok (.getfield 47, 3) := by decide +kernel
theorem dX10_eat_40 : decode cX10_eat 40 = .ok (.aload_n 0, 1) := by decide +kernel
theorem dX10_eat_41 : decode cX10_eat 41 = .ok (.getfield 19, 3) := by decide +kernel
theorem dX10_eat_44 : decode cX10_eat 44 = .ok (.invokevirtual 210, 3) := by decide +kernel
theorem dX10_eat_47 : decode cX10_eat 47 = .ok (.aload_n 0, 1) := by decide +kernel
theorem dX10_eat_48 : decode cX10_eat 48 = .ok (.getfield 19, 3) := by decide +kernel
theorem dX10_eat_51 : decode cX10_eat 51 = .ok (.getfield 111, 3) := by decide +kernel
theorem dX10_eat_54 : decode cX10_eat 54 = .ok (.iload_n 1, 1) := by decide +kernel
theorem dX10_eat_55 : decode cX10_eat 55 = .ok (.aaload, 1) := by decide +kernel
theorem dX10_eat_56 : decode cX10_eat 56 = .ok (.astore 5, 2) := by decide +kernel
theorem dX10_eat_58 : decode cX10_eat 58 = .ok (.aload_n 0, 1) := by decide +kernel
theorem dX10_eat_59 : decode cX10_eat 59 = .ok (.getfield 47, 3) := by decide +kernel
theorem dX10_eat_62 : decode cX10_eat 62 = .ok (.aload 5, 2) := by decide +kernel
theorem dX10_eat_64 : decode cX10_eat 64 = .ok (.iload_n 2, 1) := by decide +kernel
theorem dX10_eat_65 : decode cX10_eat 65 = .ok (.invokevirtual 232, 3) := by decide +kernel
theorem dX10_eat_68 : decode cX10_eat 68 = .ok (.istore 6, 2) := by decide +kernel
theorem dX10_eat_70 : decode cX10_eat 70 = .ok (.iload_n 3, 1) := by decide +kernel
theorem dX10_eat_71 : decode cX10_eat 71 = .ok (.ifCond .ne 18, 3) := by decide +kernel
theorem dX10_eat_74 : decode cX10_eat 74 = .ok (.aload_n 0, 1) := by decide +kernel
theorem dX10_eat_75 : decode cX10_eat 75 = .ok (.getfield 47, 3) := by decide +kernel
theorem dX10_eat_78 : decode cX10_eat 78 = .ok (.aload 5, 2) := by decide +kernel
theorem dX10_eat_80 : decode cX10_eat 80 = .ok (.iload_n 2, 1) := by decide +kernel
theorem dX10_eat_81 : decode cX10_eat 81 = .ok (.iload 6, 2) := by decide +kernel
theorem dX10_eat_83 : decode cX10_eat 83 = .ok (.invokevirtual 217, 3) := by decide +kernel
theorem dX10_eat_86 : decode cX10_eat 86 = .ok (.goto 5, 3) := by decide +kernel
theorem dX10_eat_89 : decode cX10_eat 89 = .ok (.iload 6, 2) := by decide +kernel
theorem dX10_eat_91 : decode cX10_eat 91 = .ok (.ireturn, 1) := by decide +kernel
theorem dX10_train_0 : decode cX10_train 0 = .ok (.iload_n 2, 1) := by decide +kernel
theorem dX10_train_1 : decode cX10_train 1 = .ok (.iconst 1, 1) := by decide +kernel
theorem dX10_train_2 : decode cX10_train 2 = .ok (.bipush 40, 2) := by decide +kernel
theorem dX10_train_4 : decode cX10_train 4 = .ok (.invokestatic 79, 3) := by decide +kernel
theorem dX10_train_7 : decode cX10_train 7 = .ok (.ifCond .eq 12, 3) := by decide +kernel
theorem dX10_train_10 : decode cX10_train 10 = .ok (.iload_n 3, 1) := by decide +kernel
theorem dX10_train_11 : decode cX10_train 11 = .ok (.iconst 0, 1) := by decide +kernel
theorem dX10_train_12 : decode cX10_train 12 = .ok (.iconst 3, 1) := by decide +kernel
theorem dX10_train_13 : decode cX10_train 13 = .ok (.invokestatic 79, 3) := by decide +kernel
theorem dX10_train_16 : decode cX10_train 16 = .ok (.ifCond .ne 5, 3) := by decide +kernel
theorem dX10_train_19 : decode cX10_train 19 = .ok (.iconst (-1), 1) := by decide +kernel
theorem dX10_train_20 : decode cX10_train 20 = .ok (.ireturn, 1) := by decide +kernel
theorem dX10_train_21 : decode cX10_train 21 = .ok (.aload_n 0, 1) := by decide +kernel
theorem dX10_train_22 : decode cX10_train 22 = .ok (.iload_n 1, 1) := by decide +kernel
theorem dX10_train_23 : decode cX10_train 23 = .ok (.invokevirtual 228, 3) := by decide +kernel
theorem dX10_train_26 : decode cX10_train 26 = .ok (.istore 4, 2) := by decide +kernel
theorem dX10_train_28 : decode cX10_train 28 = .ok (.iload 4, 2) := by decide +kernel
theorem dX10_train_30 : decode cX10_train 30 = .ok (.ifCond .eq 6, 3) := by decide +kernel
theorem dX10_train_33 : decode cX10_train 33 = .ok (.iload 4, 2) := by decide +kernel
theorem dX10_train_35 : decode cX10_train 35 = .ok (.ireturn, 1) := by decide +kernel
theorem dX10_train_36 : decode cX10_train 36 = .ok (.aload_n 0, 1) := by decide +kernel
theorem dX10_train_37 : decode cX10_train 37 = .ok (.getfield 47, 3) := by decide +kernel
theorem dX10_train_40 : decode cX10_train 40 = .ok (.aload_n 0, 1) := by decide +kernel
theorem dX10_train_41 : decode cX10_train 41 = .ok (.getfield 19, 3) := by decide +kernel
theorem dX10_train_44 : decode cX10_train 44 = .ok (.invokevirtual 210, 3) := by decide +kernel
theorem dX10_train_47 : decode cX10_train 47 = .ok (.aload_n 0, 1) := by decide +kernel
theorem dX10_train_48 : decode cX10_train 48 = .ok (.getfield 47, 3) := by decide +kernel
theorem dX10_train_51 : decode cX10_train 51 = .ok (.aload_n 0, 1) := by decide +kernel
theorem dX10_train_52 : decode cX10_train 52 = .ok (.getfield 19, 3) := by decide +kernel
theorem dX10_train_55 : decode cX10_train 55 = .ok (.getfield 111, 3) := by decide +kernel
theorem dX10_train_58 : decode cX10_train 58 = .ok (.iload_n 1, 1) := by decide +kernel
theorem dX10_train_59 : decode cX10_train 59 = .ok (.aaload, 1) := by decide +kernel
theorem dX10_train_60 : decode cX10_train 60 = .ok (.iload_n 2, 1) := by decide +kernel
theorem dX10_train_61 : decode cX10_train 61 = .ok (.invokevirtual 235, 3) := by decide +kernel
theorem dX10_train_64 : decode cX10_train 64 = .ok (.ifCond .eq 15, 3) := by decide +kernel
theorem dX10_train_67 : decode cX10_train 67 = .ok (.aload_n 0, 1) := by decide +kernel
theorem dX10_train_68 : decode cX10_train 68 = .ok (.getfield 47, 3) := by decide +kernel
theorem dX10_train_71 : decode cX10_train 71 = .ok (.getfield 239, 3) := by decide +kernel
theorem dX10_train_74 : decode cX10_train 74 = .ok (.iload_n 3, 1) := by decide +kernel
theorem dX10_train_75 : decode cX10_train 75 = .ok (.iaload, 1) := by decide +kernel
theorem dX10_train_76 : decode cX10_train 76 = .ok (.goto 5, 3) := by decide +kernel
theorem dX10_train_79 : decode cX10_train 79 = .ok (.bipush (-4), 2) := by decide +kernel
theorem dX10_train_81 : decode cX10_train 81 = .ok (.ireturn, 1) := by decide +kernel
theorem dX10_dusk_0 : decode cX10_dusk 0 = .ok (.iload_n 1, 1) := by decide +kernel
theorem dX10_dusk_1 : decode cX10_dusk 1 = .ok (.iconst 1, 1) := by decide +kernel
theorem dX10_dusk_2 : decode cX10_dusk 2 = .ok (.bipush 40, 2) := by decide +kernel
theorem dX10_dusk_4 : decode cX10_dusk 4 = .ok (.invokestatic 79, 3) := by decide +kernel
theorem dX10_dusk_7 : decode cX10_dusk 7 = .ok (.ifCond .ne 5, 3) := by decide +kernel
theorem dX10_dusk_10 : decode cX10_dusk 10 = .ok (.iconst (-1), 1) := by decide +kernel
theorem dX10_dusk_11 : decode cX10_dusk 11 = .ok (.ireturn, 1) := by decide +kernel
theorem dX10_dusk_12 : decode cX10_dusk 12 = .ok (.aload_n 0, 1) := by decide +kernel
theorem dX10_dusk_13 : decode cX10_dusk 13 = .ok (.getfield 19, 3) := by decide +kernel
theorem dX10_dusk_16 : decode cX10_dusk 16 = .ok (.invokevirtual 163, 3) := by decide +kernel
theorem dX10_dusk_19 : decode cX10_dusk 19 = .ok (.ifCond .ne 6, 3) := by decide +kernel
theorem dX10_dusk_22 : decode cX10_dusk 22 = .ok (.bipush (-2), 2) := by decide +kernel
theorem dX10_dusk_24 : decode cX10_dusk 24 = .ok (.ireturn, 1) := by decide +kernel
theorem dX10_dusk_25 : decode cX10_dusk 25 = .ok (.aload_n 0, 1) := by decide +kernel
theorem dX10_dusk_26 : decode cX10_dusk 26 = .ok (.getfield 47, 3) := by decide +kernel
theorem dX10_dusk_29 : decode cX10_dusk 29 = .ok (.aload_n 0, 1) := by decide +kernel
theorem dX10_dusk_30 : decode cX10_dusk 30 = .ok (.getfield 19, 3) := by decide +kernel
theorem dX10_dusk_33 : decode cX10_dusk 33 = .ok (.invokevirtual 210, 3) := by decide +kernel
theorem dX10_dusk_36 : decode cX10_dusk 36 = .ok (.bipush 24, 2) := by decide +kernel
theorem dX10_dusk_38 : decode cX10_dusk 38 = .ok (.istore_n 2, 1) := by decide +kernel
theorem dX10_dusk_39 : decode cX10_dusk 39 = .ok (.iload_n 2, 1) := by decide +kernel
theorem dX10_dusk_40 : decode cX10_dusk 40 = .ok (.iconst 1, 1) := by decide +kernel
theorem dX10_dusk_41 : decode cX10_dusk 41 = .ok (.if_icmp .lt 42, 3) := by decide +kernel
theorem dX10_dusk_44 : decode cX10_dusk 44 = .ok (.aload_n 0, 1) := by decide +kernel
theorem dX10_dusk_45 : decode cX10_dusk 45 = .ok (.getfield 47, 3) := by decide +kernel
theorem dX10_dusk_48 : decode cX10_dusk 48 = .ok (.aload_n 0, 1) := by decide +kernel
theorem dX10_dusk_49 : decode cX10_dusk 49 = .ok (.getfield 19, 3) := by decide +kernel
theorem dX10_dusk_52 : decode cX10_dusk 52 = .ok (.getfield 166, 3) := by decide +kernel
theorem dX10_dusk_55 : decode cX10_dusk 55 = .ok (.iload_n 2, 1) := by decide +kernel
theorem dX10_dusk_56 : decode cX10_dusk 56 = .ok (.invokevirtual 243, 3) := by decide +kernel
theorem dX10_dusk_59 : decode cX10_dusk 59 = .ok (.aload_n 0, 1) := by decide +kernel
theorem dX10_dusk_60 : decode cX10_dusk 60 = .ok (.getfield 47, 3) := by decide +kernel
theorem dX10_dusk_63 : decode cX10_dusk 63 = .ok (.aload_n 0, 1) := by decide +kernel
theorem dX10_dusk_64 : decode cX10_dusk 64 = .ok (.getfield 19, 3) := by decide +kernel
theorem dX10_dusk_67 : decode cX10_dusk 67 = .ok (.iload_n 1, 1) := by decide +kernel
theorem dX10_dusk_68 : decode cX10_dusk 68 = .ok (.invokevirtual 247, 3) := by decide +kernel
theorem dX10_dusk_71 : decode cX10_dusk 71 = .ok (.iconst 1, 1) := by decide +kernel
theorem dX10_dusk_72 : decode cX10_dusk 72 = .ok (.if_icmp .gt 5, 3) := by decide +kernel
theorem dX10_dusk_75 : decode cX10_dusk 75 = .ok (.iload_n 2, 1) := by decide +kernel
theorem dX10_dusk_76 : decode cX10_dusk 76 = .ok (.ireturn, 1) := by decide +kernel
theorem dX10_dusk_77 : decode cX10_dusk 77 = .ok (.iinc 2 (-1), 3) := by decide +kernel
theorem dX10_dusk_80 : decode cX10_dusk 80 = .ok (.goto (-41), 3) := by decide +kernel
theorem dX10_dusk_83 : decode cX10_dusk 83 = .ok (.bipush (-4), 2) := by decide +kernel
theorem dX10_dusk_85 : decode cX10_dusk 85 = .ok (.ireturn, 1) := by decide +kernel
theorem dX10_odds_0 : decode cX10_odds 0 = .ok (.iload_n 3, 1) := by decide +kernel
theorem dX10_odds_1 : decode cX10_odds 1 = .ok (.iconst 0, 1) := by decide +kernel
theorem dX10_odds_2 : decode cX10_odds 2 = .ok (.bipush 10, 2) := by decide +kernel
theorem dX10_odds_4 : decode cX10_odds 4 = .ok (.invokestatic 79, 3) := by decide +kernel
theorem dX10_odds_7 : decode cX10_odds 7 = .ok (.ifCond .eq 24, 3) := by decide +kernel
theorem dX10_odds_10 : decode cX10_odds 10 = .ok (.iload 4, 2) := by decide +kernel
theorem dX10_odds_12 : decode cX10_odds 12 = .ok (.iconst 0, 1) := by decide +kernel
theorem dX10_odds_13 : decode cX10_odds 13 = .ok (.bipush 10, 2) := by decide +kernel
theorem dX10_odds_15 : decode cX10_odds 15 = .ok (.invokestatic 79, 3) := by decide +kernel
theorem dX10_odds_18 : decode cX10_odds 18 = .ok (.ifCond .eq 13, 3) := by decide +kernel
theorem dX10_odds_21 : decode cX10_odds 21 = .ok (.iload 5, 2) := by decide +kernel
theorem dX10_odds_23 : decode cX10_odds 23 = .ok (.iconst 0, 1) := by decide +kernel
theorem dX10_odds_24 : decode cX10_odds 24 = .ok (.iconst 1, 1) := by decide +kernel
theorem dX10_odds_25 : decode cX10_odds 25 = .ok (.invokestatic 79, 3) := by decide +kernel
theorem dX10_odds_28 : decode cX10_odds 28 = .ok (.ifCond .ne 7, 3) := by decide +kernel
theorem dX10_odds_31 : decode cX10_odds 31 = .ok (.ldc2_w 251, 3) := by decide +kernel
theorem dX10_odds_34 : decode cX10_odds 34 = .ok (.lreturn, 1) := by decide +kernel
theorem dX10_odds_35 : decode cX10_odds 35 = .ok (.aload_n 0, 1) := by decide +kernel
theorem dX10_odds_36 : decode cX10_odds 36 = .ok (.iload_n 1, 1) := by decide +kernel
theorem dX10_odds_37 : decode cX10_odds 37 = .ok (.iload_n 2, 1) := by decide +kernel
theorem dX10_odds_38 : decode cX10_odds 38 = .ok (.invokevirtual 221, 3) := by decide +kernel
theorem dX10_odds_41 : decode cX10_odds 41 = .ok (.istore 6, 2) := by decide +kernel
theorem dX10_odds_43 : decode cX10_odds 43 = .ok (.iload 6, 2) := by decide +kernel
theorem dX10_odds_45 : decode cX10_odds 45 = .ok (.ifCond .eq 7, 3) := by decide +kernel
theorem dX10_odds_48 : decode cX10_odds 48 = .ok (.iload 6, 2) := by decide +kernel
theorem dX10_odds_50 : decode cX10_odds 50 = .ok (.i2l, 1) := by decide +kernel
theorem dX10_odds_51 : decode cX10_odds 51 = .ok (.lreturn, 1) := by decide +kernel
theorem dX10_odds_52 : decode cX10_odds 52 = .ok (.aload_n 0, 1) := by decide +kernel
theorem dX10_odds_53 : decode cX10_odds 53 = .ok (.getfield 54, 3) := by decide +kernel
theorem dX10_odds_56 : decode cX10_odds 56 = .ok (.aload_n 0, 1) := by decide +kernel
theorem dX10_odds_57 : decode cX10_odds 57 = .ok (.getfield 19, 3) := by decide +kernel
theorem dX10_odds_60 : decode cX10_odds 60 = .ok (.iload_n 3, 1) := by decide +kernel
theorem dX10_odds_61 : decode cX10_odds 61 = .ok (.iload 4, 2) := by decide +kernel
theorem dX10_odds_63 : decode cX10_odds 63 = .ok (.invokevirtual 253, 3) := by decide +kernel
theorem dX10_odds_66 : decode cX10_odds 66 = .ok (.aload_n 0, 1) := by decide +kernel
theorem dX10_odds_67 : decode cX10_odds 67 = .ok (.getfield 54, 3) := by decide +kernel
theorem dX10_odds_70 : decode cX10_odds 70 = .ok (.aload_n 0, 1) := by decide +kernel
theorem dX10_odds_71 : decode cX10_odds 71 = .ok (.getfield 54, 3) := by decide +kernel
theorem dX10_odds_74 : decode cX10_odds 74 = .ok (.aload_n 0, 1) := by decide +kernel
theorem dX10_odds_75 : decode cX10_odds 75 = .ok (.getfield 19, 3) := by decide +kernel
theorem dX10_odds_78 : decode cX10_odds 78 = .ok (.getfield 111, 3) := by decide +kernel
theorem dX10_odds_81 : decode cX10_odds 81 = .ok (.iload_n 1, 1) := by decide +kernel
theorem dX10_odds_82 : decode cX10_odds 82 = .ok (.aaload, 1) := by decide +kernel
theorem dX10_odds_83 : decode cX10_odds 83 = .ok (.aload_n 0, 1) := by decide +kernel
theorem dX10_odds_84 : decode cX10_odds 84 = .ok (.getfield 19, 3) := by decide +kernel
theorem dX10_odds_87 : decode cX10_odds 87 = .ok (.getfield 111, 3) := by decide +kernel
theorem dX10_odds_90 : decode cX10_odds 90 = .ok (.iload_n 2, 1) := by decide +kernel
theorem dX10_odds_91 : decode cX10_odds 91 = .ok (.aaload, 1) := by decide +kernel
theorem dX10_odds_92 : decode cX10_odds 92 = .ok (.invokevirtual 257, 3) := by decide +kernel
theorem dX10_odds_95 : decode cX10_odds 95 = .ok (.iload 5, 2) := by decide +kernel
theorem dX10_odds_97 : decode cX10_odds 97 = .ok (.invokevirtual 261, 3) := by decide +kernel
theorem dX10_odds_100 : decode cX10_odds 100 = .ok (.lreturn, 1) := by decide +kernel
theorem dX10_challenge_0 : decode cX10_challenge 0 = .ok (.iload_n 2, 1) := by decide +kernel
theorem dX10_challenge_1 : decode cX10_challenge 1 = .ok (.iconst 0, 1) := by decide +kernel
theorem dX10_challenge_2 : decode cX10_challenge 2 = .ok (.bipush 10, 2) := by decide +kernel
theorem dX10_challenge_4 : decode cX10_challenge 4 = .ok (.invokestatic 79, 3) := by decide +kernel
theorem dX10_challenge_7 : decode cX10_challenge 7 = .ok (.ifCond .eq 13, 3) := by decide +kernel
theorem dX10_challenge_10 : decode cX10_challenge 10 = .ok (.iload_n 3, 1) := by decide +kernel
theorem dX10_challenge_11 : decode cX10_challenge 11 = .ok (.iconst 0, 1) := by decide +kernel
theorem dX10_challenge_12 : decode cX10_challenge 12 = .ok (.bipush 10, 2) := by decide +kernel
theorem dX10_challenge_14 : decode cX10_challenge 14 = .ok (.invokestatic 79, 3) := by decide +kernel
theorem dX10_challenge_17 : decode cX10_challenge 17 = .ok (.ifCond .ne 5, 3) := by decide +kernel
theorem dX10_challenge_20 : decode cX10_challenge 20 = .ok (.iconst (-1), 1) := by decide +kernel
theorem dX10_challenge_21 : decode cX10_challenge 21 = .ok (.ireturn, 1) := by decide +kernel
theorem dX10_challenge_22 : decode cX10_challenge 22 = .ok (.aload_n 0, 1) := by decide +kernel
theorem dX10_challenge_23 : decode cX10_challenge 23 = .ok (.iload_n 1, 1) := by decide +kernel
theorem dX10_challenge_24 : decode cX10_challenge 24 = .ok (.invokevirtual 228, 3) := by decide +kernel
theorem dX10_challenge_27 : decode cX10_challenge 27 = .ok (.istore 4, 2) := by decide +kernel
theorem dX10_challenge_29 : decode cX10_challenge 29 = .ok (.iload 4, 2) := by decide +kernel
theorem dX10_challenge_31 : decode cX10_challenge 31 = .ok (.ifCond .eq 6, 3) := by decide +kernel
theorem dX10_challenge_34 : decode cX10_challenge 34 = .ok (.iload 4, 2) := by decide +kernel
theorem dX10_challenge_36 : decode cX10_challenge 36 = .ok (.ireturn, 1) := by decide +kernel
theorem dX10_challenge_37 : decode cX10_challenge 37 = .ok (.aload_n 0, 1) := by decide +kernel
theorem dX10_challenge_38 : decode cX10_challenge 38 = .ok (.getfield 54, 3) := by decide +kernel
theorem dX10_challenge_41 : decode cX10_challenge 41 = .ok (.aload_n 0, 1) := by decide +kernel
theorem dX10_challenge_42 : decode cX10_challenge 42 = .ok (.getfield 19, 3) := by decide +kernel
theorem dX10_challenge_45 : decode cX10_challenge 45 = .ok (.iload_n 2, 1) := by decide +kernel
theorem dX10_challenge_46 : decode cX10_challenge 46 = .ok (.iload_n 3, 1) := by decide +kernel
theorem dX10_challenge_47 : decode cX10_challenge 47 = .ok (.invokevirtual 253, 3) := by decide +kernel
theorem dX10_challenge_50 : decode cX10_challenge 50 = .ok (.bipush (-4), 2) := by decide +kernel
theorem dX10_challenge_52 : decode cX10_challenge 52 = .ok (.istore 5, 2) := by decide +kernel
theorem dX10_challenge_54 : decode cX10_challenge 54 = .ok (.ldc2_w 251, 3) := by decide +kernel
theorem dX10_challenge_57 : decode cX10_challenge 57 = .ok (.lstore 6, 2) := by decide +kernel
theorem dX10_challenge_59 : decode cX10_challenge 59 = .ok (.iconst 0, 1) := by decide +kernel
theorem dX10_challenge_60 : decode cX10_challenge 60 = .ok (.istore 8, 2) := by decide +kernel
theorem dX10_challenge_62 : decode cX10_challenge 62 = .ok (.iload 8, 2) := by decide +kernel
theorem dX10_challenge_64 : decode cX10_challenge 64 = .ok (.aload_n 0, 1) := by decide +kernel
theorem dX10_challenge_65 : decode cX10_challenge 65 = .ok (.getfield 19, 3) := by decide +kernel
theorem dX10_challenge_68 : decode cX10_challenge 68 = .ok (.getfield 105, 3) := by decide +kernel
theorem dX10_challenge_71 : decode cX10_challenge 71 = .ok (.if_icmp .ge 78, 3) := by decide +kernel
theorem dX10_challenge_74 : decode cX10_challenge 74 = .ok (.iload 8, 2) := by decide +kernel
theorem dX10_challenge_76 : decode cX10_challenge 76 = .ok (.iload_n 1, 1) := by decide +kernel
theorem dX10_challenge_77 : decode cX10_challenge 77 = .ok (.if_icmp .eq 66, 3) := by decide +kernel
theorem dX10_challenge_80 : decode cX10_challenge 80 = .ok (.aload_n 0, 1) := by decide +kernel
theorem dX10_challenge_81 : decode cX10_challenge 81 = .ok (.getfield 19, 3) := by decide +kernel
theorem dX10_challenge_84 : decode cX10_challenge 84 = .ok (.getfield 111, 3) := by decide +kernel
theorem dX10_challenge_87 : decode cX10_challenge 87 = .ok (.iload 8, 2) := by decide +kernel
theorem dX10_challenge_89 : decode cX10_challenge 89 = .ok (.aaload, 1) := by decide +kernel
theorem dX10_challenge_90 : decode cX10_challenge 90 = .ok (.invokevirtual 185, 3) := by decide +kernel
theorem dX10_challenge_93 : decode cX10_challenge 93 = .ok (.ifCond .ne 6, 3) := by decide +kernel
theorem dX10_challenge_96 : decode cX10_challenge 96 = .ok (.goto 47, 3) := by decide +kernel
theorem dX10_challenge_99 : decode cX10_challenge 99 = .ok (.aload_n 0, 1) := by decide +kernel
theorem dX10_challenge_100 : decode cX10_challenge 100 = .ok (.getfield 54, 3) := by decide +kernel
theorem dX10_challenge_103 : decode cX10_challenge 103 = .ok (.aload_n 0, 1) := by decide +kernel
theorem dX10_challenge_104 : decode cX10_challenge 104 = .ok (.getfield 19, 3) := by decide +kernel
theorem dX10_challenge_107 : decode cX10_challenge 107 = .ok (.getfield 111, 3) := by decide +kernel
theorem dX10_challenge_110 : decode cX10_challenge 110 = .ok (.iload_n 1, 1) := by decide +kernel
theorem dX10_challenge_111 : decode cX10_challenge 111 = .ok (.aaload, 1) := by decide +kernel
theorem dX10_challenge_112 : decode cX10_challenge 112 = .ok (.aload_n 0, 1) := by decide +kernel
theorem dX10_challenge_113 : decode cX10_challenge 113 = .ok (.getfield 19, 3) := by decide +kernel
theorem dX10_challenge_116 : decode cX10_challenge 116 = .ok (.getfield 111, 3) := by decide +kernel
theorem dX10_challenge_119 : decode cX10_challenge 119 = .ok (.iload 8, 2) := by decide +kernel
theorem dX10_challenge_121 : decode cX10_challenge 121 = .ok (.aaload, 1) := by decide +kernel
theorem dX10_challenge_122 : decode cX10_challenge 122 = .ok (.invokevirtual 257, 3) := by decide +kernel
theorem dX10_challenge_125 : decode cX10_challenge 125 = .ok (.lstore 9, 2) := by decide +kernel
theorem dX10_challenge_127 : decode cX10_challenge 127 = .ok (.lload 9, 2) := by decide +kernel
theorem dX10_challenge_129 : decode cX10_challenge 129 = .ok (.lload 6, 2) := by decide +kernel
theorem dX10_challenge_131 : decode cX10_challenge 131 = .ok (.lcmp, 1) := by decide +kernel
theorem dX10_challenge_132 : decode cX10_challenge 132 = .ok (.ifCond .le 11, 3) := by decide +kernel
theorem dX10_challenge_135 : decode cX10_challenge 135 = .ok (.lload 9, 2) := by decide +kernel
theorem dX10_challenge_137 : decode cX10_challenge 137 = .ok (.lstore 6, 2) := by decide +kernel
theorem dX10_challenge_139 : decode cX10_challenge 139 = .ok (.iload 8, 2) := by decide +kernel
theorem dX10_challenge_141 : decode cX10_challenge 141 = .ok (.istore 5, 2) := by decide +kernel
theorem dX10_challenge_143 : decode cX10_challenge 143 = .ok (.iinc 8 1, 3) := by decide +kernel
theorem dX10_challenge_146 : decode cX10_challenge 146 = .ok (.goto (-84), 3) := by decide +kernel
theorem dX10_challenge_149 : decode cX10_challenge 149 = .ok (.iload 5, 2) := by decide +kernel
theorem dX10_challenge_151 : decode cX10_challenge 151 = .ok (.ireturn, 1) := by decide +kernel
theorem dX10_game_0 : decode cX10_game 0 = .ok (.iload_n 3, 1) := by decide +kernel
theorem dX10_game_1 : decode cX10_game 1 = .ok (.iconst 0, 1) := by decide +kernel
theorem dX10_game_2 : decode cX10_game 2 = .ok (.iconst 3, 1) := by decide +kernel
theorem dX10_game_3 : decode cX10_game 3 = .ok (.invokestatic 79, 3) := by decide +kernel
theorem dX10_game_6 : decode cX10_game 6 = .ok (.ifCond .ne 5, 3) := by decide +kernel
theorem dX10_game_9 : decode cX10_game 9 = .ok (.iconst (-1), 1) := by decide +kernel
theorem dX10_game_10 : decode cX10_game 10 = .ok (.ireturn, 1) := by decide +kernel
theorem dX10_game_11 : decode cX10_game 11 = .ok (.aload_n 0, 1) := by decide +kernel
theorem dX10_game_12 : decode cX10_game 12 = .ok (.iload_n 1, 1) := by decide +kernel
theorem dX10_game_13 : decode cX10_game 13 = .ok (.iload_n 2, 1) := by decide +kernel
theorem dX10_game_14 : decode cX10_game 14 = .ok (.invokevirtual 221, 3) := by decide +kernel
theorem dX10_game_17 : decode cX10_game 17 = .ok (.istore 4, 2) := by decide +kernel
theorem dX10_game_19 : decode cX10_game 19 = .ok (.iload 4, 2) := by decide +kernel
theorem dX10_game_21 : decode cX10_game 21 = .ok (.ifCond .eq 6, 3) := by decide +kernel
theorem dX10_game_24 : decode cX10_game 24 = .ok (.iload 4, 2) := by decide +kernel
theorem dX10_game_26 : decode cX10_game 26 = .ok (.ireturn, 1) := by decide +kernel
theorem dX10_game_27 : decode cX10_game 27 = .ok (.aload_n 0, 1) := by decide +kernel
theorem dX10_game_28 : decode cX10_game 28 = .ok (.getfield 47, 3) := by decide +kernel
theorem dX10_game_31 : decode cX10_game 31 = .ok (.aload_n 0, 1) := by decide +kernel
theorem dX10_game_32 : decode cX10_game 32 = .ok (.getfield 19, 3) := by decide +kernel
theorem dX10_game_35 : decode cX10_game 35 = .ok (.invokevirtual 210, 3) := by decide +kernel
theorem dX10_game_38 : decode cX10_game 38 = .ok (.aload_n 0, 1) := by decide +kernel
theorem dX10_game_39 : decode cX10_game 39 = .ok (.getfield 61, 3) := by decide +kernel
theorem dX10_game_42 : decode cX10_game 42 = .ok (.aload_n 0, 1) := by decide +kernel
theorem dX10_game_43 : decode cX10_game 43 = .ok (.getfield 19, 3) := by decide +kernel
theorem dX10_game_46 : decode cX10_game 46 = .ok (.getfield 111, 3) := by decide +kernel
theorem dX10_game_49 : decode cX10_game 49 = .ok (.iload_n 1, 1) := by decide +kernel
theorem dX10_game_50 : decode cX10_game 50 = .ok (.aaload, 1) := by decide +kernel
theorem dX10_game_51 : decode cX10_game 51 = .ok (.aload_n 0, 1) := by decide +kernel
theorem dX10_game_52 : decode cX10_game 52 = .ok (.getfield 19, 3) := by decide +kernel
theorem dX10_game_55 : decode cX10_game 55 = .ok (.getfield 111, 3) := by decide +kernel
theorem dX10_game_58 : decode cX10_game 58 = .ok (.iload_n 2, 1) := by decide +kernel
theorem dX10_game_59 : decode cX10_game 59 = .ok (.aaload, 1) := by decide +kernel
theorem dX10_game_60 : decode cX10_game 60 = .ok (.aload_n 0, 1) := by decide +kernel
theorem dX10_game_61 : decode cX10_game 61 = .ok (.getfield 47, 3) := by decide +kernel
theorem dX10_game_64 : decode cX10_game 64 = .ok (.iload_n 3, 1) := by decide +kernel
theorem dX10_game_65 : decode cX10_game 65 = .ok (.invokevirtual 265, 3) := by decide +kernel
theorem dX10_game_68 : decode cX10_game 68 = .ok (.sipush 2000, 3) := by decide +kernel
theorem dX10_game_71 : decode cX10_game 71 = .ok (.iadd, 1) := by decide +kernel
theorem dX10_game_72 : decode cX10_game 72 = .ok (.ireturn, 1) := by decide +kernel
theorem dX10_sheet_0 : decode cX10_sheet 0 = .ok (.iload_n 1, 1) := by decide +kernel
theorem dX10_sheet_1 : decode cX10_sheet 1 = .ok (.iconst 0, 1) := by decide +kernel
theorem dX10_sheet_2 : decode cX10_sheet 2 = .ok (.iconst 3, 1) := by decide +kernel
theorem dX10_sheet_3 : decode cX10_sheet 3 = .ok (.invokestatic 79, 3) := by decide +kernel
theorem dX10_sheet_6 : decode cX10_sheet 6 = .ok (.ifCond .eq 18, 3) := by decide +kernel
theorem dX10_sheet_9 : decode cX10_sheet 9 = .ok (.iload_n 2, 1) := by decide +kernel
theorem dX10_sheet_10 : decode cX10_sheet 10 = .ok (.iconst 0, 1) := by decide +kernel
theorem dX10_sheet_11 : decode cX10_sheet 11 = .ok (.iconst 3, 1) := by decide +kernel
theorem dX10_sheet_12 : decode cX10_sheet 12 = .ok (.invokestatic 79, 3) := by decide +kernel
theorem dX10_sheet_15 : decode cX10_sheet 15 = .ok (.ifCond .eq 9, 3) := by decide +kernel
theorem dX10_sheet_18 : decode cX10_sheet 18 = .ok (.iload_n 3, 1) := by decide +kernel
theorem dX10_sheet_19 : decode cX10_sheet 19 = .ok (.bipush 24, 2) := by decide +kernel
theorem dX10_sheet_21 : decode cX10_sheet 21 = .ok (.if_icmp .le 5, 3) := by decide +kernel
theorem dX10_sheet_24 : decode cX10_sheet 24 = .ok (.iconst (-1), 1) := by decide +kernel
theorem dX10_sheet_25 : decode cX10_sheet 25 = .ok (.ireturn, 1) := by decide +kernel
theorem dX10_sheet_26 : decode cX10_sheet 26 = .ok (.iload_n 3, 1) := by decide +kernel
theorem dX10_sheet_27 : decode cX10_sheet 27 = .ok (.ifCond .ge 6, 3) := by decide +kernel
theorem dX10_sheet_30 : decode cX10_sheet 30 = .ok (.bipush (-14), 2) := by decide +kernel
theorem dX10_sheet_32 : decode cX10_sheet 32 = .ok (.ireturn, 1) := by decide +kernel
theorem dX10_sheet_33 : decode cX10_sheet 33 = .ok (.aload_n 0, 1) := by decide +kernel
theorem dX10_sheet_34 : decode cX10_sheet 34 = .ok (.getfield 39, 3) := by decide +kernel
theorem dX10_sheet_37 : decode cX10_sheet 37 = .ok (.iload_n 1, 1) := by decide +kernel
theorem dX10_sheet_38 : decode cX10_sheet 38 = .ok (.aaload, 1) := by decide +kernel
theorem dX10_sheet_39 : decode cX10_sheet 39 = .ok (.iload_n 2, 1) := by decide +kernel
theorem dX10_sheet_40 : decode cX10_sheet 40 = .ok (.iload_n 3, 1) := by decide +kernel
theorem dX10_sheet_41 : decode cX10_sheet 41 = .ok (.invokevirtual 269, 3) := by decide +kernel
theorem dX10_sheet_44 : decode cX10_sheet 44 = .ok (.iload_n 3, 1) := by decide +kernel
theorem dX10_sheet_45 : decode cX10_sheet 45 = .ok (.ireturn, 1) := by decide +kernel
theorem dX10_drop_0 : decode cX10_drop 0 = .ok (.iload_n 1, 1) := by decide +kernel
theorem dX10_drop_1 : decode cX10_drop 1 = .ok (.iconst 0, 1) := by decide +kernel
theorem dX10_drop_2 : decode cX10_drop 2 = .ok (.iconst 3, 1) := by decide +kernel
theorem dX10_drop_3 : decode cX10_drop 3 = .ok (.invokestatic 79, 3) := by decide +kernel
theorem dX10_drop_6 : decode cX10_drop 6 = .ok (.ifCond .ne 5, 3) := by decide +kernel
theorem dX10_drop_9 : decode cX10_drop 9 = .ok (.iconst (-1), 1) := by decide +kernel
theorem dX10_drop_10 : decode cX10_drop 10 = .ok (.ireturn, 1) := by decide +kernel
theorem dX10_drop_11 : decode cX10_drop 11 = .ok (.aload_n 0, 1) := by decide +kernel
theorem dX10_drop_12 : decode cX10_drop 12 = .ok (.getfield 39, 3) := by decide +kernel
theorem dX10_drop_15 : decode cX10_drop 15 = .ok (.iload_n 1, 1) := by decide +kernel
theorem dX10_drop_16 : decode cX10_drop 16 = .ok (.aaload, 1) := by decide +kernel
theorem dX10_drop_17 : decode cX10_drop 17 = .ok (.astore_n 2, 1) := by decide +kernel
theorem dX10_drop_18 : decode cX10_drop 18 = .ok (.aload_n 2, 1) := by decide +kernel
theorem dX10_drop_19 : decode cX10_drop 19 = .ok (.invokevirtual 272, 3) := by decide +kernel
theorem dX10_drop_22 : decode cX10_drop 22 = .ok (.ifCond .eq 6, 3) := by decide +kernel
theorem dX10_drop_25 : decode cX10_drop 25 = .ok (.bipush (-11), 2) := by decide +kernel
theorem dX10_drop_27 : decode cX10_drop 27 = .ok (.ireturn, 1) := by decide +kernel
theorem dX10_drop_28 : decode cX10_drop 28 = .ok (.aload_n 2, 1) := by decide +kernel
theorem dX10_drop_29 : decode cX10_drop 29 = .ok (.getfield 275, 3) := by decide +kernel
theorem dX10_drop_32 : decode cX10_drop 32 = .ok (.istore_n 3, 1) := by decide +kernel
theorem dX10_drop_33 : decode cX10_drop 33 = .ok (.aload_n 2, 1) := by decide +kernel
theorem dX10_drop_34 : decode cX10_drop 34 = .ok (.invokevirtual 276, 3) := by decide +kernel
theorem dX10_drop_37 : decode cX10_drop 37 = .ok (.iload_n 3, 1) := by decide +kernel
theorem dX10_drop_38 : decode cX10_drop 38 = .ok (.ireturn, 1) := by decide +kernel
theorem dX10_item_0 : decode cX10_item 0 = .ok (.aload_n 0, 1) := by decide +kernel
theorem dX10_item_1 : decode cX10_item 1 = .ok (.iload_n 1, 1) := by decide +kernel
theorem dX10_item_2 : decode cX10_item 2 = .ok (.iload_n 2, 1) := by decide +kernel
theorem dX10_item_3 : decode cX10_item 3 = .ok (.iload_n 3, 1) := by decide +kernel
theorem dX10_item_4 : decode cX10_item 4 = .ok (.iconst 1, 1) := by decide +kernel
theorem dX10_item_5 : decode cX10_item 5 = .ok (.invokevirtual 279, 3) := by decide +kernel
theorem dX10_item_8 : decode cX10_item 8 = .ok (.istore 6, 2) := by decide +kernel
theorem dX10_item_10 : decode cX10_item 10 = .ok (.iload 6, 2) := by decide +kernel
theorem dX10_item_12 : decode cX10_item 12 = .ok (.ifCond .eq 7, 3) := by decide +kernel
theorem dX10_item_15 : decode cX10_item 15 = .ok (.iload 6, 2) := by decide +kernel
theorem dX10_item_17 : decode cX10_item 17 = .ok (.i2l, 1) := by decide +kernel
theorem dX10_item_18 : decode cX10_item 18 = .ok (.lreturn, 1) := by decide +kernel
theorem dX10_item_19 : decode cX10_item 19 = .ok (.aload_n 0, 1) := by decide +kernel
theorem dX10_item_20 : decode cX10_item 20 = .ok (.getfield 39, 3) := by decide +kernel
theorem dX10_item_23 : decode cX10_item 23 = .ok (.iload_n 1, 1) := by decide +kernel
theorem dX10_item_24 : decode cX10_item 24 = .ok (.aaload, 1) := by decide +kernel
theorem dX10_item_25 : decode cX10_item 25 = .ok (.astore 7, 2) := by decide +kernel
theorem dX10_item_27 : decode cX10_item 27 = .ok (.aload 7, 2) := by decide +kernel
theorem dX10_item_29 : decode cX10_item 29 = .ok (.iload_n 3, 1) := by decide +kernel
theorem dX10_item_30 : decode cX10_item 30 = .ok (.lload 4, 2) := by decide +kernel
theorem dX10_item_32 : decode cX10_item 32 = .ok (.invokevirtual 283, 3) := by decide +kernel
theorem dX10_item_35 : decode cX10_item 35 = .ok (.aload 7, 2) := by decide +kernel
theorem dX10_item_37 : decode cX10_item 37 = .ok (.getfield 286, 3) := by decide +kernel
theorem dX10_item_40 : decode cX10_item 40 = .ok (.iload_n 3, 1) := by decide +kernel
theorem dX10_item_41 : decode cX10_item 41 = .ok (.laload, 1) := by decide +kernel
theorem dX10_item_42 : decode cX10_item 42 = .ok (.lreturn, 1) := by decide +kernel
theorem dX10_copy_0 : decode cX10_copy 0 = .ok (.iload_n 1, 1) := by decide +kernel
theorem dX10_copy_1 : decode cX10_copy 1 = .ok (.iconst 0, 1) := by decide +kernel
theorem dX10_copy_2 : decode cX10_copy 2 = .ok (.iconst 3, 1) := by decide +kernel
theorem dX10_copy_3 : decode cX10_copy 3 = .ok (.invokestatic 79, 3) := by decide +kernel
theorem dX10_copy_6 : decode cX10_copy 6 = .ok (.ifCond .eq 12, 3) := by decide +kernel
theorem dX10_copy_9 : decode cX10_copy 9 = .ok (.iload_n 3, 1) := by decide +kernel
theorem dX10_copy_10 : decode cX10_copy 10 = .ok (.iconst 0, 1) := by decide +kernel
theorem dX10_copy_11 : decode cX10_copy 11 = .ok (.iconst 3, 1) := by decide +kernel
theorem dX10_copy_12 : decode cX10_copy 12 = .ok (.invokestatic 79, 3) := by decide +kernel
theorem dX10_copy_15 : decode cX10_copy 15 = .ok (.ifCond .ne 5, 3) := by decide +kernel
theorem dX10_copy_18 : decode cX10_copy 18 = .ok (.iconst (-1), 1) := by decide +kernel
theorem dX10_copy_19 : decode cX10_copy 19 = .ok (.ireturn, 1) := by decide +kernel
theorem dX10_copy_20 : decode cX10_copy 20 = .ok (.aload_n 0, 1) := by decide +kernel
theorem dX10_copy_21 : decode cX10_copy 21 = .ok (.getfield 39, 3) := by decide +kernel
theorem dX10_copy_24 : decode cX10_copy 24 = .ok (.iload_n 1, 1) := by decide +kernel
theorem dX10_copy_25 : decode cX10_copy 25 = .ok (.aaload, 1) := by decide +kernel
theorem dX10_copy_26 : decode cX10_copy 26 = .ok (.astore 6, 2) := by decide +kernel
theorem dX10_copy_28 : decode cX10_copy 28 = .ok (.aload_n 0, 1) := by decide +kernel
theorem dX10_copy_29 : decode cX10_copy 29 = .ok (.getfield 39, 3) := by decide +kernel
theorem dX10_copy_32 : decode cX10_copy 32 = .ok (.iload_n 3, 1) := by decide +kernel
theorem dX10_copy_33 : decode cX10_copy 33 = .ok (.aaload, 1) := by decide +kernel
theorem dX10_copy_34 : decode cX10_copy 34 = .ok (.astore 7, 2) := by decide +kernel
theorem dX10_copy_36 : decode cX10_copy 36 = .ok (.aload 6, 2) := by decide +kernel
theorem dX10_copy_38 : decode cX10_copy 38 = .ok (.invokevirtual 272, 3) := by decide +kernel
theorem dX10_copy_41 : decode cX10_copy 41 = .ok (.ifCond .ne 11, 3) := by decide +kernel
theorem dX10_copy_44 : decode cX10_copy 44 = .ok (.aload 7, 2) := by decide +kernel
theorem dX10_copy_46 : decode cX10_copy 46 = .ok (.invokevirtual 272, 3) := by decide +kernel
theorem dX10_copy_49 : decode cX10_copy 49 = .ok (.ifCond .eq 6, 3) := by decide +kernel
theorem dX10_copy_52 : decode cX10_copy 52 = .ok (.bipush (-11), 2) := by decide +kernel
theorem dX10_copy_54 : decode cX10_copy 54 = .ok (.ireturn, 1) := by decide +kernel
theorem dX10_copy_55 : decode cX10_copy 55 = .ok (.aload 6, 2) := by decide +kernel
theorem dX10_copy_57 : decode cX10_copy 57 = .ok (.getfield 290, 3) := by decide +kernel
theorem dX10_copy_60 : decode cX10_copy 60 = .ok (.aload 7, 2) := by decide +kernel
theorem dX10_copy_62 : decode cX10_copy 62 = .ok (.getfield 290, 3) := by decide +kernel
theorem dX10_copy_65 : decode cX10_copy 65 = .ok (.if_icmp .eq 6, 3) := by decide +kernel
theorem dX10_copy_68 : decode cX10_copy 68 = .ok (.bipush (-12), 2) := by decide +kernel
theorem dX10_copy_70 : decode cX10_copy 70 = .ok (.ireturn, 1) := by decide +kernel
theorem dX10_copy_71 : decode cX10_copy 71 = .ok (.aload 6, 2) := by decide +kernel
theorem dX10_copy_73 : decode cX10_copy 73 = .ok (.iload_n 2, 1) := by decide +kernel
theorem dX10_copy_74 : decode cX10_copy 74 = .ok (.iload 5, 2) := by decide +kernel
theorem dX10_copy_76 : decode cX10_copy 76 = .ok (.invokevirtual 293, 3) := by decide +kernel
theorem dX10_copy_79 : decode cX10_copy 79 = .ok (.ifCond .eq 15, 3) := by decide +kernel
theorem dX10_copy_82 : decode cX10_copy 82 = .ok (.aload 7, 2) := by decide +kernel
theorem dX10_copy_84 : decode cX10_copy 84 = .ok (.iload 4, 2) := by decide +kernel
theorem dX10_copy_86 : decode cX10_copy 86 = .ok (.iload 5, 2) := by decide +kernel
theorem dX10_copy_88 : decode cX10_copy 88 = .ok (.invokevirtual 293, 3) := by decide +kernel
theorem dX10_copy_91 : decode cX10_copy 91 = .ok (.ifCond .ne 6, 3) := by decide +kernel
theorem dX10_copy_94 : decode cX10_copy 94 = .ok (.bipush (-13), 2) := by decide +kernel
theorem dX10_copy_96 : decode cX10_copy 96 = .ok (.ireturn, 1) := by decide +kernel
theorem dX10_copy_97 : decode cX10_copy 97 = .ok (.aload 6, 2) := by decide +kernel
theorem dX10_copy_99 : decode cX10_copy 99 = .ok (.getfield 286, 3) := by decide +kernel
theorem dX10_copy_102 : decode cX10_copy 102 = .ok (.iload_n 2, 1) := by decide +kernel
theorem dX10_copy_103 : decode cX10_copy 103 = .ok (.aload 7, 2) := by decide +kernel
theorem dX10_copy_105 : decode cX10_copy 105 = .ok (.getfield 286, 3) := by decide +kernel
theorem dX10_copy_108 : decode cX10_copy 108 = .ok (.iload 4, 2) := by decide +kernel
theorem dX10_copy_110 : decode cX10_copy 110 = .ok (.iload 5, 2) := by decide +kernel
theorem dX10_copy_112 : decode cX10_copy 112 = .ok (.invokestatic 296, 3) := by decide +kernel
theorem dX10_copy_115 : decode cX10_copy 115 = .ok (.iload 5, 2) := by decide +kernel
theorem dX10_copy_117 : decode cX10_copy 117 = .ok (.ireturn, 1) := by decide +kernel
theorem dX10_film_0 : decode cX10_film 0 = .ok (.aload_n 0, 1) := by decide +kernel
theorem dX10_film_1 : decode cX10_film 1 = .ok (.getfield 19, 3) := by decide +kernel
theorem dX10_film_4 : decode cX10_film 4 = .ok (.iload_n 1, 1) := by decide +kernel
theorem dX10_film_5 : decode cX10_film 5 = .ok (.invokevirtual 108, 3) := by decide +kernel
theorem dX10_film_8 : decode cX10_film 8 = .ok (.ifCond .eq 13, 3) := by decide +kernel
theorem dX10_film_11 : decode cX10_film 11 = .ok (.iload_n 2, 1) := by decide +kernel
theorem dX10_film_12 : decode cX10_film 12 = .ok (.iconst 1, 1) := by decide +kernel
theorem dX10_film_13 : decode cX10_film 13 = .ok (.bipush 24, 2) := by decide +kernel
theorem dX10_film_15 : decode cX10_film 15 = .ok (.invokestatic 79, 3) := by decide +kernel
theorem dX10_film_18 : decode cX10_film 18 = .ok (.ifCond .ne 5, 3) := by decide +kernel
theorem dX10_film_21 : decode cX10_film 21 = .ok (.iconst (-1), 1) := by decide +kernel
theorem dX10_film_22 : decode cX10_film 22 = .ok (.ireturn, 1) := by decide +kernel
theorem dX10_film_23 : decode cX10_film 23 = .ok (.aload_n 0, 1) := by decide +kernel
theorem dX10_film_24 : decode cX10_film 24 = .ok (.iload_n 3, 1) := by decide +kernel
theorem dX10_film_25 : decode cX10_film 25 = .ok (.iload 4, 2) := by decide +kernel
theorem dX10_film_27 : decode cX10_film 27 = .ok (.iload 5, 2) := by decide +kernel
theorem dX10_film_29 : decode cX10_film 29 = .ok (.iload_n 2, 1) := by decide +kernel
theorem dX10_film_30 : decode cX10_film 30 = .ok (.invokevirtual 279, 3) := by decide +kernel
theorem dX10_film_33 : decode cX10_film 33 = .ok (.istore 6, 2) := by decide +kernel
theorem dX10_film_35 : decode cX10_film 35 = .ok (.iload 6, 2) := by decide +kernel
theorem dX10_film_37 : decode cX10_film 37 = .ok (.ifCond .eq 6, 3) := by decide +kernel
theorem dX10_film_40 : decode cX10_film 40 = .ok (.iload 6, 2) := by decide +kernel
theorem dX10_film_42 : decode cX10_film 42 = .ok (.ireturn, 1) := by decide +kernel
theorem dX10_film_43 : decode cX10_film 43 = .ok (.aload_n 0, 1) := by decide +kernel
theorem dX10_film_44 : decode cX10_film 44 = .ok (.getfield 47, 3) := by decide +kernel
theorem dX10_film_47 : decode cX10_film 47 = .ok (.aload_n 0, 1) := by decide +kernel
theorem dX10_film_48 : decode cX10_film 48 = .ok (.getfield 19, 3) := by decide +kernel
theorem dX10_film_51 : decode cX10_film 51 = .ok (.invokevirtual 210, 3) := by decide +kernel
theorem dX10_film_54 : decode cX10_film 54 = .ok (.aload_n 0, 1) := by decide +kernel
theorem dX10_film_55 : decode cX10_film 55 = .ok (.getfield 47, 3) := by decide +kernel
theorem dX10_film_58 : decode cX10_film 58 = .ok (.aload_n 0, 1) := by decide +kernel
theorem dX10_film_59 : decode cX10_film 59 = .ok (.getfield 39, 3) := by decide +kernel
theorem dX10_film_62 : decode cX10_film 62 = .ok (.iload_n 3, 1) := by decide +kernel
theorem dX10_film_63 : decode cX10_film 63 = .ok (.aaload, 1) := by decide +kernel
theorem dX10_film_64 : decode cX10_film 64 = .ok (.iload 5, 2) := by decide +kernel
theorem dX10_film_66 : decode cX10_film 66 = .ok (.aload_n 0, 1) := by decide +kernel
theorem dX10_film_67 : decode cX10_film 67 = .ok (.getfield 19, 3) := by decide +kernel
theorem dX10_film_70 : decode cX10_film 70 = .ok (.getfield 111, 3) := by decide +kernel
theorem dX10_film_73 : decode cX10_film 73 = .ok (.iload_n 1, 1) := by decide +kernel
theorem dX10_film_74 : decode cX10_film 74 = .ok (.aaload, 1) := by decide +kernel
theorem dX10_film_75 : decode cX10_film 75 = .ok (.iload_n 2, 1) := by decide +kernel
theorem dX10_film_76 : decode cX10_film 76 = .ok (.invokevirtual 302, 3) := by decide +kernel
theorem dX10_film_79 : decode cX10_film 79 = .ok (.iload_n 2, 1) := by decide +kernel
theorem dX10_film_80 : decode cX10_film 80 = .ok (.ireturn, 1) := by decide +kernel
theorem dX10_round_0 : decode cX10_round 0 = .ok (.iload 4, 2) := by decide +kernel
theorem dX10_round_2 : decode cX10_round 2 = .ok (.iconst 2, 1) := by decide +kernel
theorem dX10_round_3 : decode cX10_round 3 = .ok (.bipush 7, 2) := by decide +kernel
theorem dX10_round_5 : decode cX10_round 5 = .ok (.invokestatic 79, 3) := by decide +kernel
theorem dX10_round_8 : decode cX10_round 8 = .ok (.ifCond .eq 13, 3) := by decide +kernel
theorem dX10_round_11 : decode cX10_round 11 = .ok (.iload 5, 2) := by decide +kernel
theorem dX10_round_13 : decode cX10_round 13 = .ok (.iconst 0, 1) := by decide +kernel
theorem dX10_round_14 : decode cX10_round 14 = .ok (.iconst 1, 1) := by decide +kernel
theorem dX10_round_15 : decode cX10_round 15 = .ok (.invokestatic 79, 3) := by decide +kernel
theorem dX10_round_18 : decode cX10_round 18 = .ok (.ifCond .ne 5, 3) := by decide +kernel
theorem dX10_round_21 : decode cX10_round 21 = .ok (.iconst (-1), 1) := by decide +kernel
theorem dX10_round_22 : decode cX10_round 22 = .ok (.ireturn, 1) := by decide +kernel
theorem dX10_round_23 : decode cX10_round 23 = .ok (.aload_n 0, 1) := by decide +kernel
theorem dX10_round_24 : decode cX10_round 24 = .ok (.iload_n 1, 1) := by decide +kernel
theorem dX10_round_25 : decode cX10_round 25 = .ok (.iload_n 2, 1) := by decide +kernel
theorem dX10_round_26 : decode cX10_round 26 = .ok (.iload_n 3, 1) := by decide +kernel
theorem dX10_round_27 : decode cX10_round 27 = .ok (.iload 4, 2) := by decide +kernel
theorem dX10_round_29 : decode cX10_round 29 = .ok (.bipush 99, 2) := by decide +kernel
theorem dX10_round_31 : decode cX10_round 31 = .ok (.invokevirtual 306, 3) := by decide +kernel
theorem dX10_round_34 : decode cX10_round 34 = .ok (.istore 6, 2) := by decide +kernel
theorem dX10_round_36 : decode cX10_round 36 = .ok (.iload 6, 2) := by decide +kernel
theorem dX10_round_38 : decode cX10_round 38 = .ok (.ifCond .eq 6, 3) := by decide +kernel
theorem dX10_round_41 : decode cX10_round 41 = .ok (.iload 6, 2) := by decide +kernel
theorem dX10_round_43 : decode cX10_round 43 = .ok (.ireturn, 1) := by decide +kernel
theorem dX10_round_44 : decode cX10_round 44 = .ok (.aload_n 0, 1) := by decide +kernel
theorem dX10_round_45 : decode cX10_round 45 = .ok (.getfield 68, 3) := by decide +kernel
theorem dX10_round_48 : decode cX10_round 48 = .ok (.aload_n 0, 1) := by decide +kernel
theorem dX10_round_49 : decode cX10_round 49 = .ok (.getfield 39, 3) := by decide +kernel
theorem dX10_round_52 : decode cX10_round 52 = .ok (.iload_n 1, 1) := by decide +kernel
theorem dX10_round_53 : decode cX10_round 53 = .ok (.aaload, 1) := by decide +kernel
theorem dX10_round_54 : decode cX10_round 54 = .ok (.iload_n 3, 1) := by decide +kernel
theorem dX10_round_55 : decode cX10_round 55 = .ok (.iload 4, 2) := by decide +kernel
theorem dX10_round_57 : decode cX10_round 57 = .ok (.invokevirtual 310, 3) := by decide +kernel
theorem dX10_round_60 : decode cX10_round 60 = .ok (.iload 5, 2) := by decide +kernel
theorem dX10_round_62 : decode cX10_round 62 = .ok (.ifCond .ne 13, 3) := by decide +kernel
theorem dX10_round_65 : decode cX10_round 65 = .ok (.aload_n 0, 1) := by decide +kernel
theorem dX10_round_66 : decode cX10_round 66 = .ok (.getfield 68, 3) := by decide +kernel
theorem dX10_round_69 : decode cX10_round 69 = .ok (.getfield 314, 3) := by decide +kernel
theorem dX10_round_72 : decode cX10_round 72 = .ok (.goto 10, 3) := by decide +kernel
theorem dX10_round_75 : decode cX10_round 75 = .ok (.aload_n 0, 1) := by decide +kernel
theorem dX10_round_76 : decode cX10_round 76 = .ok (.getfield 68, 3) := by decide +kernel
theorem dX10_round_79 : decode cX10_round 79 = .ok (.getfield 317, 3) := by decide +kernel
theorem dX10_round_82 : decode cX10_round 82 = .ok (.ireturn, 1) := by decide +kernel
theorem dX10_goesOn_0 : decode cX10_goesOn 0 = .ok (.iload 4, 2) := by decide +kernel
theorem dX10_goesOn_2 : decode cX10_goesOn 2 = .ok (.iconst 0, 1) := by decide +kernel
theorem dX10_goesOn_3 : decode cX10_goesOn 3 = .ok (.bipush 12, 2) := by decide +kernel
theorem dX10_goesOn_5 : decode cX10_goesOn 5 = .ok (.invokestatic 79, 3) := by decide +kernel
theorem dX10_goesOn_8 : decode cX10_goesOn 8 = .ok (.ifCond .eq 15, 3) := by decide +kernel
theorem dX10_goesOn_11 : decode cX10_goesOn 11 = .ok (.iload 5, 2) := by decide +kernel
theorem dX10_goesOn_13 : decode cX10_goesOn 13 = .ok (.iconst 0, 1) := by decide +kernel
theorem dX10_goesOn_14 : decode cX10_goesOn 14 = .ok (.sipush 255, 3) := by decide +kernel
theorem dX10_goesOn_17 : decode cX10_goesOn 17 = .ok (.invokestatic 79, 3) := by decide +kernel
theorem dX10_goesOn_20 : decode cX10_goesOn 20 = .ok (.ifCond .ne 5, 3) := by decide +kernel
theorem dX10_goesOn_23 : decode cX10_goesOn 23 = .ok (.iconst (-1), 1) := by decide +kernel
theorem dX10_goesOn_24 : decode cX10_goesOn 24 = .ok (.ireturn, 1) := by decide +kernel
theorem dX10_goesOn_25 : decode cX10_goesOn 25 = .ok (.aload_n 0, 1) := by decide +kernel
theorem dX10_goesOn_26 : decode cX10_goesOn 26 = .ok (.iload_n 1, 1) := by decide +kernel
theorem dX10_goesOn_27 : decode cX10_goesOn 27 = .ok (.iload_n 2, 1) := by decide +kernel
theorem dX10_goesOn_28 : decode cX10_goesOn 28 = .ok (.iload_n 3, 1) := by decide +kernel
theorem dX10_goesOn_29 : decode cX10_goesOn 29 = .ok (.iload 4, 2) := by decide +kernel
theorem dX10_goesOn_31 : decode cX10_goesOn 31 = .ok (.bipush 7, 2) := by decide +kernel
theorem dX10_goesOn_33 : decode cX10_goesOn 33 = .ok (.invokevirtual 306, 3) := by decide +kernel
theorem dX10_goesOn_36 : decode cX10_goesOn 36 = .ok (.istore 6, 2) := by decide +kernel
theorem dX10_goesOn_38 : decode cX10_goesOn 38 = .ok (.iload 6, 2) := by decide +kernel
theorem dX10_goesOn_40 : decode cX10_goesOn 40 = .ok (.ifCond .eq 6, 3) := by decide +kernel
theorem dX10_goesOn_43 : decode cX10_goesOn 43 = .ok (.iload 6, 2) := by decide +kernel
theorem dX10_goesOn_45 : decode cX10_goesOn 45 = .ok (.ireturn, 1) := by decide +kernel
theorem dX10_goesOn_46 : decode cX10_goesOn 46 = .ok (.aload_n 0, 1) := by decide +kernel
theorem dX10_goesOn_47 : decode cX10_goesOn 47 = .ok (.getfield 75, 3) := by decide +kernel
theorem dX10_goesOn_50 : decode cX10_goesOn 50 = .ok (.aload_n 0, 1) := by decide +kernel
theorem dX10_goesOn_51 : decode cX10_goesOn 51 = .ok (.getfield 39, 3) := by decide +kernel
theorem dX10_goesOn_54 : decode cX10_goesOn 54 = .ok (.iload_n 1, 1) := by decide +kernel
theorem dX10_goesOn_55 : decode cX10_goesOn 55 = .ok (.aaload, 1) := by decide +kernel
theorem dX10_goesOn_56 : decode cX10_goesOn 56 = .ok (.iload_n 3, 1) := by decide +kernel
theorem dX10_goesOn_57 : decode cX10_goesOn 57 = .ok (.iload 4, 2) := by decide +kernel
theorem dX10_goesOn_59 : decode cX10_goesOn 59 = .ok (.invokevirtual 320, 3) := by decide +kernel
theorem dX10_goesOn_62 : decode cX10_goesOn 62 = .ok (.aload_n 0, 1) := by decide +kernel
theorem dX10_goesOn_63 : decode cX10_goesOn 63 = .ok (.getfield 75, 3) := by decide +kernel
theorem dX10_goesOn_66 : decode cX10_goesOn 66 = .ok (.iload 5, 2) := by decide +kernel
theorem dX10_goesOn_68 : decode cX10_goesOn 68 = .ok (.invokevirtual 323, 3) := by decide +kernel
theorem dX10_goesOn_71 : decode cX10_goesOn 71 = .ok (.ireturn, 1) := by decide +kernel
theorem dX10_told_0 : decode cX10_told 0 = .ok (.iload 4, 2) := by decide +kernel
theorem dX10_told_2 : decode cX10_told 2 = .ok (.iconst 0, 1) := by decide +kernel
theorem dX10_told_3 : decode cX10_told 3 = .ok (.bipush 12, 2) := by decide +kernel
theorem dX10_told_5 : decode cX10_told 5 = .ok (.invokestatic 79, 3) := by decide +kernel
theorem dX10_told_8 : decode cX10_told 8 = .ok (.ifCond .eq 13, 3) := by decide +kernel
theorem dX10_told_11 : decode cX10_told 11 = .ok (.iload 5, 2) := by decide +kernel
theorem dX10_told_13 : decode cX10_told 13 = .ok (.iconst 0, 1) := by decide +kernel
theorem dX10_told_14 : decode cX10_told 14 = .ok (.iconst 1, 1) := by decide +kernel
theorem dX10_told_15 : decode cX10_told 15 = .ok (.invokestatic 79, 3) := by decide +kernel
theorem dX10_told_18 : decode cX10_told 18 = .ok (.ifCond .ne 5, 3) := by decide +kernel
theorem dX10_told_21 : decode cX10_told 21 = .ok (.iconst (-1), 1) := by decide +kernel
theorem dX10_told_22 : decode cX10_told 22 = .ok (.ireturn, 1) := by decide +kernel
theorem dX10_told_23 : decode cX10_told 23 = .ok (.aload_n 0, 1) := by decide +kernel
theorem dX10_told_24 : decode cX10_told 24 = .ok (.iload_n 1, 1) := by decide +kernel
theorem dX10_told_25 : decode cX10_told 25 = .ok (.iload_n 2, 1) := by decide +kernel
theorem dX10_told_26 : decode cX10_told 26 = .ok (.iload_n 3, 1) := by decide +kernel
theorem dX10_told_27 : decode cX10_told 27 = .ok (.iload 4, 2) := by decide +kernel
theorem dX10_told_29 : decode cX10_told 29 = .ok (.bipush 7, 2) := by decide +kernel
theorem dX10_told_31 : decode cX10_told 31 = .ok (.invokevirtual 306, 3) := by decide +kernel
theorem dX10_told_34 : decode cX10_told 34 = .ok (.istore 6, 2) := by decide +kernel
theorem dX10_told_36 : decode cX10_told 36 = .ok (.iload 6, 2) := by decide +kernel
theorem dX10_told_38 : decode cX10_told 38 = .ok (.ifCond .eq 6, 3) := by decide +kernel
theorem dX10_told_41 : decode cX10_told 41 = .ok (.iload 6, 2) := by decide +kernel
theorem dX10_told_43 : decode cX10_told 43 = .ok (.ireturn, 1) := by decide +kernel
theorem dX10_told_44 : decode cX10_told 44 = .ok (.aload_n 0, 1) := by decide +kernel
theorem dX10_told_45 : decode cX10_told 45 = .ok (.getfield 75, 3) := by decide +kernel
theorem dX10_told_48 : decode cX10_told 48 = .ok (.aload_n 0, 1) := by decide +kernel
theorem dX10_told_49 : decode cX10_told 49 = .ok (.getfield 39, 3) := by decide +kernel
theorem dX10_told_52 : decode cX10_told 52 = .ok (.iload_n 1, 1) := by decide +kernel
theorem dX10_told_53 : decode cX10_told 53 = .ok (.aaload, 1) := by decide +kernel
theorem dX10_told_54 : decode cX10_told 54 = .ok (.iload_n 3, 1) := by decide +kernel
theorem dX10_told_55 : decode cX10_told 55 = .ok (.iload 4, 2) := by decide +kernel
theorem dX10_told_57 : decode cX10_told 57 = .ok (.invokevirtual 320, 3) := by decide +kernel
theorem dX10_told_60 : decode cX10_told 60 = .ok (.aload_n 0, 1) := by decide +kernel
theorem dX10_told_61 : decode cX10_told 61 = .ok (.getfield 75, 3) := by decide +kernel
theorem dX10_told_64 : decode cX10_told 64 = .ok (.invokevirtual 326, 3) := by decide +kernel
theorem dX10_told_67 : decode cX10_told 67 = .ok (.istore 7, 2) := by decide +kernel
theorem dX10_told_69 : decode cX10_told 69 = .ok (.iload 5, 2) := by decide +kernel
theorem dX10_told_71 : decode cX10_told 71 = .ok (.ifCond .ne 11, 3) := by decide +kernel
theorem dX10_told_74 : decode cX10_told 74 = .ok (.iload 7, 2) := by decide +kernel
theorem dX10_told_76 : decode cX10_told 76 = .ok (.invokestatic 329, 3) := by decide +kernel
theorem dX10_told_79 : decode cX10_told 79 = .ok (.goto 5, 3) := by decide +kernel
theorem dX10_told_82 : decode cX10_told 82 = .ok (.iload 7, 2) := by decide +kernel
theorem dX10_told_84 : decode cX10_told 84 = .ok (.ireturn, 1) := by decide +kernel
theorem dX10_ate_0 : decode cX10_ate 0 = .ok (.aload_n 0, 1) := by decide +kernel
theorem dX10_ate_1 : decode cX10_ate 1 = .ok (.getfield 19, 3) := by decide +kernel
theorem dX10_ate_4 : decode cX10_ate 4 = .ok (.iload_n 1, 1) := by decide +kernel
theorem dX10_ate_5 : decode cX10_ate 5 = .ok (.invokevirtual 108, 3) := by decide +kernel
theorem dX10_ate_8 : decode cX10_ate 8 = .ok (.ifCond .eq 24, 3) := by decide +kernel
theorem dX10_ate_11 : decode cX10_ate 11 = .ok (.iload 5, 2) := by decide +kernel
theorem dX10_ate_13 : decode cX10_ate 13 = .ok (.iconst 1, 1) := by decide +kernel
theorem dX10_ate_14 : decode cX10_ate 14 = .ok (.bipush 8, 2) := by decide +kernel
theorem dX10_ate_16 : decode cX10_ate 16 = .ok (.invokestatic 79, 3) := by decide +kernel
theorem dX10_ate_19 : decode cX10_ate 19 = .ok (.ifCond .eq 13, 3) := by decide +kernel
theorem dX10_ate_22 : decode cX10_ate 22 = .ok (.iload 6, 2) := by decide +kernel
theorem dX10_ate_24 : decode cX10_ate 24 = .ok (.iconst 0, 1) := by decide +kernel
theorem dX10_ate_25 : decode cX10_ate 25 = .ok (.iconst 1, 1) := by decide +kernel
theorem dX10_ate_26 : decode cX10_ate 26 = .ok (.invokestatic 79, 3) := by decide +kernel
theorem dX10_ate_29 : decode cX10_ate 29 = .ok (.ifCond .ne 5, 3) := by decide +kernel
theorem dX10_ate_32 : decode cX10_ate 32 = .ok (.iconst (-1), 1) := by decide +kernel
theorem dX10_ate_33 : decode cX10_ate 33 = .ok (.ireturn, 1) := by decide +kernel
theorem dX10_ate_34 : decode cX10_ate 34 = .ok (.aload_n 0, 1) := by decide +kernel
theorem dX10_ate_35 : decode cX10_ate 35 = .ok (.iload_n 2, 1) := by decide +kernel
theorem dX10_ate_36 : decode cX10_ate 36 = .ok (.iload_n 3, 1) := by decide +kernel
theorem dX10_ate_37 : decode cX10_ate 37 = .ok (.iload 4, 2) := by decide +kernel
theorem dX10_ate_39 : decode cX10_ate 39 = .ok (.iload 5, 2) := by decide +kernel
theorem dX10_ate_41 : decode cX10_ate 41 = .ok (.invokevirtual 279, 3) := by decide +kernel
theorem dX10_ate_44 : decode cX10_ate 44 = .ok (.istore 7, 2) := by decide +kernel
theorem dX10_ate_46 : decode cX10_ate 46 = .ok (.iload 7, 2) := by decide +kernel
theorem dX10_ate_48 : decode cX10_ate 48 = .ok (.ifCond .eq 6, 3) := by decide +kernel
theorem dX10_ate_51 : decode cX10_ate 51 = .ok (.iload 7, 2) := by decide +kernel
theorem dX10_ate_53 : decode cX10_ate 53 = .ok (.ireturn, 1) := by decide +kernel
theorem dX10_ate_54 : decode cX10_ate 54 = .ok (.aload_n 0, 1) := by decide +kernel
theorem dX10_ate_55 : decode cX10_ate 55 = .ok (.getfield 19, 3) := by decide +kernel
theorem dX10_ate_58 : decode cX10_ate 58 = .ok (.getfield 111, 3) := by decide +kernel
theorem dX10_ate_61 : decode cX10_ate 61 = .ok (.iload_n 1, 1) := by decide +kernel
theorem dX10_ate_62 : decode cX10_ate 62 = .ok (.aaload, 1) := by decide +kernel
theorem dX10_ate_63 : decode cX10_ate 63 = .ok (.astore 8, 2) := by decide +kernel
theorem dX10_ate_65 : decode cX10_ate 65 = .ok (.aload 8, 2) := by decide +kernel
theorem dX10_ate_67 : decode cX10_ate 67 = .ok (.invokevirtual 185, 3) := by decide +kernel
theorem dX10_ate_70 : decode cX10_ate 70 = .ok (.ifCond .ne 6, 3) := by decide +kernel
theorem dX10_ate_73 : decode cX10_ate 73 = .ok (.bipush (-2), 2) := by decide +kernel
theorem dX10_ate_75 : decode cX10_ate 75 = .ok (.ireturn, 1) := by decide +kernel
theorem dX10_ate_76 : decode cX10_ate 76 = .ok (.aload_n 0, 1) := by decide +kernel
theorem dX10_ate_77 : decode cX10_ate 77 = .ok (.getfield 47, 3) := by decide +kernel
theorem dX10_ate_80 : decode cX10_ate 80 = .ok (.aload_n 0, 1) := by decide +kernel
theorem dX10_ate_81 : decode cX10_ate 81 = .ok (.getfield 19, 3) := by decide +kernel
theorem dX10_ate_84 : decode cX10_ate 84 = .ok (.invokevirtual 210, 3) := by decide +kernel
theorem dX10_ate_87 : decode cX10_ate 87 = .ok (.aload_n 0, 1) := by decide +kernel
theorem dX10_ate_88 : decode cX10_ate 88 = .ok (.getfield 47, 3) := by decide +kernel
theorem dX10_ate_91 : decode cX10_ate 91 = .ok (.aload 8, 2) := by decide +kernel
theorem dX10_ate_93 : decode cX10_ate 93 = .ok (.aload_n 0, 1) := by decide +kernel
theorem dX10_ate_94 : decode cX10_ate 94 = .ok (.getfield 39, 3) := by decide +kernel
theorem dX10_ate_97 : decode cX10_ate 97 = .ok (.iload_n 2, 1) := by decide +kernel
theorem dX10_ate_98 : decode cX10_ate 98 = .ok (.aaload, 1) := by decide +kernel
theorem dX10_ate_99 : decode cX10_ate 99 = .ok (.iload 4, 2) := by decide +kernel
theorem dX10_ate_101 : decode cX10_ate 101 = .ok (.iload 5, 2) := by decide +kernel
theorem dX10_ate_103 : decode cX10_ate 103 = .ok (.invokevirtual 334, 3) := by decide +kernel
theorem dX10_ate_106 : decode cX10_ate 106 = .ok (.iload 6, 2) := by decide +kernel
theorem dX10_ate_108 : decode cX10_ate 108 = .ok (.ifCond .ne 13, 3) := by decide +kernel
theorem dX10_ate_111 : decode cX10_ate 111 = .ok (.aload_n 0, 1) := by decide +kernel
theorem dX10_ate_112 : decode cX10_ate 112 = .ok (.getfield 47, 3) := by decide +kernel
theorem dX10_ate_115 : decode cX10_ate 115 = .ok (.getfield 338, 3) := by decide +kernel
theorem dX10_ate_118 : decode cX10_ate 118 = .ok (.goto 10, 3) := by decide +kernel
theorem dX10_ate_121 : decode cX10_ate 121 = .ok (.aload_n 0, 1) := by decide +kernel
theorem dX10_ate_122 : decode cX10_ate 122 = .ok (.getfield 47, 3) := by decide +kernel
theorem dX10_ate_125 : decode cX10_ate 125 = .ok (.getfield 341, 3) := by decide +kernel
theorem dX10_ate_128 : decode cX10_ate 128 = .ok (.ireturn, 1) := by decide +kernel
theorem dX10_count_0 : decode cX10_count 0 = .ok (.iload_n 1, 1) := by decide +kernel
theorem dX10_count_1 : decode cX10_count 1 = .ok (.tableswitch 153 0 9 #[55, 63, 71, 79, 87, 95, 103, 111, 137, 145], 55) := by decide +kernel
theorem dX10_count_56 : decode cX10_count 56 = .ok (.aload_n 0, 1) := by decide +kernel
theorem dX10_count_57 : decode cX10_count 57 = .ok (.getfield 19, 3) := by decide +kernel
theorem dX10_count_60 : decode cX10_count 60 = .ok (.getfield 105, 3) := by decide +kernel
theorem dX10_count_63 : decode cX10_count 63 = .ok (.ireturn, 1) := by decide +kernel
theorem dX10_count_64 : decode cX10_count 64 = .ok (.aload_n 0, 1) := by decide +kernel
theorem dX10_count_65 : decode cX10_count 65 = .ok (.getfield 19, 3) := by decide +kernel
theorem dX10_count_68 : decode cX10_count 68 = .ok (.invokevirtual 175, 3) := by decide +kernel
theorem dX10_count_71 : decode cX10_count 71 = .ok (.ireturn, 1) := by decide +kernel
theorem dX10_count_72 : decode cX10_count 72 = .ok (.aload_n 0, 1) := by decide +kernel
theorem dX10_count_73 : decode cX10_count 73 = .ok (.getfield 19, 3) := by decide +kernel
theorem dX10_count_76 : decode cX10_count 76 = .ok (.getfield 166, 3) := by decide +kernel
theorem dX10_count_79 : decode cX10_count 79 = .ok (.ireturn, 1) := by decide +kernel
theorem dX10_count_80 : decode cX10_count 80 = .ok (.aload_n 0, 1) := by decide +kernel
theorem dX10_count_81 : decode cX10_count 81 = .ok (.getfield 19, 3) := by decide +kernel
theorem dX10_count_84 : decode cX10_count 84 = .ok (.getfield 344, 3) := by decide +kernel
theorem dX10_count_87 : decode cX10_count 87 = .ok (.ireturn, 1) := by decide +kernel
theorem dX10_count_88 : decode cX10_count 88 = .ok (.aload_n 0, 1) := by decide +kernel
theorem dX10_count_89 : decode cX10_count 89 = .ok (.getfield 19, 3) := by decide +kernel
theorem dX10_count_92 : decode cX10_count 92 = .ok (.getfield 197, 3) := by decide +kernel
theorem dX10_count_95 : decode cX10_count 95 = .ok (.ireturn, 1) := by decide +kernel
theorem dX10_count_96 : decode cX10_count 96 = .ok (.aload_n 0, 1) := by decide +kernel
theorem dX10_count_97 : decode cX10_count 97 = .ok (.getfield 19, 3) := by decide +kernel
theorem dX10_count_100 : decode cX10_count 100 = .ok (.invokevirtual 347, 3) := by decide +kernel
theorem dX10_count_103 : decode cX10_count 103 = .ok (.ireturn, 1) := by decide +kernel
theorem dX10_count_104 : decode cX10_count 104 = .ok (.aload_n 0, 1) := by decide +kernel
theorem dX10_count_105 : decode cX10_count 105 = .ok (.getfield 19, 3) := by decide +kernel
theorem dX10_count_108 : decode cX10_count 108 = .ok (.getfield 350, 3) := by decide +kernel
theorem dX10_count_111 : decode cX10_count 111 = .ok (.ireturn, 1) := by decide +kernel
theorem dX10_count_112 : decode cX10_count 112 = .ok (.aload_n 0, 1) := by decide +kernel
theorem dX10_count_113 : decode cX10_count 113 = .ok (.getfield 19, 3) := by decide +kernel
theorem dX10_count_116 : decode cX10_count 116 = .ok (.invokevirtual 163, 3) := by decide +kernel
theorem dX10_count_119 : decode cX10_count 119 = .ok (.ifCond .eq 17, 3) := by decide +kernel
theorem dX10_count_122 : decode cX10_count 122 = .ok (.aload_n 0, 1) := by decide +kernel
theorem dX10_count_123 : decode cX10_count 123 = .ok (.getfield 19, 3) := by decide +kernel
theorem dX10_count_126 : decode cX10_count 126 = .ok (.invokevirtual 151, 3) := by decide +kernel
theorem dX10_count_129 : decode cX10_count 129 = .ok (.ifCond .eq 7, 3) := by decide +kernel
theorem dX10_count_132 : decode cX10_count 132 = .ok (.iconst 1, 1) := by decide +kernel
theorem dX10_count_133 : decode cX10_count 133 = .ok (.goto 4, 3) := by decide +kernel
theorem dX10_count_136 : decode cX10_count 136 = .ok (.iconst 0, 1) := by decide +kernel
theorem dX10_count_137 : decode cX10_count 137 = .ok (.ireturn, 1) := by decide +kernel
theorem dX10_count_138 : decode cX10_count 138 = .ok (.aload_n 0, 1) := by decide +kernel
theorem dX10_count_139 : decode cX10_count 139 = .ok (.getfield 29, 3) := by decide +kernel
theorem dX10_count_142 : decode cX10_count 142 = .ok (.getfield 208, 3) := by decide +kernel
theorem dX10_count_145 : decode cX10_count 145 = .ok (.ireturn, 1) := by decide +kernel
theorem dX10_count_146 : decode cX10_count 146 = .ok (.aload_n 0, 1) := by decide +kernel
theorem dX10_count_147 : decode cX10_count 147 = .ok (.getfield 10, 3) := by decide +kernel
theorem dX10_count_150 : decode cX10_count 150 = .ok (.getfield 87, 3) := by decide +kernel
theorem dX10_count_153 : decode cX10_count 153 = .ok (.ireturn, 1) := by decide +kernel
theorem dX10_count_154 : decode cX10_count 154 = .ok (.iconst (-1), 1) := by decide +kernel
theorem dX10_count_155 : decode cX10_count 155 = .ok (.ireturn, 1) := by decide +kernel
theorem dX10_within_0 : decode cX10_within 0 = .ok (.iload_n 0, 1) := by decide +kernel
theorem dX10_within_1 : decode cX10_within 1 = .ok (.iload_n 1, 1) := by decide +kernel
theorem dX10_within_2 : decode cX10_within 2 = .ok (.if_icmp .lt 12, 3) := by decide +kernel
theorem dX10_within_5 : decode cX10_within 5 = .ok (.iload_n 0, 1) := by decide +kernel
theorem dX10_within_6 : decode cX10_within 6 = .ok (.iload_n 2, 1) := by decide +kernel
theorem dX10_within_7 : decode cX10_within 7 = .ok (.if_icmp .gt 7, 3) := by decide +kernel
theorem dX10_within_10 : decode cX10_within 10 = .ok (.iconst 1, 1) := by decide +kernel
theorem dX10_within_11 : decode cX10_within 11 = .ok (.goto 4, 3) := by decide +kernel
theorem dX10_within_14 : decode cX10_within 14 = .ok (.iconst 0, 1) := by decide +kernel
theorem dX10_within_15 : decode cX10_within 15 = .ok (.ireturn, 1) := by decide +kernel
theorem dX10_isUnder_0 : decode cX10_isUnder 0 = .ok (.iload_n 0, 1) := by decide +kernel
theorem dX10_isUnder_1 : decode cX10_isUnder 1 = .ok (.istore_n 2, 1) := by decide +kernel
theorem dX10_isUnder_2 : decode cX10_isUnder 2 = .ok (.iconst 0, 1) := by decide +kernel
theorem dX10_isUnder_3 : decode cX10_isUnder 3 = .ok (.istore_n 3, 1) := by decide +kernel
theorem dX10_isUnder_4 : decode cX10_isUnder 4 = .ok (.iload_n 3, 1) := by decide +kernel
theorem dX10_isUnder_5 : decode cX10_isUnder 5 = .ok (.bipush 6, 2) := by decide +kernel
theorem dX10_isUnder_7 : decode cX10_isUnder 7 = .ok (.if_icmp .ge 31, 3) := by decide +kernel
theorem dX10_isUnder_10 : decode cX10_isUnder 10 = .ok (.iload_n 2, 1) := by decide +kernel
theorem dX10_isUnder_11 : decode cX10_isUnder 11 = .ok (.iconst 0, 1) := by decide +kernel
theorem dX10_isUnder_12 : decode cX10_isUnder 12 = .ok (.iconst 5, 1) := by decide +kernel
theorem dX10_isUnder_13 : decode cX10_isUnder 13 = .ok (.invokestatic 79, 3) := by decide +kernel
theorem dX10_isUnder_16 : decode cX10_isUnder 16 = .ok (.ifCond .eq 22, 3) := by decide +kernel
theorem dX10_isUnder_19 : decode cX10_isUnder 19 = .ok (.iload_n 2, 1) := by decide +kernel
theorem dX10_isUnder_20 : decode cX10_isUnder 20 = .ok (.iload_n 1, 1) := by decide +kernel
theorem dX10_isUnder_21 : decode cX10_isUnder 21 = .ok (.if_icmp .ne 5, 3) := by decide +kernel
theorem dX10_isUnder_24 : decode cX10_isUnder 24 = .ok (.iconst 1, 1) := by decide +kernel
theorem dX10_isUnder_25 : decode cX10_isUnder 25 = .ok (.ireturn, 1) := by decide +kernel
theorem dX10_isUnder_26 : decode cX10_isUnder 26 = .ok (.getstatic 353, 3) := by decide +kernel
theorem dX10_isUnder_29 : decode cX10_isUnder 29 = .ok (.iload_n 2, 1) := by decide +kernel
theorem dX10_isUnder_30 : decode cX10_isUnder 30 = .ok (.iaload, 1) := by decide +kernel
theorem dX10_isUnder_31 : decode cX10_isUnder 31 = .ok (.istore_n 2, 1) := by decide +kernel
theorem dX10_isUnder_32 : decode cX10_isUnder 32 = .ok (.iinc 3 1, 3) := by decide +kernel
theorem dX10_isUnder_35 : decode cX10_isUnder 35 = .ok (.goto (-31), 3) := by decide +kernel
theorem dX10_isUnder_38 : decode cX10_isUnder 38 = .ok (.iconst 0, 1) := by decide +kernel
theorem dX10_isUnder_39 : decode cX10_isUnder 39 = .ok (.ireturn, 1) := by decide +kernel
theorem dX10_isDark_0 : decode cX10_isDark 0 = .ok (.iload_n 0, 1) := by decide +kernel
theorem dX10_isDark_1 : decode cX10_isDark 1 = .ok (.bipush 24, 2) := by decide +kernel
theorem dX10_isDark_3 : decode cX10_isDark 3 = .ok (.irem, 1) := by decide +kernel
theorem dX10_isDark_4 : decode cX10_isDark 4 = .ok (.iload_n 1, 1) := by decide +kernel
theorem dX10_isDark_5 : decode cX10_isDark 5 = .ok (.if_icmp .lt 7, 3) := by decide +kernel
theorem dX10_isDark_8 : decode cX10_isDark 8 = .ok (.iconst 1, 1) := by decide +kernel
theorem dX10_isDark_9 : decode cX10_isDark 9 = .ok (.goto 4, 3) := by decide +kernel
theorem dX10_isDark_12 : decode cX10_isDark 12 = .ok (.iconst 0, 1) := by decide +kernel
theorem dX10_isDark_13 : decode cX10_isDark 13 = .ok (.ireturn, 1) := by decide +kernel
theorem dX10_drawAfter_0 : decode cX10_drawAfter 0 = .ok (.ldc2_w 356, 3) := by decide +kernel
theorem dX10_drawAfter_3 : decode cX10_drawAfter 3 = .ok (.iload_n 0, 1) := by decide +kernel
theorem dX10_drawAfter_4 : decode cX10_drawAfter 4 = .ok (.i2l, 1) := by decide +kernel
theorem dX10_drawAfter_5 : decode cX10_drawAfter 5 = .ok (.lmul, 1) := by decide +kernel
theorem dX10_drawAfter_6 : decode cX10_drawAfter 6 = .ok (.ldc2_w 358, 3) := by decide +kernel
theorem dX10_drawAfter_9 : decode cX10_drawAfter 9 = .ok (.lrem, 1) := by decide +kernel
theorem dX10_drawAfter_10 : decode cX10_drawAfter 10 = .ok (.l2i, 1) := by decide +kernel
theorem dX10_drawAfter_11 : decode cX10_drawAfter 11 = .ok (.ireturn, 1) := by decide +kernel
theorem dX10_refusesOne_0 : decode cX10_refusesOne 0 = .ok (.aload_n 0, 1) := by decide +kernel
theorem dX10_refusesOne_1 : decode cX10_refusesOne 1 = .ok (.getfield 19, 3) := by decide +kernel
theorem dX10_refusesOne_4 : decode cX10_refusesOne 4 = .ok (.iload_n 1, 1) := by decide +kernel
theorem dX10_refusesOne_5 : decode cX10_refusesOne 5 = .ok (.invokevirtual 108, 3) := by decide +kernel
theorem dX10_refusesOne_8 : decode cX10_refusesOne 8 = .ok (.ifCond .ne 5, 3) := by decide +kernel
theorem dX10_refusesOne_11 : decode cX10_refusesOne 11 = .ok (.iconst (-1), 1) := by decide +kernel
theorem dX10_refusesOne_12 : decode cX10_refusesOne 12 = .ok (.ireturn, 1) := by decide +kernel
theorem dX10_refusesOne_13 : decode cX10_refusesOne 13 = .ok (.aload_n 0, 1) := by decide +kernel
theorem dX10_refusesOne_14 : decode cX10_refusesOne 14 = .ok (.getfield 19, 3) := by decide +kernel
theorem dX10_refusesOne_17 : decode cX10_refusesOne 17 = .ok (.getfield 111, 3) := by decide +kernel
theorem dX10_refusesOne_20 : decode cX10_refusesOne 20 = .ok (.iload_n 1, 1) := by decide +kernel
theorem dX10_refusesOne_21 : decode cX10_refusesOne 21 = .ok (.aaload, 1) := by decide +kernel
theorem dX10_refusesOne_22 : decode cX10_refusesOne 22 = .ok (.invokevirtual 185, 3) := by decide +kernel
theorem dX10_refusesOne_25 : decode cX10_refusesOne 25 = .ok (.ifCond .eq 7, 3) := by decide +kernel
theorem dX10_refusesOne_28 : decode cX10_refusesOne 28 = .ok (.iconst 0, 1) := by decide +kernel
theorem dX10_refusesOne_29 : decode cX10_refusesOne 29 = .ok (.goto 5, 3) := by decide +kernel
theorem dX10_refusesOne_32 : decode cX10_refusesOne 32 = .ok (.bipush (-2), 2) := by decide +kernel
theorem dX10_refusesOne_34 : decode cX10_refusesOne 34 = .ok (.ireturn, 1) := by decide +kernel
theorem dX10_refusesTwo_0 : decode cX10_refusesTwo 0 = .ok (.aload_n 0, 1) := by decide +kernel
theorem dX10_refusesTwo_1 : decode cX10_refusesTwo 1 = .ok (.getfield 19, 3) := by decide +kernel
theorem dX10_refusesTwo_4 : decode cX10_refusesTwo 4 = .ok (.iload_n 1, 1) := by decide +kernel
theorem dX10_refusesTwo_5 : decode cX10_refusesTwo 5 = .ok (.invokevirtual 108, 3) := by decide +kernel
theorem dX10_refusesTwo_8 : decode cX10_refusesTwo 8 = .ok (.ifCond .eq 19, 3) := by decide +kernel
theorem dX10_refusesTwo_11 : decode cX10_refusesTwo 11 = .ok (.aload_n 0, 1) := by decide +kernel
theorem dX10_refusesTwo_12 : decode cX10_refusesTwo 12 = .ok (.getfield 19, 3) := by decide +kernel
theorem dX10_refusesTwo_15 : decode cX10_refusesTwo 15 = .ok (.iload_n 2, 1) := by decide +kernel
theorem dX10_refusesTwo_16 : decode cX10_refusesTwo 16 = .ok (.invokevirtual 108, 3) := by decide +kernel
theorem dX10_refusesTwo_19 : decode cX10_refusesTwo 19 = .ok (.ifCond .eq 8, 3) := by decide +kernel
theorem dX10_refusesTwo_22 : decode cX10_refusesTwo 22 = .ok (.iload_n 1, 1) := by decide +kernel
theorem dX10_refusesTwo_23 : decode cX10_refusesTwo 23 = .ok (.iload_n 2, 1) := by decide +kernel
theorem dX10_refusesTwo_24 : decode cX10_refusesTwo 24 = .ok (.if_icmp .ne 5, 3) := by decide +kernel
theorem dX10_refusesTwo_27 : decode cX10_refusesTwo 27 = .ok (.iconst (-1), 1) := by decide +kernel
theorem dX10_refusesTwo_28 : decode cX10_refusesTwo 28 = .ok (.ireturn, 1) := by decide +kernel
theorem dX10_refusesTwo_29 : decode cX10_refusesTwo 29 = .ok (.aload_n 0, 1) := by decide +kernel
theorem dX10_refusesTwo_30 : decode cX10_refusesTwo 30 = .ok (.getfield 19, 3) := by decide +kernel
theorem dX10_refusesTwo_33 : decode cX10_refusesTwo 33 = .ok (.getfield 111, 3) := by decide +kernel
theorem dX10_refusesTwo_36 : decode cX10_refusesTwo 36 = .ok (.iload_n 1, 1) := by decide +kernel
theorem dX10_refusesTwo_37 : decode cX10_refusesTwo 37 = .ok (.aaload, 1) := by decide +kernel
theorem dX10_refusesTwo_38 : decode cX10_refusesTwo 38 = .ok (.invokevirtual 185, 3) := by decide +kernel
theorem dX10_refusesTwo_41 : decode cX10_refusesTwo 41 = .ok (.ifCond .eq 22, 3) := by decide +kernel
theorem dX10_refusesTwo_44 : decode cX10_refusesTwo 44 = .ok (.aload_n 0, 1) := by decide +kernel
theorem dX10_refusesTwo_45 : decode cX10_refusesTwo 45 = .ok (.getfield 19, 3) := by decide +kernel
theorem dX10_refusesTwo_48 : decode cX10_refusesTwo 48 = .ok (.getfield 111, 3) := by decide +kernel
theorem dX10_refusesTwo_51 : decode cX10_refusesTwo 51 = .ok (.iload_n 2, 1) := by decide +kernel
theorem dX10_refusesTwo_52 : decode cX10_refusesTwo 52 = .ok (.aaload, 1) := by decide +kernel
theorem dX10_refusesTwo_53 : decode cX10_refusesTwo 53 = .ok (.invokevirtual 185, 3) := by decide +kernel
theorem dX10_refusesTwo_56 : decode cX10_refusesTwo 56 = .ok (.ifCond .eq 7, 3) := by decide +kernel
theorem dX10_refusesTwo_59 : decode cX10_refusesTwo 59 = .ok (.iconst 0, 1) := by decide +kernel
theorem dX10_refusesTwo_60 : decode cX10_refusesTwo 60 = .ok (.goto 5, 3) := by decide +kernel
theorem dX10_refusesTwo_63 : decode cX10_refusesTwo 63 = .ok (.bipush (-2), 2) := by decide +kernel
theorem dX10_refusesTwo_65 : decode cX10_refusesTwo 65 = .ok (.ireturn, 1) := by decide +kernel
theorem dX10_refusesRow_0 : decode cX10_refusesRow 0 = .ok (.iload_n 1, 1) := by decide +kernel
theorem dX10_refusesRow_1 : decode cX10_refusesRow 1 = .ok (.iconst 0, 1) := by decide +kernel
theorem dX10_refusesRow_2 : decode cX10_refusesRow 2 = .ok (.iconst 3, 1) := by decide +kernel
theorem dX10_refusesRow_3 : decode cX10_refusesRow 3 = .ok (.invokestatic 79, 3) := by decide +kernel
theorem dX10_refusesRow_6 : decode cX10_refusesRow 6 = .ok (.ifCond .eq 12, 3) := by decide +kernel
theorem dX10_refusesRow_9 : decode cX10_refusesRow 9 = .ok (.iload_n 2, 1) := by decide +kernel
theorem dX10_refusesRow_10 : decode cX10_refusesRow 10 = .ok (.iconst 0, 1) := by decide +kernel
theorem dX10_refusesRow_11 : decode cX10_refusesRow 11 = .ok (.iconst 3, 1) := by decide +kernel
theorem dX10_refusesRow_12 : decode cX10_refusesRow 12 = .ok (.invokestatic 79, 3) := by decide +kernel
theorem dX10_refusesRow_15 : decode cX10_refusesRow 15 = .ok (.ifCond .ne 5, 3) := by decide +kernel
theorem dX10_refusesRow_18 : decode cX10_refusesRow 18 = .ok (.iconst (-1), 1) := by decide +kernel
theorem dX10_refusesRow_19 : decode cX10_refusesRow 19 = .ok (.ireturn, 1) := by decide +kernel
theorem dX10_refusesRow_20 : decode cX10_refusesRow 20 = .ok (.aload_n 0, 1) := by decide +kernel
theorem dX10_refusesRow_21 : decode cX10_refusesRow 21 = .ok (.getfield 39, 3) := by decide +kernel
theorem dX10_refusesRow_24 : decode cX10_refusesRow 24 = .ok (.iload_n 1, 1) := by decide +kernel
theorem dX10_refusesRow_25 : decode cX10_refusesRow 25 = .ok (.aaload, 1) := by decide +kernel
theorem dX10_refusesRow_26 : decode cX10_refusesRow 26 = .ok (.astore 5, 2) := by decide +kernel
theorem dX10_refusesRow_28 : decode cX10_refusesRow 28 = .ok (.aload 5, 2) := by decide +kernel
theorem dX10_refusesRow_30 : decode cX10_refusesRow 30 = .ok (.invokevirtual 272, 3) := by decide +kernel
theorem dX10_refusesRow_33 : decode cX10_refusesRow 33 = .ok (.ifCond .eq 6, 3) := by decide +kernel
theorem dX10_refusesRow_36 : decode cX10_refusesRow 36 = .ok (.bipush (-11), 2) := by decide +kernel
theorem dX10_refusesRow_38 : decode cX10_refusesRow 38 = .ok (.ireturn, 1) := by decide +kernel
theorem dX10_refusesRow_39 : decode cX10_refusesRow 39 = .ok (.aload 5, 2) := by decide +kernel
theorem dX10_refusesRow_41 : decode cX10_refusesRow 41 = .ok (.getfield 290, 3) := by decide +kernel
theorem dX10_refusesRow_44 : decode cX10_refusesRow 44 = .ok (.iload_n 2, 1) := by decide +kernel
theorem dX10_refusesRow_45 : decode cX10_refusesRow 45 = .ok (.if_icmp .eq 6, 3) := by decide +kernel
theorem dX10_refusesRow_48 : decode cX10_refusesRow 48 = .ok (.bipush (-12), 2) := by decide +kernel
theorem dX10_refusesRow_50 : decode cX10_refusesRow 50 = .ok (.ireturn, 1) := by decide +kernel
theorem dX10_refusesRow_51 : decode cX10_refusesRow 51 = .ok (.aload 5, 2) := by decide +kernel
theorem dX10_refusesRow_53 : decode cX10_refusesRow 53 = .ok (.iload_n 3, 1) := by decide +kernel
theorem dX10_refusesRow_54 : decode cX10_refusesRow 54 = .ok (.iload 4, 2) := by decide +kernel
theorem dX10_refusesRow_56 : decode cX10_refusesRow 56 = .ok (.invokevirtual 293, 3) := by decide +kernel
theorem dX10_refusesRow_59 : decode cX10_refusesRow 59 = .ok (.ifCond .eq 7, 3) := by decide +kernel
theorem dX10_refusesRow_62 : decode cX10_refusesRow 62 = .ok (.iconst 0, 1) := by decide +kernel
theorem dX10_refusesRow_63 : decode cX10_refusesRow 63 = .ok (.goto 5, 3) := by decide +kernel
theorem dX10_refusesRow_66 : decode cX10_refusesRow 66 = .ok (.bipush (-13), 2) := by decide +kernel
theorem dX10_refusesRow_68 : decode cX10_refusesRow 68 = .ok (.ireturn, 1) := by decide +kernel
theorem dX10_refusesPairs_0 : decode cX10_refusesPairs 0 = .ok (.aload_n 0, 1) := by decide +kernel
theorem dX10_refusesPairs_1 : decode cX10_refusesPairs 1 = .ok (.iload_n 1, 1) := by decide +kernel
theorem dX10_refusesPairs_2 : decode cX10_refusesPairs 2 = .ok (.iload_n 2, 1) := by decide +kernel
theorem dX10_refusesPairs_3 : decode cX10_refusesPairs 3 = .ok (.iload_n 3, 1) := by decide +kernel
theorem dX10_refusesPairs_4 : decode cX10_refusesPairs 4 = .ok (.iconst 2, 1) := by decide +kernel
theorem dX10_refusesPairs_5 : decode cX10_refusesPairs 5 = .ok (.iload 4, 2) := by decide +kernel
theorem dX10_refusesPairs_7 : decode cX10_refusesPairs 7 = .ok (.imul, 1) := by decide +kernel
theorem dX10_refusesPairs_8 : decode cX10_refusesPairs 8 = .ok (.invokevirtual 279, 3) := by decide +kernel
theorem dX10_refusesPairs_11 : decode cX10_refusesPairs 11 = .ok (.istore 6, 2) := by decide +kernel
theorem dX10_refusesPairs_13 : decode cX10_refusesPairs 13 = .ok (.iload 6, 2) := by decide +kernel
theorem dX10_refusesPairs_15 : decode cX10_refusesPairs 15 = .ok (.ifCond .eq 6, 3) := by decide +kernel
theorem dX10_refusesPairs_18 : decode cX10_refusesPairs 18 = .ok (.iload 6, 2) := by decide +kernel
theorem dX10_refusesPairs_20 : decode cX10_refusesPairs 20 = .ok (.ireturn, 1) := by decide +kernel
theorem dX10_refusesPairs_21 : decode cX10_refusesPairs 21 = .ok (.aload_n 0, 1) := by decide +kernel
theorem dX10_refusesPairs_22 : decode cX10_refusesPairs 22 = .ok (.getfield 39, 3) := by decide +kernel
theorem dX10_refusesPairs_25 : decode cX10_refusesPairs 25 = .ok (.iload_n 1, 1) := by decide +kernel
theorem dX10_refusesPairs_26 : decode cX10_refusesPairs 26 = .ok (.aaload, 1) := by decide +kernel
theorem dX10_refusesPairs_27 : decode cX10_refusesPairs 27 = .ok (.iload_n 3, 1) := by decide +kernel
theorem dX10_refusesPairs_28 : decode cX10_refusesPairs 28 = .ok (.iconst 2, 1) := by decide +kernel
theorem dX10_refusesPairs_29 : decode cX10_refusesPairs 29 = .ok (.iload 4, 2) := by decide +kernel
theorem dX10_refusesPairs_31 : decode cX10_refusesPairs 31 = .ok (.imul, 1) := by decide +kernel
theorem dX10_refusesPairs_32 : decode cX10_refusesPairs 32 = .ok (.iload 5, 2) := by decide +kernel
theorem dX10_refusesPairs_34 : decode cX10_refusesPairs 34 = .ok (.invokevirtual 360, 3) := by decide +kernel
theorem dX10_refusesPairs_37 : decode cX10_refusesPairs 37 = .ok (.ifCond .eq 7, 3) := by decide +kernel
theorem dX10_refusesPairs_40 : decode cX10_refusesPairs 40 = .ok (.iconst 0, 1) := by decide +kernel
theorem dX10_refusesPairs_41 : decode cX10_refusesPairs 41 = .ok (.goto 5, 3) := by decide +kernel
theorem dX10_refusesPairs_44 : decode cX10_refusesPairs 44 = .ok (.bipush (-2), 2) := by decide +kernel
theorem dX10_refusesPairs_46 : decode cX10_refusesPairs 46 = .ok (.ireturn, 1) := by decide +kernel
theorem dX11_init_0 : decode cX11_init 0 = .ok (.aload_n 0, 1) := by decide +kernel
theorem dX11_init_1 : decode cX11_init 1 = .ok (.invokespecial 1, 3) := by decide +kernel
theorem dX11_init_4 : decode cX11_init 4 = .ok (.aload_n 0, 1) := by decide +kernel
theorem dX11_init_5 : decode cX11_init 5 = .ok (.sipush 1752, 3) := by decide +kernel
theorem dX11_init_8 : decode cX11_init 8 = .ok (.newarray .int, 2) := by decide +kernel
theorem dX11_init_10 : decode cX11_init 10 = .ok (.putfield 7, 3) := by decide +kernel
theorem dX11_init_13 : decode cX11_init 13 = .ok (.aload_n 0, 1) := by decide +kernel
theorem dX11_init_14 : decode cX11_init 14 = .ok (.iconst 2, 1) := by decide +kernel
theorem dX11_init_15 : decode cX11_init 15 = .ok (.newarray .boolean, 2) := by decide +kernel
theorem dX11_init_17 : decode cX11_init 17 = .ok (.putfield 13, 3) := by decide +kernel
theorem dX11_init_20 : decode cX11_init 20 = .ok (.aload_n 0, 1) := by decide +kernel
theorem dX11_init_21 : decode cX11_init 21 = .ok (.bipush 96, 2) := by decide +kernel
theorem dX11_init_23 : decode cX11_init 23 = .ok (.newarray .long, 2) := by decide +kernel
theorem dX11_init_25 : decode cX11_init 25 = .ok (.putfield 17, 3) := by decide +kernel
theorem dX11_init_28 : decode cX11_init 28 = .ok (.aload_n 0, 1) := by decide +kernel
theorem dX11_init_29 : decode cX11_init 29 = .ok (.iconst 4, 1) := by decide +kernel
theorem dX11_init_30 : decode cX11_init 30 = .ok (.newarray .int, 2) := by decide +kernel
theorem dX11_init_32 : decode cX11_init 32 = .ok (.putfield 21, 3) := by decide +kernel
theorem dX11_init_35 : decode cX11_init 35 = .ok (.aload_n 0, 1) := by decide +kernel
theorem dX11_init_36 : decode cX11_init 36 = .ok (.iconst 4, 1) := by decide +kernel
theorem dX11_init_37 : decode cX11_init 37 = .ok (.newarray .int, 2) := by decide +kernel
theorem dX11_init_39 : decode cX11_init 39 = .ok (.putfield 24, 3) := by decide +kernel
theorem dX11_init_42 : decode cX11_init 42 = .ok (.aload_n 0, 1) := by decide +kernel
theorem dX11_init_43 : decode cX11_init 43 = .ok (.bipush 90, 2) := by decide +kernel
theorem dX11_init_45 : decode cX11_init 45 = .ok (.newarray .int, 2) := by decide +kernel
theorem dX11_init_47 : decode cX11_init 47 = .ok (.putfield 27, 3) := by decide +kernel
theorem dX11_init_50 : decode cX11_init 50 = .ok (.aload_n 0, 1) := by decide +kernel
theorem dX11_init_51 : decode cX11_init 51 = .ok (.bipush 40, 2) := by decide +kernel
theorem dX11_init_53 : decode cX11_init 53 = .ok (.newarray .int, 2) := by decide +kernel
theorem dX11_init_55 : decode cX11_init 55 = .ok (.putfield 30, 3) := by decide +kernel
theorem dX11_init_58 : decode cX11_init 58 = .ok (.aload_n 0, 1) := by decide +kernel
theorem dX11_init_59 : decode cX11_init 59 = .ok (.sipush 729, 3) := by decide +kernel
theorem dX11_init_62 : decode cX11_init 62 = .ok (.newarray .int, 2) := by decide +kernel
theorem dX11_init_64 : decode cX11_init 64 = .ok (.putfield 33, 3) := by decide +kernel
theorem dX11_init_67 : decode cX11_init 67 = .ok (.aload_n 0, 1) := by decide +kernel
theorem dX11_init_68 : decode cX11_init 68 = .ok (.bipush 24, 2) := by decide +kernel
theorem dX11_init_70 : decode cX11_init 70 = .ok (.newarray .long, 2) := by decide +kernel
theorem dX11_init_72 : decode cX11_init 72 = .ok (.putfield 36, 3) := by decide +kernel
theorem dX11_init_75 : decode cX11_init 75 = .ok (.aload_n 0, 1) := by decide +kernel
theorem dX11_init_76 : decode cX11_init 76 = .ok (.sipush 448, 3) := by decide +kernel
theorem dX11_init_79 : decode cX11_init 79 = .ok (.newarray .int, 2) := by decide +kernel
theorem dX11_init_81 : decode cX11_init 81 = .ok (.putfield 39, 3) := by decide +kernel
theorem dX11_init_84 : decode cX11_init 84 = .ok (.aload_n 0, 1) := by decide +kernel
theorem dX11_init_85 : decode cX11_init 85 = .ok (.getfield 7, 3) := by decide +kernel
theorem dX11_init_88 : decode cX11_init 88 = .ok (.bipush 6, 2) := by decide +kernel
theorem dX11_init_90 : decode cX11_init 90 = .ok (.iconst 1, 1) := by decide +kernel
theorem dX11_init_91 : decode cX11_init 91 = .ok (.iastore, 1) := by decide +kernel
theorem dX11_init_92 : decode cX11_init 92 = .ok (.iconst 0, 1) := by decide +kernel
theorem dX11_init_93 : decode cX11_init 93 = .ok (.istore_n 1, 1) := by decide +kernel
theorem dX11_init_94 : decode cX11_init 94 = .ok (.iload_n 1, 1) := by decide +kernel
theorem dX11_init_95 : decode cX11_init 95 = .ok (.iconst 4, 1) := by decide +kernel
theorem dX11_init_96 : decode cX11_init 96 = .ok (.if_icmp .ge 16, 3) := by decide +kernel
theorem dX11_init_99 : decode cX11_init 99 = .ok (.aload_n 0, 1) := by decide +kernel
theorem dX11_init_100 : decode cX11_init 100 = .ok (.getfield 24, 3) := by decide +kernel
theorem dX11_init_103 : decode cX11_init 103 = .ok (.iload_n 1, 1) := by decide +kernel
theorem dX11_init_104 : decode cX11_init 104 = .ok (.iconst (-1), 1) := by decide +kernel
theorem dX11_init_105 : decode cX11_init 105 = .ok (.iastore, 1) := by decide +kernel
theorem dX11_init_106 : decode cX11_init 106 = .ok (.iinc 1 1, 3) := by decide +kernel
theorem dX11_init_109 : decode cX11_init 109 = .ok (.goto (-15), 3) := by decide +kernel
theorem dX11_init_112 : decode cX11_init 112 = .ok (.return_, 1) := by decide +kernel
theorem dX11_in_0 : decode cX11_in 0 = .ok (.lload_n 0, 1) := by decide +kernel
theorem dX11_in_1 : decode cX11_in 1 = .ok (.lload_n 2, 1) := by decide +kernel
theorem dX11_in_2 : decode cX11_in 2 = .ok (.lcmp, 1) := by decide +kernel
theorem dX11_in_3 : decode cX11_in 3 = .ok (.ifCond .lt 14, 3) := by decide +kernel
theorem dX11_in_6 : decode cX11_in 6 = .ok (.lload_n 0, 1) := by decide +kernel
theorem dX11_in_7 : decode cX11_in 7 = .ok (.lload 4, 2) := by decide +kernel
theorem dX11_in_9 : decode cX11_in 9 = .ok (.lcmp, 1) := by decide +kernel
theorem dX11_in_10 : decode cX11_in 10 = .ok (.ifCond .gt 7, 3) := by decide +kernel
theorem dX11_in_13 : decode cX11_in 13 = .ok (.iconst 1, 1) := by decide +kernel
theorem dX11_in_14 : decode cX11_in 14 = .ok (.goto 4, 3) := by decide +kernel
theorem dX11_in_17 : decode cX11_in 17 = .ok (.iconst 0, 1) := by decide +kernel
theorem dX11_in_18 : decode cX11_in 18 = .ok (.ireturn, 1) := by decide +kernel
theorem dX11_has_0 : decode cX11_has 0 = .ok (.iload_n 0, 1) := by decide +kernel
theorem dX11_has_1 : decode cX11_has 1 = .ok (.iload_n 1, 1) := by decide +kernel
theorem dX11_has_2 : decode cX11_has 2 = .ok (.ishr, 1) := by decide +kernel
theorem dX11_has_3 : decode cX11_has 3 = .ok (.iconst 1, 1) := by decide +kernel
theorem dX11_has_4 : decode cX11_has 4 = .ok (.iand, 1) := by decide +kernel
theorem dX11_has_5 : decode cX11_has 5 = .ok (.iconst 1, 1) := by decide +kernel
theorem dX11_has_6 : decode cX11_has 6 = .ok (.if_icmp .ne 7, 3) := by decide +kernel
theorem dX11_has_9 : decode cX11_has 9 = .ok (.iconst 1, 1) := by decide +kernel
theorem dX11_has_10 : decode cX11_has 10 = .ok (.goto 4, 3) := by decide +kernel
theorem dX11_has_13 : decode cX11_has 13 = .ok (.iconst 0, 1) := by decide +kernel
theorem dX11_has_14 : decode cX11_has 14 = .ok (.ireturn, 1) := by decide +kernel
theorem dX11_ones_0 : decode cX11_ones 0 = .ok (.iconst 0, 1) := by decide +kernel
theorem dX11_ones_1 : decode cX11_ones 1 = .ok (.istore_n 1, 1) := by decide +kernel
theorem dX11_ones_2 : decode cX11_ones 2 = .ok (.iconst 0, 1) := by decide +kernel
theorem dX11_ones_3 : decode cX11_ones 3 = .ok (.istore_n 2, 1) := by decide +kernel
theorem dX11_ones_4 : decode cX11_ones 4 = .ok (.iload_n 2, 1) := by decide +kernel
theorem dX11_ones_5 : decode cX11_ones 5 = .ok (.bipush 8, 2) := by decide +kernel
theorem dX11_ones_7 : decode cX11_ones 7 = .ok (.if_icmp .ge 17, 3) := by decide +kernel
theorem dX11_ones_10 : decode cX11_ones 10 = .ok (.iload_n 1, 1) := by decide +kernel
theorem dX11_ones_11 : decode cX11_ones 11 = .ok (.iload_n 0, 1) := by decide +kernel
theorem dX11_ones_12 : decode cX11_ones 12 = .ok (.iload_n 2, 1) := by decide +kernel
theorem dX11_ones_13 : decode cX11_ones 13 = .ok (.ishr, 1) := by decide +kernel
theorem dX11_ones_14 : decode cX11_ones 14 = .ok (.iconst 1, 1) := by decide +kernel
theorem dX11_ones_15 : decode cX11_ones 15 = .ok (.iand, 1) := by decide +kernel
theorem dX11_ones_16 : decode cX11_ones 16 = .ok (.iadd, 1) := by decide +kernel
theorem dX11_ones_17 : decode cX11_ones 17 = .ok (.istore_n 1, 1) := by decide +kernel
theorem dX11_ones_18 : decode cX11_ones 18 = .ok (.iinc 2 1, 3) := by decide +kernel
theorem dX11_ones_21 : decode cX11_ones 21 = .ok (.goto (-17), 3) := by decide +kernel
theorem dX11_ones_24 : decode cX11_ones 24 = .ok (.iload_n 1, 1) := by decide +kernel
theorem dX11_ones_25 : decode cX11_ones 25 = .ok (.ireturn, 1) := by decide +kernel
theorem dX11_copyRow_0 : decode cX11_copyRow 0 = .ok (.iconst 0, 1) := by decide +kernel
theorem dX11_copyRow_1 : decode cX11_copyRow 1 = .ok (.istore_n 3, 1) := by decide +kernel
theorem dX11_copyRow_2 : decode cX11_copyRow 2 = .ok (.iload_n 3, 1) := by decide +kernel
theorem dX11_copyRow_3 : decode cX11_copyRow 3 = .ok (.bipush 73, 2) := by decide +kernel
theorem dX11_copyRow_5 : decode cX11_copyRow 5 = .ok (.if_icmp .ge 25, 3) := by decide +kernel
theorem dX11_copyRow_8 : decode cX11_copyRow 8 = .ok (.aload_n 0, 1) := by decide +kernel
theorem dX11_copyRow_9 : decode cX11_copyRow 9 = .ok (.getfield 7, 3) := by decide +kernel
theorem dX11_copyRow_12 : decode cX11_copyRow 12 = .ok (.iload_n 2, 1) := by decide +kernel
theorem dX11_copyRow_13 : decode cX11_copyRow 13 = .ok (.iload_n 3, 1) := by decide +kernel
theorem dX11_copyRow_14 : decode cX11_copyRow 14 = .ok (.iadd, 1) := by decide +kernel
theorem dX11_copyRow_15 : decode cX11_copyRow 15 = .ok (.aload_n 0, 1) := by decide +kernel
theorem dX11_copyRow_16 : decode cX11_copyRow 16 = .ok (.getfield 7, 3) := by decide +kernel
theorem dX11_copyRow_19 : decode cX11_copyRow 19 = .ok (.iload_n 1, 1) := by decide +kernel
theorem dX11_copyRow_20 : decode cX11_copyRow 20 = .ok (.iload_n 3, 1) := by decide +kernel
theorem dX11_copyRow_21 : decode cX11_copyRow 21 = .ok (.iadd, 1) := by decide +kernel
theorem dX11_copyRow_22 : decode cX11_copyRow 22 = .ok (.iaload, 1) := by decide +kernel
theorem dX11_copyRow_23 : decode cX11_copyRow 23 = .ok (.iastore, 1) := by decide +kernel
theorem dX11_copyRow_24 : decode cX11_copyRow 24 = .ok (.iinc 3 1, 3) := by decide +kernel
theorem dX11_copyRow_27 : decode cX11_copyRow 27 = .ok (.goto (-25), 3) := by decide +kernel
theorem dX11_copyRow_30 : decode cX11_copyRow 30 = .ok (.return_, 1) := by decide +kernel
theorem dX11_isSitter_0 : decode cX11_isSitter 0 = .ok (.iload_n 1, 1) := by decide +kernel
theorem dX11_isSitter_1 : decode cX11_isSitter 1 = .ok (.i2l, 1) := by decide +kernel
theorem dX11_isSitter_2 : decode cX11_isSitter 2 = .ok (.lconst 0, 1) := by decide +kernel
theorem dX11_isSitter_3 : decode cX11_isSitter 3 = .ok (.aload_n 0, 1) := by decide +kernel
theorem dX11_isSitter_4 : decode cX11_isSitter 4 = .ok (.getfield 7, 3) := by decide +kernel
theorem dX11_isSitter_7 : decode cX11_isSitter 7 = .ok (.iconst 1, 1) := by decide +kernel
theorem dX11_isSitter_8 : decode cX11_isSitter 8 = .ok (.iaload, 1) := by decide +kernel
theorem dX11_isSitter_9 : decode cX11_isSitter 9 = .ok (.iconst 1, 1) := by decide +kernel
theorem dX11_isSitter_10 : decode cX11_isSitter 10 = .ok (.isub, 1) := by decide +kernel
theorem dX11_isSitter_11 : decode cX11_isSitter 11 = .ok (.i2l, 1) := by decide +kernel
theorem dX11_isSitter_12 : decode cX11_isSitter 12 = .ok (.invokestatic 42, 3) := by decide +kernel
theorem dX11_isSitter_15 : decode cX11_isSitter 15 = .ok (.ireturn, 1) := by decide +kernel
theorem dX11_isDown_0 : decode cX11_isDown 0 = .ok (.aload_n 0, 1) := by decide +kernel
theorem dX11_isDown_1 : decode cX11_isDown 1 = .ok (.getfield 7, 3) := by decide +kernel
theorem dX11_isDown_4 : decode cX11_isDown 4 = .ok (.iload_n 1, 1) := by decide +kernel
theorem dX11_isDown_5 : decode cX11_isDown 5 = .ok (.bipush 67, 2) := by decide +kernel
theorem dX11_isDown_7 : decode cX11_isDown 7 = .ok (.iadd, 1) := by decide +kernel
theorem dX11_isDown_8 : decode cX11_isDown 8 = .ok (.iload_n 2, 1) := by decide +kernel
theorem dX11_isDown_9 : decode cX11_isDown 9 = .ok (.iadd, 1) := by decide +kernel
theorem dX11_isDown_10 : decode cX11_isDown 10 = .ok (.iaload, 1) := by decide +kernel
theorem dX11_isDown_11 : decode cX11_isDown 11 = .ok (.ifCond .lt 7, 3) := by decide +kernel
theorem dX11_isDown_14 : decode cX11_isDown 14 = .ok (.iconst 1, 1) := by decide +kernel
theorem dX11_isDown_15 : decode cX11_isDown 15 = .ok (.goto 4, 3) := by decide +kernel
theorem dX11_isDown_18 : decode cX11_isDown 18 = .ok (.iconst 0, 1) := by decide +kernel
theorem dX11_isDown_19 : decode cX11_isDown 19 = .ok (.ireturn, 1) := by decide +kernel
theorem dX11_feed_0 : decode cX11_feed 0 = .ok (.iload_n 1, 1) := by decide +kernel
theorem dX11_feed_1 : decode cX11_feed 1 = .ok (.i2l, 1) := by decide +kernel
theorem dX11_feed_2 : decode cX11_feed 2 = .ok (.lconst 0, 1) := by decide +kernel
theorem dX11_feed_3 : decode cX11_feed 3 = .ok (.ldc2_w 46, 3) := by decide +kernel
theorem dX11_feed_6 : decode cX11_feed 6 = .ok (.invokestatic 42, 3) := by decide +kernel
theorem dX11_feed_9 : decode cX11_feed 9 = .ok (.ifCond .ne 5, 3) := by decide +kernel
theorem dX11_feed_12 : decode cX11_feed 12 = .ok (.iconst (-1), 1) := by decide +kernel
theorem dX11_feed_13 : decode cX11_feed 13 = .ok (.ireturn, 1) := by decide +kernel
theorem dX11_feed_14 : decode cX11_feed 14 = .ok (.aload_n 0, 1) := by decide +kernel
theorem dX11_feed_15 : decode cX11_feed 15 = .ok (.getfield 48, 3) := by decide +kernel
theorem dX11_feed_18 : decode cX11_feed 18 = .ok (.bipush 90, 2) := by decide +kernel
theorem dX11_feed_20 : decode cX11_feed 20 = .ok (.if_icmp .ne 6, 3) := by decide +kernel
theorem dX11_feed_23 : decode cX11_feed 23 = .ok (.bipush (-3), 2) := by decide +kernel
theorem dX11_feed_25 : decode cX11_feed 25 = .ok (.ireturn, 1) := by decide +kernel
theorem dX11_feed_26 : decode cX11_feed 26 = .ok (.aload_n 0, 1) := by decide +kernel
theorem dX11_feed_27 : decode cX11_feed 27 = .ok (.getfield 27, 3) := by decide +kernel
theorem dX11_feed_30 : decode cX11_feed 30 = .ok (.aload_n 0, 1) := by decide +kernel
theorem dX11_feed_31 : decode cX11_feed 31 = .ok (.getfield 48, 3) := by decide +kernel
theorem dX11_feed_34 : decode cX11_feed 34 = .ok (.iload_n 1, 1) := by decide +kernel
theorem dX11_feed_35 : decode cX11_feed 35 = .ok (.iastore, 1) := by decide +kernel
theorem dX11_feed_36 : decode cX11_feed 36 = .ok (.aload_n 0, 1) := by decide +kernel
theorem dX11_feed_37 : decode cX11_feed 37 = .ok (.dup, 1) := by decide +kernel
theorem dX11_feed_38 : decode cX11_feed 38 = .ok (.getfield 48, 3) := by decide +kernel
theorem dX11_feed_41 : decode cX11_feed 41 = .ok (.iconst 1, 1) := by decide +kernel
theorem dX11_feed_42 : decode cX11_feed 42 = .ok (.iadd, 1) := by decide +kernel
theorem dX11_feed_43 : decode cX11_feed 43 = .ok (.putfield 48, 3) := by decide +kernel
theorem dX11_feed_46 : decode cX11_feed 46 = .ok (.aload_n 0, 1) := by decide +kernel
theorem dX11_feed_47 : decode cX11_feed 47 = .ok (.getfield 48, 3) := by decide +kernel
theorem dX11_feed_50 : decode cX11_feed 50 = .ok (.ireturn, 1) := by decide +kernel
theorem dX11_byteAt_0 : decode cX11_byteAt 0 = .ok (.iload_n 1, 1) := by decide +kernel
theorem dX11_byteAt_1 : decode cX11_byteAt 1 = .ok (.aload_n 0, 1) := by decide +kernel
theorem dX11_byteAt_2 : decode cX11_byteAt 2 = .ok (.getfield 48, 3) := by decide +kernel
theorem dX11_byteAt_5 : decode cX11_byteAt 5 = .ok (.if_icmp .ge 12, 3) := by decide +kernel
theorem dX11_byteAt_8 : decode cX11_byteAt 8 = .ok (.aload_n 0, 1) := by decide +kernel
theorem dX11_byteAt_9 : decode cX11_byteAt 9 = .ok (.getfield 27, 3) := by decide +kernel
theorem dX11_byteAt_12 : decode cX11_byteAt 12 = .ok (.iload_n 1, 1) := by decide +kernel
theorem dX11_byteAt_13 : decode cX11_byteAt 13 = .ok (.iaload, 1) := by decide +kernel
theorem dX11_byteAt_14 : decode cX11_byteAt 14 = .ok (.goto 4, 3) := by decide +kernel
theorem dX11_byteAt_17 : decode cX11_byteAt 17 = .ok (.iconst (-1), 1) := by decide +kernel
theorem dX11_byteAt_18 : decode cX11_byteAt 18 = .ok (.ireturn, 1) := by decide +kernel
theorem dX11_fails_0 : decode cX11_fails 0 = .ok (.aload_n 0, 1) := by decide +kernel
theorem dX11_fails_1 : decode cX11_fails 1 = .ok (.iload_n 1, 1) := by decide +kernel
theorem dX11_fails_2 : decode cX11_fails 2 = .ok (.putfield 52, 3) := by decide +kernel
theorem dX11_fails_5 : decode cX11_fails 5 = .ok (.iconst 0, 1) := by decide +kernel
theorem dX11_fails_6 : decode cX11_fails 6 = .ok (.ireturn, 1) := by decide +kernel
theorem dX11_takes_0 : decode cX11_takes 0 = .ok (.aload_n 0, 1) := by decide +kernel
theorem dX11_takes_1 : decode cX11_takes 1 = .ok (.aload_n 0, 1) := by decide +kernel
theorem dX11_takes_2 : decode cX11_takes 2 = .ok (.getfield 55, 3) := by decide +kernel
theorem dX11_takes_5 : decode cX11_takes 5 = .ok (.invokevirtual 58, 3) := by decide +kernel
theorem dX11_takes_8 : decode cX11_takes 8 = .ok (.iload_n 1, 1) := by decide +kernel
theorem dX11_takes_9 : decode cX11_takes 9 = .ok (.if_icmp .eq 12, 3) := by decide +kernel
theorem dX11_takes_12 : decode cX11_takes 12 = .ok (.aload_n 0, 1) := by decide +kernel
theorem dX11_takes_13 : decode cX11_takes 13 = .ok (.aload_n 0, 1) := by decide +kernel
theorem dX11_takes_14 : decode cX11_takes 14 = .ok (.getfield 55, 3) := by decide +kernel
theorem dX11_takes_17 : decode cX11_takes 17 = .ok (.invokevirtual 62, 3) := by decide +kernel
theorem dX11_takes_20 : decode cX11_takes 20 = .ok (.ireturn, 1) := by decide +kernel
theorem dX11_takes_21 : decode cX11_takes 21 = .ok (.aload_n 0, 1) := by decide +kernel
theorem dX11_takes_22 : decode cX11_takes 22 = .ok (.dup, 1) := by decide +kernel
theorem dX11_takes_23 : decode cX11_takes 23 = .ok (.getfield 55, 3) := by decide +kernel
theorem dX11_takes_26 : decode cX11_takes 26 = .ok (.iconst 1, 1) := by decide +kernel
theorem dX11_takes_27 : decode cX11_takes 27 = .ok (.iadd, 1) := by decide +kernel
theorem dX11_takes_28 : decode cX11_takes 28 = .ok (.putfield 55, 3) := by decide +kernel
theorem dX11_takes_31 : decode cX11_takes 31 = .ok (.iconst 1, 1) := by decide +kernel
theorem dX11_takes_32 : decode cX11_takes 32 = .ok (.ireturn, 1) := by decide +kernel
theorem dX11_takesNumber_0 : decode cX11_takesNumber 0 = .ok (.aload_n 0, 1) := by decide +kernel
theorem dX11_takesNumber_1 : decode cX11_takesNumber 1 = .ok (.getfield 55, 3) := by decide +kernel
theorem dX11_takesNumber_4 : decode cX11_takesNumber 4 = .ok (.istore 4, 2) := by decide +kernel
theorem dX11_takesNumber_6 : decode cX11_takesNumber 6 = .ok (.aload_n 0, 1) := by decide +kernel
theorem dX11_takesNumber_7 : decode cX11_takesNumber 7 = .ok (.iconst 0, 1) := by decide +kernel
theorem dX11_takesNumber_8 : decode cX11_takesNumber 8 = .ok (.putfield 66, 3) := by decide +kernel
theorem dX11_takesNumber_11 : decode cX11_takesNumber 11 = .ok (.aload_n 0, 1) := by decide +kernel
theorem dX11_takesNumber_12 : decode cX11_takesNumber 12 = .ok (.aload_n 0, 1) := by decide +kernel
theorem dX11_takesNumber_13 : decode cX11_takesNumber 13 = .ok (.getfield 55, 3) := by decide +kernel
theorem dX11_takesNumber_16 : decode cX11_takesNumber 16 = .ok (.invokevirtual 58, 3) := by decide +kernel
theorem dX11_takesNumber_19 : decode cX11_takesNumber 19 = .ok (.i2l, 1) := by decide +kernel
theorem dX11_takesNumber_20 : decode cX11_takesNumber 20 = .ok (.ldc2_w 69, 3) := by decide +kernel
theorem dX11_takesNumber_23 : decode cX11_takesNumber 23 = .ok (.ldc2_w 71, 3) := by decide +kernel
theorem dX11_takesNumber_26 : decode cX11_takesNumber 26 = .ok (.invokestatic 42, 3) := by decide +kernel
theorem dX11_takesNumber_29 : decode cX11_takesNumber 29 = .ok (.ifCond .eq 57, 3) := by decide +kernel
theorem dX11_takesNumber_32 : decode cX11_takesNumber 32 = .ok (.aload_n 0, 1) := by decide +kernel
theorem dX11_takesNumber_33 : decode cX11_takesNumber 33 = .ok (.aload_n 0, 1) := by decide +kernel
theorem dX11_takesNumber_34 : decode cX11_takesNumber 34 = .ok (.getfield 55, 3) := by decide +kernel
theorem dX11_takesNumber_37 : decode cX11_takesNumber 37 = .ok (.iload 4, 2) := by decide +kernel
theorem dX11_takesNumber_39 : decode cX11_takesNumber 39 = .ok (.isub, 1) := by decide +kernel
theorem dX11_takesNumber_40 : decode cX11_takesNumber 40 = .ok (.iconst 2, 1) := by decide +kernel
theorem dX11_takesNumber_41 : decode cX11_takesNumber 41 = .ok (.if_icmp .ge 25, 3) := by decide +kernel
theorem dX11_takesNumber_44 : decode cX11_takesNumber 44 = .ok (.bipush 10, 2) := by decide +kernel
theorem dX11_takesNumber_46 : decode cX11_takesNumber 46 = .ok (.aload_n 0, 1) := by decide +kernel
theorem dX11_takesNumber_47 : decode cX11_takesNumber 47 = .ok (.getfield 66, 3) := by decide +kernel
theorem dX11_takesNumber_50 : decode cX11_takesNumber 50 = .ok (.imul, 1) := by decide +kernel
theorem dX11_takesNumber_51 : decode cX11_takesNumber 51 = .ok (.aload_n 0, 1) := by decide +kernel
theorem dX11_takesNumber_52 : decode cX11_takesNumber 52 = .ok (.aload_n 0, 1) := by decide +kernel
theorem dX11_takesNumber_53 : decode cX11_takesNumber 53 = .ok (.getfield 55, 3) := by decide +kernel
theorem dX11_takesNumber_56 : decode cX11_takesNumber 56 = .ok (.invokevirtual 58, 3) := by decide +kernel
theorem dX11_takesNumber_59 : decode cX11_takesNumber 59 = .ok (.iadd, 1) := by decide +kernel
theorem dX11_takesNumber_60 : decode cX11_takesNumber 60 = .ok (.bipush 48, 2) := by decide +kernel
theorem dX11_takesNumber_62 : decode cX11_takesNumber 62 = .ok (.isub, 1) := by decide +kernel
theorem dX11_takesNumber_63 : decode cX11_takesNumber 63 = .ok (.goto 7, 3) := by decide +kernel
theorem dX11_takesNumber_66 : decode cX11_takesNumber 66 = .ok (.aload_n 0, 1) := by decide +kernel
theorem dX11_takesNumber_67 : decode cX11_takesNumber 67 = .ok (.getfield 66, 3) := by decide +kernel
theorem dX11_takesNumber_70 : decode cX11_takesNumber 70 = .ok (.putfield 66, 3) := by decide +kernel
theorem dX11_takesNumber_73 : decode cX11_takesNumber 73 = .ok (.aload_n 0, 1) := by decide +kernel
theorem dX11_takesNumber_74 : decode cX11_takesNumber 74 = .ok (.dup, 1) := by decide +kernel
theorem dX11_takesNumber_75 : decode cX11_takesNumber 75 = .ok (.getfield 55, 3) := by decide +kernel
theorem dX11_takesNumber_78 : decode cX11_takesNumber 78 = .ok (.iconst 1, 1) := by decide +kernel
theorem dX11_takesNumber_79 : decode cX11_takesNumber 79 = .ok (.iadd, 1) := by decide +kernel
theorem dX11_takesNumber_80 : decode cX11_takesNumber 80 = .ok (.putfield 55, 3) := by decide +kernel
theorem dX11_takesNumber_83 : decode cX11_takesNumber 83 = .ok (.goto (-72), 3) := by decide +kernel
theorem dX11_takesNumber_86 : decode cX11_takesNumber 86 = .ok (.aload_n 0, 1) := by decide +kernel
theorem dX11_takesNumber_87 : decode cX11_takesNumber 87 = .ok (.getfield 55, 3) := by decide +kernel
theorem dX11_takesNumber_90 : decode cX11_takesNumber 90 = .ok (.iload 4, 2) := by decide +kernel
theorem dX11_takesNumber_92 : decode cX11_takesNumber 92 = .ok (.if_icmp .eq 29, 3) := by decide +kernel
theorem dX11_takesNumber_95 : decode cX11_takesNumber 95 = .ok (.aload_n 0, 1) := by decide +kernel
theorem dX11_takesNumber_96 : decode cX11_takesNumber 96 = .ok (.getfield 55, 3) := by decide +kernel
theorem dX11_takesNumber_99 : decode cX11_takesNumber 99 = .ok (.iload 4, 2) := by decide +kernel
theorem dX11_takesNumber_101 : decode cX11_takesNumber 101 = .ok (.isub, 1) := by decide +kernel
theorem dX11_takesNumber_102 : decode cX11_takesNumber 102 = .ok (.iconst 2, 1) := by decide +kernel
theorem dX11_takesNumber_103 : decode cX11_takesNumber 103 = .ok (.if_icmp .gt 18, 3) := by decide +kernel
theorem dX11_takesNumber_106 : decode cX11_takesNumber 106 = .ok (.aload_n 0, 1) := by decide +kernel
theorem dX11_takesNumber_107 : decode cX11_takesNumber 107 = .ok (.getfield 66, 3) := by decide +kernel
theorem dX11_takesNumber_110 : decode cX11_takesNumber 110 = .ok (.i2l, 1) := by decide +kernel
theorem dX11_takesNumber_111 : decode cX11_takesNumber 111 = .ok (.iload_n 1, 1) := by decide +kernel
theorem dX11_takesNumber_112 : decode cX11_takesNumber 112 = .ok (.i2l, 1) := by decide +kernel
theorem dX11_takesNumber_113 : decode cX11_takesNumber 113 = .ok (.iload_n 2, 1) := by decide +kernel
theorem dX11_takesNumber_114 : decode cX11_takesNumber 114 = .ok (.i2l, 1) := by decide +kernel
theorem dX11_takesNumber_115 : decode cX11_takesNumber 115 = .ok (.invokestatic 42, 3) := by decide +kernel
theorem dX11_takesNumber_118 : decode cX11_takesNumber 118 = .ok (.ifCond .ne 10, 3) := by decide +kernel
theorem dX11_takesNumber_121 : decode cX11_takesNumber 121 = .ok (.aload_n 0, 1) := by decide +kernel
theorem dX11_takesNumber_122 : decode cX11_takesNumber 122 = .ok (.iload 4, 2) := by decide +kernel
theorem dX11_takesNumber_124 : decode cX11_takesNumber 124 = .ok (.invokevirtual 62, 3) := by decide +kernel
theorem dX11_takesNumber_127 : decode cX11_takesNumber 127 = .ok (.ireturn, 1) := by decide +kernel
theorem dX11_takesNumber_128 : decode cX11_takesNumber 128 = .ok (.aload_n 0, 1) := by decide +kernel
theorem dX11_takesNumber_129 : decode cX11_takesNumber 129 = .ok (.iload_n 3, 1) := by decide +kernel
theorem dX11_takesNumber_130 : decode cX11_takesNumber 130 = .ok (.invokevirtual 73, 3) := by decide +kernel
theorem dX11_takesNumber_133 : decode cX11_takesNumber 133 = .ok (.ireturn, 1) := by decide +kernel
theorem dX11_kindBy_0 : decode cX11_kindBy 0 = .ok (.iload_n 0, 1) := by decide +kernel
theorem dX11_kindBy_1 : decode cX11_kindBy 1 = .ok (.bipush 112, 2) := by decide +kernel
theorem dX11_kindBy_3 : decode cX11_kindBy 3 = .ok (.if_icmp .ne 7, 3) := by decide +kernel
theorem dX11_kindBy_6 : decode cX11_kindBy 6 = .ok (.iconst 1, 1) := by decide +kernel
theorem dX11_kindBy_7 : decode cX11_kindBy 7 = .ok (.goto 44, 3) := by decide +kernel
theorem dX11_kindBy_10 : decode cX11_kindBy 10 = .ok (.iload_n 0, 1) := by decide +kernel
theorem dX11_kindBy_11 : decode cX11_kindBy 11 = .ok (.bipush 104, 2) := by decide +kernel
theorem dX11_kindBy_13 : decode cX11_kindBy 13 = .ok (.if_icmp .ne 7, 3) := by decide +kernel
theorem dX11_kindBy_16 : decode cX11_kindBy 16 = .ok (.iconst 2, 1) := by decide +kernel
theorem dX11_kindBy_17 : decode cX11_kindBy 17 = .ok (.goto 34, 3) := by decide +kernel
theorem dX11_kindBy_20 : decode cX11_kindBy 20 = .ok (.iload_n 0, 1) := by decide +kernel
theorem dX11_kindBy_21 : decode cX11_kindBy 21 = .ok (.bipush 109, 2) := by decide +kernel
theorem dX11_kindBy_23 : decode cX11_kindBy 23 = .ok (.if_icmp .ne 7, 3) := by decide +kernel
theorem dX11_kindBy_26 : decode cX11_kindBy 26 = .ok (.iconst 3, 1) := by decide +kernel
theorem dX11_kindBy_27 : decode cX11_kindBy 27 = .ok (.goto 24, 3) := by decide +kernel
theorem dX11_kindBy_30 : decode cX11_kindBy 30 = .ok (.iload_n 0, 1) := by decide +kernel
theorem dX11_kindBy_31 : decode cX11_kindBy 31 = .ok (.bipush 121, 2) := by decide +kernel
theorem dX11_kindBy_33 : decode cX11_kindBy 33 = .ok (.if_icmp .ne 7, 3) := by decide +kernel
theorem dX11_kindBy_36 : decode cX11_kindBy 36 = .ok (.iconst 4, 1) := by decide +kernel
theorem dX11_kindBy_37 : decode cX11_kindBy 37 = .ok (.goto 14, 3) := by decide +kernel
theorem dX11_kindBy_40 : decode cX11_kindBy 40 = .ok (.iload_n 0, 1) := by decide +kernel
theorem dX11_kindBy_41 : decode cX11_kindBy 41 = .ok (.bipush 115, 2) := by decide +kernel
theorem dX11_kindBy_43 : decode cX11_kindBy 43 = .ok (.if_icmp .ne 7, 3) := by decide +kernel
theorem dX11_kindBy_46 : decode cX11_kindBy 46 = .ok (.iconst 5, 1) := by decide +kernel
theorem dX11_kindBy_47 : decode cX11_kindBy 47 = .ok (.goto 4, 3) := by decide +kernel
theorem dX11_kindBy_50 : decode cX11_kindBy 50 = .ok (.iconst 0, 1) := by decide +kernel
theorem dX11_kindBy_51 : decode cX11_kindBy 51 = .ok (.ireturn, 1) := by decide +kernel
theorem dX11_takesSitter_0 : decode cX11_takesSitter 0 = .ok (.aload_n 0, 1) := by decide +kernel
theorem dX11_takesSitter_1 : decode cX11_takesSitter 1 = .ok (.getfield 7, 3) := by decide +kernel
theorem dX11_takesSitter_4 : decode cX11_takesSitter 4 = .ok (.sipush 220, 3) := by decide +kernel
theorem dX11_takesSitter_7 : decode cX11_takesSitter 7 = .ok (.iaload, 1) := by decide +kernel
theorem dX11_takesSitter_8 : decode cX11_takesSitter 8 = .ok (.istore_n 1, 1) := by decide +kernel
theorem dX11_takesSitter_9 : decode cX11_takesSitter 9 = .ok (.aload_n 0, 1) := by decide +kernel
theorem dX11_takesSitter_10 : decode cX11_takesSitter 10 = .ok (.aload_n 0, 1) := by decide +kernel
theorem dX11_takesSitter_11 : decode cX11_takesSitter 11 = .ok (.getfield 55, 3) := by decide +kernel
theorem dX11_takesSitter_14 : decode cX11_takesSitter 14 = .ok (.invokevirtual 58, 3) := by decide +kernel
theorem dX11_takesSitter_17 : decode cX11_takesSitter 17 = .ok (.invokestatic 76, 3) := by decide +kernel
theorem dX11_takesSitter_20 : decode cX11_takesSitter 20 = .ok (.istore_n 2, 1) := by decide +kernel
theorem dX11_takesSitter_21 : decode cX11_takesSitter 21 = .ok (.iload_n 2, 1) := by decide +kernel
theorem dX11_takesSitter_22 : decode cX11_takesSitter 22 = .ok (.ifCond .eq 9, 3) := by decide +kernel
theorem dX11_takesSitter_25 : decode cX11_takesSitter 25 = .ok (.iload_n 1, 1) := by decide +kernel
theorem dX11_takesSitter_26 : decode cX11_takesSitter 26 = .ok (.bipush 6, 2) := by decide +kernel
theorem dX11_takesSitter_28 : decode cX11_takesSitter 28 = .ok (.if_icmp .ne 12, 3) := by decide +kernel
theorem dX11_takesSitter_31 : decode cX11_takesSitter 31 = .ok (.aload_n 0, 1) := by decide +kernel
theorem dX11_takesSitter_32 : decode cX11_takesSitter 32 = .ok (.aload_n 0, 1) := by decide +kernel
theorem dX11_takesSitter_33 : decode cX11_takesSitter 33 = .ok (.getfield 55, 3) := by decide +kernel
theorem dX11_takesSitter_36 : decode cX11_takesSitter 36 = .ok (.invokevirtual 62, 3) := by decide +kernel
theorem dX11_takesSitter_39 : decode cX11_takesSitter 39 = .ok (.ireturn, 1) := by decide +kernel
theorem dX11_takesSitter_40 : decode cX11_takesSitter 40 = .ok (.aload_n 0, 1) := by decide +kernel
theorem dX11_takesSitter_41 : decode cX11_takesSitter 41 = .ok (.dup, 1) := by decide +kernel
theorem dX11_takesSitter_42 : decode cX11_takesSitter 42 = .ok (.getfield 55, 3) := by decide +kernel
theorem dX11_takesSitter_45 : decode cX11_takesSitter 45 = .ok (.iconst 1, 1) := by decide +kernel
theorem dX11_takesSitter_46 : decode cX11_takesSitter 46 = .ok (.iadd, 1) := by decide +kernel
theorem dX11_takesSitter_47 : decode cX11_takesSitter 47 = .ok (.putfield 55, 3) := by decide +kernel
theorem dX11_takesSitter_50 : decode cX11_takesSitter 50 = .ok (.aload_n 0, 1) := by decide +kernel
theorem dX11_takesSitter_51 : decode cX11_takesSitter 51 = .ok (.getfield 7, 3) := by decide +kernel
theorem dX11_takesSitter_54 : decode cX11_takesSitter 54 = .ok (.sipush 226, 3) := by decide +kernel
theorem dX11_takesSitter_57 : decode cX11_takesSitter 57 = .ok (.iload_n 1, 1) := by decide +kernel
theorem dX11_takesSitter_58 : decode cX11_takesSitter 58 = .ok (.iadd, 1) := by decide +kernel
theorem dX11_takesSitter_59 : decode cX11_takesSitter 59 = .ok (.iload_n 2, 1) := by decide +kernel
theorem dX11_takesSitter_60 : decode cX11_takesSitter 60 = .ok (.iastore, 1) := by decide +kernel
theorem dX11_takesSitter_61 : decode cX11_takesSitter 61 = .ok (.aload_n 0, 1) := by decide +kernel
theorem dX11_takesSitter_62 : decode cX11_takesSitter 62 = .ok (.getfield 7, 3) := by decide +kernel
theorem dX11_takesSitter_65 : decode cX11_takesSitter 65 = .ok (.sipush 262, 3) := by decide +kernel
theorem dX11_takesSitter_68 : decode cX11_takesSitter 68 = .ok (.iload_n 1, 1) := by decide +kernel
theorem dX11_takesSitter_69 : decode cX11_takesSitter 69 = .ok (.iadd, 1) := by decide +kernel
theorem dX11_takesSitter_70 : decode cX11_takesSitter 70 = .ok (.aload_n 0, 1) := by decide +kernel
theorem dX11_takesSitter_71 : decode cX11_takesSitter 71 = .ok (.getfield 7, 3) := by decide +kernel
theorem dX11_takesSitter_74 : decode cX11_takesSitter 74 = .ok (.sipush 222, 3) := by decide +kernel
theorem dX11_takesSitter_77 : decode cX11_takesSitter 77 = .ok (.iaload, 1) := by decide +kernel
theorem dX11_takesSitter_78 : decode cX11_takesSitter 78 = .ok (.iastore, 1) := by decide +kernel
theorem dX11_takesSitter_79 : decode cX11_takesSitter 79 = .ok (.aload_n 0, 1) := by decide +kernel
theorem dX11_takesSitter_80 : decode cX11_takesSitter 80 = .ok (.getfield 7, 3) := by decide +kernel
theorem dX11_takesSitter_83 : decode cX11_takesSitter 83 = .ok (.sipush 286, 3) := by decide +kernel
theorem dX11_takesSitter_86 : decode cX11_takesSitter 86 = .ok (.iload_n 1, 1) := by decide +kernel
theorem dX11_takesSitter_87 : decode cX11_takesSitter 87 = .ok (.iadd, 1) := by decide +kernel
theorem dX11_takesSitter_88 : decode cX11_takesSitter 88 = .ok (.iconst (-1), 1) := by decide +kernel
theorem dX11_takesSitter_89 : decode cX11_takesSitter 89 = .ok (.iastore, 1) := by decide +kernel
theorem dX11_takesSitter_90 : decode cX11_takesSitter 90 = .ok (.aload_n 0, 1) := by decide +kernel
theorem dX11_takesSitter_91 : decode cX11_takesSitter 91 = .ok (.bipush 10, 2) := by decide +kernel
theorem dX11_takesSitter_93 : decode cX11_takesSitter 93 = .ok (.bipush 99, 2) := by decide +kernel
theorem dX11_takesSitter_95 : decode cX11_takesSitter 95 = .ok (.bipush 44, 2) := by decide +kernel
theorem dX11_takesSitter_97 : decode cX11_takesSitter 97 = .ok (.invokevirtual 79, 3) := by decide +kernel
theorem dX11_takesSitter_100 : decode cX11_takesSitter 100 = .ok (.ifCond .ne 5, 3) := by decide +kernel
theorem dX11_takesSitter_103 : decode cX11_takesSitter 103 = .ok (.iconst 0, 1) := by decide +kernel
theorem dX11_takesSitter_104 : decode cX11_takesSitter 104 = .ok (.ireturn, 1) := by decide +kernel
theorem dX11_takesSitter_105 : decode cX11_takesSitter 105 = .ok (.aload_n 0, 1) := by decide +kernel
theorem dX11_takesSitter_106 : decode cX11_takesSitter 106 = .ok (.getfield 7, 3) := by decide +kernel
theorem dX11_takesSitter_109 : decode cX11_takesSitter 109 = .ok (.sipush 232, 3) := by decide +kernel
theorem dX11_takesSitter_112 : decode cX11_takesSitter 112 = .ok (.iload_n 1, 1) := by decide +kernel
theorem dX11_takesSitter_113 : decode cX11_takesSitter 113 = .ok (.iadd, 1) := by decide +kernel
theorem dX11_takesSitter_114 : decode cX11_takesSitter 114 = .ok (.aload_n 0, 1) := by decide +kernel
theorem dX11_takesSitter_115 : decode cX11_takesSitter 115 = .ok (.getfield 66, 3) := by decide +kernel
theorem dX11_takesSitter_118 : decode cX11_takesSitter 118 = .ok (.iastore, 1) := by decide +kernel
theorem dX11_takesSitter_119 : decode cX11_takesSitter 119 = .ok (.aload_n 0, 1) := by decide +kernel
theorem dX11_takesSitter_120 : decode cX11_takesSitter 120 = .ok (.iconst 0, 1) := by decide +kernel
theorem dX11_takesSitter_121 : decode cX11_takesSitter 121 = .ok (.bipush 9, 2) := by decide +kernel
theorem dX11_takesSitter_123 : decode cX11_takesSitter 123 = .ok (.bipush 44, 2) := by decide +kernel
theorem dX11_takesSitter_125 : decode cX11_takesSitter 125 = .ok (.invokevirtual 79, 3) := by decide +kernel
theorem dX11_takesSitter_128 : decode cX11_takesSitter 128 = .ok (.ifCond .ne 5, 3) := by decide +kernel
theorem dX11_takesSitter_131 : decode cX11_takesSitter 131 = .ok (.iconst 0, 1) := by decide +kernel
theorem dX11_takesSitter_132 : decode cX11_takesSitter 132 = .ok (.ireturn, 1) := by decide +kernel
theorem dX11_takesSitter_133 : decode cX11_takesSitter 133 = .ok (.aload_n 0, 1) := by decide +kernel
theorem dX11_takesSitter_134 : decode cX11_takesSitter 134 = .ok (.getfield 7, 3) := by decide +kernel
theorem dX11_takesSitter_137 : decode cX11_takesSitter 137 = .ok (.sipush 238, 3) := by decide +kernel
theorem dX11_takesSitter_140 : decode cX11_takesSitter 140 = .ok (.iload_n 1, 1) := by decide +kernel
theorem dX11_takesSitter_141 : decode cX11_takesSitter 141 = .ok (.iadd, 1) := by decide +kernel
theorem dX11_takesSitter_142 : decode cX11_takesSitter 142 = .ok (.aload_n 0, 1) := by decide +kernel
theorem dX11_takesSitter_143 : decode cX11_takesSitter 143 = .ok (.getfield 66, 3) := by decide +kernel
theorem dX11_takesSitter_146 : decode cX11_takesSitter 146 = .ok (.iastore, 1) := by decide +kernel
theorem dX11_takesSitter_147 : decode cX11_takesSitter 147 = .ok (.aload_n 0, 1) := by decide +kernel
theorem dX11_takesSitter_148 : decode cX11_takesSitter 148 = .ok (.iconst 0, 1) := by decide +kernel
theorem dX11_takesSitter_149 : decode cX11_takesSitter 149 = .ok (.bipush 9, 2) := by decide +kernel
theorem dX11_takesSitter_151 : decode cX11_takesSitter 151 = .ok (.bipush 44, 2) := by decide +kernel
theorem dX11_takesSitter_153 : decode cX11_takesSitter 153 = .ok (.invokevirtual 79, 3) := by decide +kernel
theorem dX11_takesSitter_156 : decode cX11_takesSitter 156 = .ok (.ifCond .ne 5, 3) := by decide +kernel
theorem dX11_takesSitter_159 : decode cX11_takesSitter 159 = .ok (.iconst 0, 1) := by decide +kernel
theorem dX11_takesSitter_160 : decode cX11_takesSitter 160 = .ok (.ireturn, 1) := by decide +kernel
theorem dX11_takesSitter_161 : decode cX11_takesSitter 161 = .ok (.aload_n 0, 1) := by decide +kernel
theorem dX11_takesSitter_162 : decode cX11_takesSitter 162 = .ok (.getfield 7, 3) := by decide +kernel
theorem dX11_takesSitter_165 : decode cX11_takesSitter 165 = .ok (.sipush 244, 3) := by decide +kernel
theorem dX11_takesSitter_168 : decode cX11_takesSitter 168 = .ok (.iload_n 1, 1) := by decide +kernel
theorem dX11_takesSitter_169 : decode cX11_takesSitter 169 = .ok (.iadd, 1) := by decide +kernel
theorem dX11_takesSitter_170 : decode cX11_takesSitter 170 = .ok (.aload_n 0, 1) := by decide +kernel
theorem dX11_takesSitter_171 : decode cX11_takesSitter 171 = .ok (.getfield 66, 3) := by decide +kernel
theorem dX11_takesSitter_174 : decode cX11_takesSitter 174 = .ok (.iastore, 1) := by decide +kernel
theorem dX11_takesSitter_175 : decode cX11_takesSitter 175 = .ok (.aload_n 0, 1) := by decide +kernel
theorem dX11_takesSitter_176 : decode cX11_takesSitter 176 = .ok (.iconst 0, 1) := by decide +kernel
theorem dX11_takesSitter_177 : decode cX11_takesSitter 177 = .ok (.bipush 9, 2) := by decide +kernel
theorem dX11_takesSitter_179 : decode cX11_takesSitter 179 = .ok (.bipush 59, 2) := by decide +kernel
theorem dX11_takesSitter_181 : decode cX11_takesSitter 181 = .ok (.invokevirtual 79, 3) := by decide +kernel
theorem dX11_takesSitter_184 : decode cX11_takesSitter 184 = .ok (.ifCond .ne 5, 3) := by decide +kernel
theorem dX11_takesSitter_187 : decode cX11_takesSitter 187 = .ok (.iconst 0, 1) := by decide +kernel
theorem dX11_takesSitter_188 : decode cX11_takesSitter 188 = .ok (.ireturn, 1) := by decide +kernel
theorem dX11_takesSitter_189 : decode cX11_takesSitter 189 = .ok (.aload_n 0, 1) := by decide +kernel
theorem dX11_takesSitter_190 : decode cX11_takesSitter 190 = .ok (.getfield 7, 3) := by decide +kernel
theorem dX11_takesSitter_193 : decode cX11_takesSitter 193 = .ok (.sipush 250, 3) := by decide +kernel
theorem dX11_takesSitter_196 : decode cX11_takesSitter 196 = .ok (.iload_n 1, 1) := by decide +kernel
theorem dX11_takesSitter_197 : decode cX11_takesSitter 197 = .ok (.iadd, 1) := by decide +kernel
theorem dX11_takesSitter_198 : decode cX11_takesSitter 198 = .ok (.aload_n 0, 1) := by decide +kernel
theorem dX11_takesSitter_199 : decode cX11_takesSitter 199 = .ok (.getfield 66, 3) := by decide +kernel
theorem dX11_takesSitter_202 : decode cX11_takesSitter 202 = .ok (.iastore, 1) := by decide +kernel
theorem dX11_takesSitter_203 : decode cX11_takesSitter 203 = .ok (.aload_n 0, 1) := by decide +kernel
theorem dX11_takesSitter_204 : decode cX11_takesSitter 204 = .ok (.getfield 7, 3) := by decide +kernel
theorem dX11_takesSitter_207 : decode cX11_takesSitter 207 = .ok (.sipush 220, 3) := by decide +kernel
theorem dX11_takesSitter_210 : decode cX11_takesSitter 210 = .ok (.dup2, 1) := by decide +kernel
theorem dX11_takesSitter_211 : decode cX11_takesSitter 211 = .ok (.iaload, 1) := by decide +kernel
theorem dX11_takesSitter_212 : decode cX11_takesSitter 212 = .ok (.iconst 1, 1) := by decide +kernel
theorem dX11_takesSitter_213 : decode cX11_takesSitter 213 = .ok (.iadd, 1) := by decide +kernel
theorem dX11_takesSitter_214 : decode cX11_takesSitter 214 = .ok (.iastore, 1) := by decide +kernel
theorem dX11_takesSitter_215 : decode cX11_takesSitter 215 = .ok (.iconst 1, 1) := by decide +kernel
theorem dX11_takesSitter_216 : decode cX11_takesSitter 216 = .ok (.ireturn, 1) := by decide +kernel
theorem dX11_takesWall_0 : decode cX11_takesWall 0 = .ok (.aload_n 0, 1) := by decide +kernel
theorem dX11_takesWall_1 : decode cX11_takesWall 1 = .ok (.bipush 119, 2) := by decide +kernel
theorem dX11_takesWall_3 : decode cX11_takesWall 3 = .ok (.invokevirtual 73, 3) := by decide +kernel
theorem dX11_takesWall_6 : decode cX11_takesWall 6 = .ok (.ifCond .eq 15, 3) := by decide +kernel
theorem dX11_takesWall_9 : decode cX11_takesWall 9 = .ok (.aload_n 0, 1) := by decide +kernel
theorem dX11_takesWall_10 : decode cX11_takesWall 10 = .ok (.iconst 1, 1) := by decide +kernel
theorem dX11_takesWall_11 : decode cX11_takesWall 11 = .ok (.bipush 24, 2) := by decide +kernel
theorem dX11_takesWall_13 : decode cX11_takesWall 13 = .ok (.bipush 44, 2) := by decide +kernel
theorem dX11_takesWall_15 : decode cX11_takesWall 15 = .ok (.invokevirtual 79, 3) := by decide +kernel
theorem dX11_takesWall_18 : decode cX11_takesWall 18 = .ok (.ifCond .ne 5, 3) := by decide +kernel
theorem dX11_takesWall_21 : decode cX11_takesWall 21 = .ok (.iconst 0, 1) := by decide +kernel
theorem dX11_takesWall_22 : decode cX11_takesWall 22 = .ok (.ireturn, 1) := by decide +kernel
theorem dX11_takesWall_23 : decode cX11_takesWall 23 = .ok (.aload_n 0, 1) := by decide +kernel
theorem dX11_takesWall_24 : decode cX11_takesWall 24 = .ok (.getfield 7, 3) := by decide +kernel
theorem dX11_takesWall_27 : decode cX11_takesWall 27 = .ok (.sipush 221, 3) := by decide +kernel
theorem dX11_takesWall_30 : decode cX11_takesWall 30 = .ok (.aload_n 0, 1) := by decide +kernel
theorem dX11_takesWall_31 : decode cX11_takesWall 31 = .ok (.getfield 66, 3) := by decide +kernel
theorem dX11_takesWall_34 : decode cX11_takesWall 34 = .ok (.iastore, 1) := by decide +kernel
theorem dX11_takesWall_35 : decode cX11_takesWall 35 = .ok (.aload_n 0, 1) := by decide +kernel
theorem dX11_takesWall_36 : decode cX11_takesWall 36 = .ok (.iconst 0, 1) := by decide +kernel
theorem dX11_takesWall_37 : decode cX11_takesWall 37 = .ok (.bipush 9, 2) := by decide +kernel
theorem dX11_takesWall_39 : decode cX11_takesWall 39 = .ok (.bipush 59, 2) := by decide +kernel
theorem dX11_takesWall_41 : decode cX11_takesWall 41 = .ok (.invokevirtual 79, 3) := by decide +kernel
theorem dX11_takesWall_44 : decode cX11_takesWall 44 = .ok (.ifCond .ne 5, 3) := by decide +kernel
theorem dX11_takesWall_47 : decode cX11_takesWall 47 = .ok (.iconst 0, 1) := by decide +kernel
theorem dX11_takesWall_48 : decode cX11_takesWall 48 = .ok (.ireturn, 1) := by decide +kernel
theorem dX11_takesWall_49 : decode cX11_takesWall 49 = .ok (.aload_n 0, 1) := by decide +kernel
theorem dX11_takesWall_50 : decode cX11_takesWall 50 = .ok (.getfield 7, 3) := by decide +kernel
theorem dX11_takesWall_53 : decode cX11_takesWall 53 = .ok (.sipush 222, 3) := by decide +kernel
theorem dX11_takesWall_56 : decode cX11_takesWall 56 = .ok (.aload_n 0, 1) := by decide +kernel
theorem dX11_takesWall_57 : decode cX11_takesWall 57 = .ok (.getfield 66, 3) := by decide +kernel
theorem dX11_takesWall_60 : decode cX11_takesWall 60 = .ok (.iastore, 1) := by decide +kernel
theorem dX11_takesWall_61 : decode cX11_takesWall 61 = .ok (.iconst 1, 1) := by decide +kernel
theorem dX11_takesWall_62 : decode cX11_takesWall 62 = .ok (.ireturn, 1) := by decide +kernel
theorem dX11_wall_0 : decode cX11_wall 0 = .ok (.iconst 0, 1) := by decide +kernel
theorem dX11_wall_1 : decode cX11_wall 1 = .ok (.istore_n 1, 1) := by decide +kernel
theorem dX11_wall_2 : decode cX11_wall 2 = .ok (.iload_n 1, 1) := by decide +kernel
theorem dX11_wall_3 : decode cX11_wall 3 = .ok (.bipush 73, 2) := by decide +kernel
theorem dX11_wall_5 : decode cX11_wall 5 = .ok (.if_icmp .ge 20, 3) := by decide +kernel
theorem dX11_wall_8 : decode cX11_wall 8 = .ok (.aload_n 0, 1) := by decide +kernel
theorem dX11_wall_9 : decode cX11_wall 9 = .ok (.getfield 7, 3) := by decide +kernel
theorem dX11_wall_12 : decode cX11_wall 12 = .ok (.sipush 219, 3) := by decide +kernel
theorem dX11_wall_15 : decode cX11_wall 15 = .ok (.iload_n 1, 1) := by decide +kernel
theorem dX11_wall_16 : decode cX11_wall 16 = .ok (.iadd, 1) := by decide +kernel
theorem dX11_wall_17 : decode cX11_wall 17 = .ok (.iconst 0, 1) := by decide +kernel
theorem dX11_wall_18 : decode cX11_wall 18 = .ok (.iastore, 1) := by decide +kernel
theorem dX11_wall_19 : decode cX11_wall 19 = .ok (.iinc 1 1, 3) := by decide +kernel
theorem dX11_wall_22 : decode cX11_wall 22 = .ok (.goto (-20), 3) := by decide +kernel
theorem dX11_wall_25 : decode cX11_wall 25 = .ok (.aload_n 0, 1) := by decide +kernel
theorem dX11_wall_26 : decode cX11_wall 26 = .ok (.getfield 7, 3) := by decide +kernel
theorem dX11_wall_29 : decode cX11_wall 29 = .ok (.sipush 219, 3) := by decide +kernel
theorem dX11_wall_32 : decode cX11_wall 32 = .ok (.iconst 1, 1) := by decide +kernel
theorem dX11_wall_33 : decode cX11_wall 33 = .ok (.iastore, 1) := by decide +kernel
theorem dX11_wall_34 : decode cX11_wall 34 = .ok (.aload_n 0, 1) := by decide +kernel
theorem dX11_wall_35 : decode cX11_wall 35 = .ok (.getfield 7, 3) := by decide +kernel
theorem dX11_wall_38 : decode cX11_wall 38 = .ok (.sipush 225, 3) := by decide +kernel
theorem dX11_wall_41 : decode cX11_wall 41 = .ok (.aload_n 0, 1) := by decide +kernel
theorem dX11_wall_42 : decode cX11_wall 42 = .ok (.getfield 7, 3) := by decide +kernel
theorem dX11_wall_45 : decode cX11_wall 45 = .ok (.bipush 6, 2) := by decide +kernel
theorem dX11_wall_47 : decode cX11_wall 47 = .ok (.iaload, 1) := by decide +kernel
theorem dX11_wall_48 : decode cX11_wall 48 = .ok (.iastore, 1) := by decide +kernel
theorem dX11_wall_49 : decode cX11_wall 49 = .ok (.aload_n 0, 1) := by decide +kernel
theorem dX11_wall_50 : decode cX11_wall 50 = .ok (.iconst 0, 1) := by decide +kernel
theorem dX11_wall_51 : decode cX11_wall 51 = .ok (.putfield 55, 3) := by decide +kernel
theorem dX11_wall_54 : decode cX11_wall 54 = .ok (.aload_n 0, 1) := by decide +kernel
theorem dX11_wall_55 : decode cX11_wall 55 = .ok (.invokevirtual 83, 3) := by decide +kernel
theorem dX11_wall_58 : decode cX11_wall 58 = .ok (.istore_n 1, 1) := by decide +kernel
theorem dX11_wall_59 : decode cX11_wall 59 = .ok (.iload_n 1, 1) := by decide +kernel
